theorem dX11_feed_0 : decode cX11_feed 0 = .ok (.aload_n 0, 1) := by decide +kernel
theorem dX11_feed_1 : decode cX11_feed 1 = .ok (.getfield 33, 3) := by decide +kernel
theorem dX11_feed_4 : decode cX11_feed 4 = .ok (.getfield 87, 3) := by decide +kernel
theorem dX11_feed_7 : decode cX11_feed 7 = .ok (.sipush 1980, 3) := by decide +kernel
theorem dX11_feed_10 : decode cX11_feed 10 = .ok (.if_icmp .le 5, 3) := by decide +kernel
theorem dX11_feed_13 : decode cX11_feed 13 = .ok (.iconst (-1), 1) := by decide +kernel
theorem dX11_feed_14 : decode cX11_feed 14 = .ok (.ireturn, 1) := by decide +kernel
theorem dX11_feed_15 : decode cX11_feed 15 = .ok (.aload_n 0, 1) := by decide +kernel
theorem dX11_feed_16 : decode cX11_feed 16 = .ok (.getfield 33, 3) := by decide +kernel
theorem dX11_feed_19 : decode cX11_feed 19 = .ok (.iload_n 1, 1) := by decide +kernel
theorem dX11_feed_20 : decode cX11_feed 20 = .ok (.invokevirtual 91, 3) := by decide +kernel
theorem dX11_feed_23 : decode cX11_feed 23 = .ok (.aload_n 0, 1) := by decide +kernel
theorem dX11_feed_24 : decode cX11_feed 24 = .ok (.getfield 33, 3) := by decide +kernel
theorem dX11_feed_27 : decode cX11_feed 27 = .ok (.iload_n 2, 1) := by decide +kernel
theorem dX11_feed_28 : decode cX11_feed 28 = .ok (.invokevirtual 91, 3) := by decide +kernel
theorem dX11_feed_31 : decode cX11_feed 31 = .ok (.aload_n 0, 1) := by decide +kernel
theorem dX11_feed_32 : decode cX11_feed 32 = .ok (.getfield 33, 3) := by decide +kernel
theorem dX11_feed_35 : decode cX11_feed 35 = .ok (.iload_n 3, 1) := by decide +kernel
theorem dX11_feed_36 : decode cX11_feed 36 = .ok (.invokevirtual 91, 3) := by decide +kernel
theorem dX11_feed_39 : decode cX11_feed 39 = .ok (.aload_n 0, 1) := by decide +kernel
theorem dX11_feed_40 : decode cX11_feed 40 = .ok (.getfield 33, 3) := by decide +kernel
theorem dX11_feed_43 : decode cX11_feed 43 = .ok (.iload 4, 2) := by decide +kernel
theorem dX11_feed_45 : decode cX11_feed 45 = .ok (.invokevirtual 91, 3) := by decide +kernel
theorem dX11_feed_48 : decode cX11_feed 48 = .ok (.aload_n 0, 1) := by decide +kernel
theorem dX11_feed_49 : decode cX11_feed 49 = .ok (.getfield 33, 3) := by decide +kernel
theorem dX11_feed_52 : decode cX11_feed 52 = .ok (.iload 5, 2) := by decide +kernel
theorem dX11_feed_54 : decode cX11_feed 54 = .ok (.invokevirtual 91, 3) := by decide +kernel
theorem dX11_feed_57 : decode cX11_feed 57 = .ok (.aload_n 0, 1) := by decide +kernel
theorem dX11_feed_58 : decode cX11_feed 58 = .ok (.getfield 33, 3) := by decide +kernel
theorem dX11_feed_61 : decode cX11_feed 61 = .ok (.getfield 87, 3) := by decide +kernel
theorem dX11_feed_64 : decode cX11_feed 64 = .ok (.ireturn, 1) := by decide +kernel
abbrev rm_X11_feed : Room := { frames := 1, cells := 0, slots := 0, locals := 22 }
set_option maxRecDepth 100000 in
set_option maxHeartbeats 4000000 in
theorem ct_X11_feed {w : Wd} {l : Launch} {a1 : Int} {a2 : Int} {a3 : Int} {a4 : Int} {a5 : Int} {σ : St} {y : Int} {σ' : St} (ia1 : InI a1) (ia2 : InI a2) (ia3 : InI a3) (ia4 : InI a4) (ia5 : InI a5) (h : m_X11_feed a1 a2 a3 a4 a5 σ = some (y, σ')) : Ct w l yX11_feed (Cond.code yX11_feed cX11_feed 6 (some .int) :: TB) rm_X11_feed [rv w 0, iv a1, iv a2, iv a3, iv a4, iv a5] σ (some (iv y)) (InI y) σ' := by
  refine Ct.of2 [some (rv w 0), some (iv a1), some (iv a2), some (iv a3), some (iv a4), some (iv a5)] 0 rfl pn_RX11 (Nat.le_of_ble_eq_true rfl) ?_
  intro p e s m args below meth c C hr hlk
  unfold m_X11_feed at h
  refine g_aload_n C dX11_feed_0 rfl ?_
  refine g_getR (j := 1) C dX11_feed_1 rfl (Nat.le_of_ble_eq_true rfl) (Nat.le_of_ble_eq_true rfl) fl_11_33 rfl rfl (r := 16) rfl ?_
  refine g_getI (j := 0) C dX11_feed_4 rfl (Nat.le_of_ble_eq_true rfl) (Nat.le_of_ble_eq_true rfl) fl_11_87 rfl rfl (fun i1 => ?_)
  refine g_sipush C dX11_feed_7 rfl ?_
  refine g_icmp_le C dX11_feed_10 i1 (by decide) rfl (tgt := 15) (fun c2 => ?_) (fun c2 => ?_)
  · have h := ifT c2 h
    refine g_aload_n C dX11_feed_15 rfl ?_
    refine g_getR (j := 1) C dX11_feed_16 rfl (Nat.le_of_ble_eq_true rfl) (Nat.le_of_ble_eq_true rfl) fl_11_33 rfl rfl (r := 16) rfl ?_
    refine g_iload_n C dX11_feed_19 rfl ?_
    obtain ⟨σ3, qσ3, h⟩ := bnd h
    refine g_callV0 (As := [iv a1]) C dX11_feed_20 mi_X9_add ml_11_91 (ct_X9_add ia1 qσ3) rfl rfl ⟨rfl, rfl⟩ ⟨Nat.le_of_ble_eq_true rfl, Nat.le_of_ble_eq_true rfl⟩ ⟨Nat.zero_le _, Nat.zero_le _⟩ rfl (Nat.le_of_ble_eq_true rfl) (fun _ => ?_)
    refine g_aload_n C dX11_feed_23 rfl ?_
    refine g_getR (j := 1) C dX11_feed_24 rfl (Nat.le_of_ble_eq_true rfl) (Nat.le_of_ble_eq_true rfl) fl_11_33 rfl rfl (r := 16) rfl ?_
    refine g_iload_n C dX11_feed_27 rfl ?_
    obtain ⟨σ4, qσ4, h⟩ := bnd h
    refine g_callV0 (As := [iv a2]) C dX11_feed_28 mi_X9_add ml_11_91 (ct_X9_add ia2 qσ4) rfl rfl ⟨rfl, rfl⟩ ⟨Nat.le_of_ble_eq_true rfl, Nat.le_of_ble_eq_true rfl⟩ ⟨Nat.zero_le _, Nat.zero_le _⟩ rfl (Nat.le_of_ble_eq_true rfl) (fun _ => ?_)
    refine g_aload_n C dX11_feed_31 rfl ?_
    refine g_getR (j := 1) C dX11_feed_32 rfl (Nat.le_of_ble_eq_true rfl) (Nat.le_of_ble_eq_true rfl) fl_11_33 rfl rfl (r := 16) rfl ?_
    refine g_iload_n C dX11_feed_35 rfl ?_
    obtain ⟨σ5, qσ5, h⟩ := bnd h
    refine g_callV0 (As := [iv a3]) C dX11_feed_36 mi_X9_add ml_11_91 (ct_X9_add ia3 qσ5) rfl rfl ⟨rfl, rfl⟩ ⟨Nat.le_of_ble_eq_true rfl, Nat.le_of_ble_eq_true rfl⟩ ⟨Nat.zero_le _, Nat.zero_le _⟩ rfl (Nat.le_of_ble_eq_true rfl) (fun _ => ?_)
    refine g_aload_n C dX11_feed_39 rfl ?_
    refine g_getR (j := 1) C dX11_feed_40 rfl (Nat.le_of_ble_eq_true rfl) (Nat.le_of_ble_eq_true rfl) fl_11_33 rfl rfl (r := 16) rfl ?_
    refine g_iload C dX11_feed_43 rfl ?_
    obtain ⟨σ6, qσ6, h⟩ := bnd h
    refine g_callV0 (As := [iv a4]) C dX11_feed_45 mi_X9_add ml_11_91 (ct_X9_add ia4 qσ6) rfl rfl ⟨rfl, rfl⟩ ⟨Nat.le_of_ble_eq_true rfl, Nat.le_of_ble_eq_true rfl⟩ ⟨Nat.zero_le _, Nat.zero_le _⟩ rfl (Nat.le_of_ble_eq_true rfl) (fun _ => ?_)
    refine g_aload_n C dX11_feed_48 rfl ?_
    refine g_getR (j := 1) C dX11_feed_49 rfl (Nat.le_of_ble_eq_true rfl) (Nat.le_of_ble_eq_true rfl) fl_11_33 rfl rfl (r := 16) rfl ?_
    refine g_iload C dX11_feed_52 rfl ?_
    obtain ⟨σ7, qσ7, h⟩ := bnd h
    refine g_callV0 (As := [iv a5]) C dX11_feed_54 mi_X9_add ml_11_91 (ct_X9_add ia5 qσ7) rfl rfl ⟨rfl, rfl⟩ ⟨Nat.le_of_ble_eq_true rfl, Nat.le_of_ble_eq_true rfl⟩ ⟨Nat.zero_le _, Nat.zero_le _⟩ rfl (Nat.le_of_ble_eq_true rfl) (fun _ => ?_)
    refine g_aload_n C dX11_feed_57 rfl ?_
    refine g_getR (j := 1) C dX11_feed_58 rfl (Nat.le_of_ble_eq_true rfl) (Nat.le_of_ble_eq_true rfl) fl_11_33 rfl rfl (r := 16) rfl ?_
    refine g_getI (j := 0) C dX11_feed_61 rfl (Nat.le_of_ble_eq_true rfl) (Nat.le_of_ble_eq_true rfl) fl_11_87 rfl rfl (fun i8 => ?_)
    exact g_iretP C dX11_feed_64 hr hlk h i8
  · have h := ifF c2 h
    refine g_iconst C dX11_feed_13 ?_
    exact g_iretP C dX11_feed_14 hr hlk h (by decide)
theorem dX11_back_0 : decode cX11_back 0 = .ok (.iload_n 1, 1) := by decide +kernel
theorem dX11_back_1 : decode cX11_back 1 = .ok (.ifCond .lt 14, 3) := by decide +kernel
theorem dX11_back_4 : decode cX11_back 4 = .ok (.iload_n 1, 1) := by decide +kernel
theorem dX11_back_5 : decode cX11_back 5 = .ok (.aload_n 0, 1) := by decide +kernel
theorem dX11_back_6 : decode cX11_back 6 = .ok (.getfield 33, 3) := by decide +kernel
theorem dX11_back_9 : decode cX11_back 9 = .ok (.getfield 87, 3) := by decide +kernel
theorem dX11_back_12 : decode cX11_back 12 = .ok (.if_icmp .le 5, 3) := by decide +kernel
theorem dX11_back_15 : decode cX11_back 15 = .ok (.iconst (-1), 1) := by decide +kernel
theorem dX11_back_16 : decode cX11_back 16 = .ok (.ireturn, 1) := by decide +kernel
theorem dX11_back_17 : decode cX11_back 17 = .ok (.aload_n 0, 1) := by decide +kernel
theorem dX11_back_18 : decode cX11_back 18 = .ok (.getfield 33, 3) := by decide +kernel
theorem dX11_back_21 : decode cX11_back 21 = .ok (.dup, 1) := by decide +kernel
theorem dX11_back_22 : decode cX11_back 22 = .ok (.getfield 87, 3) := by decide +kernel
theorem dX11_back_25 : decode cX11_back 25 = .ok (.iload_n 1, 1) := by decide +kernel
theorem dX11_back_26 : decode cX11_back 26 = .ok (.isub, 1) := by decide +kernel
theorem dX11_back_27 : decode cX11_back 27 = .ok (.putfield 87, 3) := by decide +kernel
theorem dX11_back_30 : decode cX11_back 30 = .ok (.aload_n 0, 1) := by decide +kernel
theorem dX11_back_31 : decode cX11_back 31 = .ok (.getfield 33, 3) := by decide +kernel
theorem dX11_back_34 : decode cX11_back 34 = .ok (.getfield 87, 3) := by decide +kernel
theorem dX11_back_37 : decode cX11_back 37 = .ok (.ireturn, 1) := by decide +kernel
abbrev rm_X11_back : Room := { frames := 0, cells := 0, slots := 0, locals := 0 }
set_option maxRecDepth 100000 in
set_option maxHeartbeats 4000000 in
theorem ct_X11_back {w : Wd} {l : Launch} {a1 : Int} {σ : St} {y : Int} {σ' : St} (ia1 : InI a1) (h : m_X11_back a1 σ = some (y, σ')) : Ct w l yX11_back (Cond.code yX11_back cX11_back 2 (some .int) :: TB) rm_X11_back [rv w 0, iv a1] σ (some (iv y)) (InI y) σ' := by
  refine Ct.of2 [some (rv w 0), some (iv a1)] 0 rfl pn_RX11 (Nat.le_of_ble_eq_true rfl) ?_
  intro p e s m args below meth c C hr hlk
  unfold m_X11_back at h
  refine g_iload_n C dX11_back_0 rfl ?_
  refine g_if_lt C dX11_back_1 ia1 rfl (tgt := 15) (fun c1 => ?_) (fun c1 => ?_)
  · have h := ifT c1 h
    refine g_iconst C dX11_back_15 ?_
    exact g_iretP C dX11_back_16 hr hlk h (by decide)
  · have h := ifF c1 h
    refine g_iload_n C dX11_back_4 rfl ?_
    refine g_aload_n C dX11_back_5 rfl ?_
    refine g_getR (j := 1) C dX11_back_6 rfl (Nat.le_of_ble_eq_true rfl) (Nat.le_of_ble_eq_true rfl) fl_11_33 rfl rfl (r := 16) rfl ?_
    refine g_getI (j := 0) C dX11_back_9 rfl (Nat.le_of_ble_eq_true rfl) (Nat.le_of_ble_eq_true rfl) fl_11_87 rfl rfl (fun i2 => ?_)
    refine g_icmp_le C dX11_back_12 ia1 i2 rfl (tgt := 17) (fun c3 => ?_) (fun c3 => ?_)
    · have h := ifT c3 h
      refine g_aload_n C dX11_back_17 rfl ?_
      refine g_getR (j := 1) C dX11_back_18 rfl (Nat.le_of_ble_eq_true rfl) (Nat.le_of_ble_eq_true rfl) fl_11_33 rfl rfl (r := 16) rfl ?_
      refine g_dup C dX11_back_21 rfl ?_
      refine g_getI (j := 0) C dX11_back_22 rfl (Nat.le_of_ble_eq_true rfl) (Nat.le_of_ble_eq_true rfl) fl_11_87 rfl rfl (fun i4 => ?_)
      refine g_iload_n C dX11_back_25 rfl ?_
      refine g_isub C dX11_back_26 ?_
      obtain ⟨σ5, qσ5, h⟩ := bnd h
      refine g_putI (j := 0) C dX11_back_27 rfl (Nat.le_of_ble_eq_true rfl) (Nat.le_of_ble_eq_true rfl) fl_11_87 rfl rfl rfl rfl qσ5 (iwr _) ?_
      refine g_aload_n C dX11_back_30 rfl ?_
      refine g_getR (j := 1) C dX11_back_31 rfl (Nat.le_of_ble_eq_true rfl) (Nat.le_of_ble_eq_true rfl) fl_11_33 rfl rfl (r := 16) rfl ?_
      refine g_getI (j := 0) C dX11_back_34 rfl (Nat.le_of_ble_eq_true rfl) (Nat.le_of_ble_eq_true rfl) fl_11_87 rfl rfl (fun i6 => ?_)
      exact g_iretP C dX11_back_37 hr hlk h i6
    · have h := ifF c3 h
      refine g_iconst C dX11_back_15 ?_
      exact g_iretP C dX11_back_16 hr hlk h (by decide)
theorem dX11_read_0 : decode cX11_read 0 = .ok (.aload_n 0, 1) := by decide +kernel
theorem dX11_read_1 : decode cX11_read 1 = .ok (.getfield 46, 3) := by decide +kernel
theorem dX11_read_4 : decode cX11_read 4 = .ok (.invokevirtual 95, 3) := by decide +kernel
theorem dX11_read_7 : decode cX11_read 7 = .ok (.istore_n 1, 1) := by decide +kernel
theorem dX11_read_8 : decode cX11_read 8 = .ok (.aload_n 0, 1) := by decide +kernel
theorem dX11_read_9 : decode cX11_read 9 = .ok (.getfield 33, 3) := by decide +kernel
theorem dX11_read_12 : decode cX11_read 12 = .ok (.iconst 0, 1) := by decide +kernel
theorem dX11_read_13 : decode cX11_read 13 = .ok (.putfield 87, 3) := by decide +kernel
theorem dX11_read_16 : decode cX11_read 16 = .ok (.iload_n 1, 1) := by decide +kernel
theorem dX11_read_17 : decode cX11_read 17 = .ok (.ifCond .ne 41, 3) := by decide +kernel
theorem dX11_read_20 : decode cX11_read 20 = .ok (.aload_n 0, 1) := by decide +kernel
theorem dX11_read_21 : decode cX11_read 21 = .ok (.getfield 37, 3) := by decide +kernel
theorem dX11_read_24 : decode cX11_read 24 = .ok (.aload_n 0, 1) := by decide +kernel
theorem dX11_read_25 : decode cX11_read 25 = .ok (.getfield 46, 3) := by decide +kernel
theorem dX11_read_28 : decode cX11_read 28 = .ok (.getfield 99, 3) := by decide +kernel
theorem dX11_read_31 : decode cX11_read 31 = .ok (.invokevirtual 102, 3) := by decide +kernel
theorem dX11_read_34 : decode cX11_read 34 = .ok (.iconst 0, 1) := by decide +kernel
theorem dX11_read_35 : decode cX11_read 35 = .ok (.istore_n 2, 1) := by decide +kernel
theorem dX11_read_36 : decode cX11_read 36 = .ok (.iload_n 2, 1) := by decide +kernel
theorem dX11_read_37 : decode cX11_read 37 = .ok (.bipush 8, 2) := by decide +kernel
theorem dX11_read_39 : decode cX11_read 39 = .ok (.if_icmp .ge 19, 3) := by decide +kernel
theorem dX11_read_42 : decode cX11_read 42 = .ok (.aload_n 0, 1) := by decide +kernel
theorem dX11_read_43 : decode cX11_read 43 = .ok (.getfield 54, 3) := by decide +kernel
theorem dX11_read_46 : decode cX11_read 46 = .ok (.iload_n 2, 1) := by decide +kernel
theorem dX11_read_47 : decode cX11_read 47 = .ok (.aaload, 1) := by decide +kernel
theorem dX11_read_48 : decode cX11_read 48 = .ok (.iconst (-1), 1) := by decide +kernel
theorem dX11_read_49 : decode cX11_read 49 = .ok (.putfield 106, 3) := by decide +kernel
theorem dX11_read_52 : decode cX11_read 52 = .ok (.iinc 2 1, 3) := by decide +kernel
theorem dX11_read_55 : decode cX11_read 55 = .ok (.goto (-19), 3) := by decide +kernel
theorem dX11_read_58 : decode cX11_read 58 = .ok (.iload_n 1, 1) := by decide +kernel
theorem dX11_read_59 : decode cX11_read 59 = .ok (.ireturn, 1) := by decide +kernel
abbrev rm_X11_read : Room := { frames := 8, cells := 0, slots := 0, locals := 177 }
set_option maxRecDepth 100000 in
set_option maxHeartbeats 4000000 in
theorem ct_X11_read {w : Wd} {l : Launch} {σ : St} {y : Int} {σ' : St} (h : m_X11_read σ = some (y, σ')) : Ct w l yX11_read (Cond.code yX11_read cX11_read 3 (some .int) :: TB) rm_X11_read [rv w 0] σ (some (iv y)) (InI y) σ' := by
  refine Ct.of2 [some (rv w 0), none, none] 2 rfl pn_RX11 (Nat.le_of_ble_eq_true rfl) ?_
  intro p e s m args below meth c C hr hlk
  unfold m_X11_read at h
  refine g_aload_n C dX11_read_0 rfl ?_
  refine g_getR (j := 3) C dX11_read_1 rfl (Nat.le_of_ble_eq_true rfl) (Nat.le_of_ble_eq_true rfl) fl_11_46 rfl rfl (r := 118) rfl ?_
  obtain ⟨⟨x1, σ2⟩, qx1, h⟩ := bnd h
  refine g_callV1 (As := []) C dX11_read_4 mi_X4_parse ml_11_95 (ct_X4_parse qx1) rfl rfl ⟨rfl, rfl⟩ ⟨Nat.le_of_ble_eq_true rfl, Nat.le_of_ble_eq_true rfl⟩ ⟨Nat.zero_le _, Nat.zero_le _⟩ rfl (Nat.le_of_ble_eq_true rfl) (fun ix1 => ?_)
  refine g_istore_n (L1 := [some (rv w 0), some (iv x1), none]) C dX11_read_7 rfl (Nat.le_of_ble_eq_true rfl) rfl ?_
  refine g_aload_n C dX11_read_8 rfl ?_
  refine g_getR (j := 1) C dX11_read_9 rfl (Nat.le_of_ble_eq_true rfl) (Nat.le_of_ble_eq_true rfl) fl_11_33 rfl rfl (r := 16) rfl ?_
  refine g_iconst C dX11_read_12 ?_
  obtain ⟨σ3, qσ3, h⟩ := bnd h
  refine g_putI (j := 0) C dX11_read_13 rfl (Nat.le_of_ble_eq_true rfl) (Nat.le_of_ble_eq_true rfl) fl_11_87 rfl rfl rfl rfl qσ3 (by decide) ?_
  refine g_iload_n C dX11_read_16 rfl ?_
  refine g_if_ne C dX11_read_17 ix1 rfl (tgt := 58) (fun c4 => ?_) (fun c4 => ?_)
  · have h := ifF c4 h
    refine g_iload_n C dX11_read_58 rfl ?_
    exact g_iretP C dX11_read_59 hr hlk h ix1
  · have h := ifT c4 h
    refine g_aload_n C dX11_read_20 rfl ?_
    refine g_getR (j := 2) C dX11_read_21 rfl (Nat.le_of_ble_eq_true rfl) (Nat.le_of_ble_eq_true rfl) fl_11_37 rfl rfl (r := 22) rfl ?_
    refine g_aload_n C dX11_read_24 rfl ?_
    refine g_getR (j := 3) C dX11_read_25 rfl (Nat.le_of_ble_eq_true rfl) (Nat.le_of_ble_eq_true rfl) fl_11_46 rfl rfl (r := 118) rfl ?_
    refine g_getR (j := 0) C dX11_read_28 rfl (Nat.le_of_ble_eq_true rfl) (Nat.le_of_ble_eq_true rfl) fl_11_99 rfl rfl (r := 119) rfl ?_
    obtain ⟨σ5, qσ5, h⟩ := bnd h
    refine g_callV0 (As := [rv w 119]) C dX11_read_31 mi_X5_become ml_11_102 (ct_X5_become rfl rfl qσ5) rfl rfl ⟨rfl, rfl⟩ ⟨Nat.le_of_ble_eq_true rfl, Nat.le_of_ble_eq_true rfl⟩ ⟨Nat.zero_le _, Nat.zero_le _⟩ rfl (Nat.le_of_ble_eq_true rfl) (fun _ => ?_)
    refine g_iconst C dX11_read_34 ?_
    refine g_istore_n (L1 := [some (rv w 0), some (iv x1), some (iv 0)]) C dX11_read_35 rfl (Nat.le_of_ble_eq_true rfl) rfl ?_
    obtain ⟨b6, hb6, hF6⟩ := bnd h
    have hX6 : ∀ (σ12 : St) , σ12 = b6 → GM w p l e rm_X11_read s m args below meth c (some (iv y)) (InI y) σ' 3 58 [none, some (iv x1), none] [] σ12 := by
      intro σ12 q
      subst q
      have h := hF6
      refine g_iload_n C dX11_read_58 rfl ?_
      exact g_iretP C dX11_read_59 hr hlk h ix1
    have hL6 : ∀ (n : Nat) (x7 : Int) (σ8 : St) , InI x7 → lpN (fun a => m_X11_read_L36 a.1 a.2) n (x7, σ8) = some b6 → GM w p l e rm_X11_read s m args below meth c (some (iv y)) (InI y) σ' 3 36 [some (rv w 0), some (iv x1), some (iv x7)] [] σ8 := by
      intro n
      induction n with
      | zero => intro x7 σ8 ix7 q; cases q
      | succ n ih6 =>
        intro x7 σ8 ix7 q
        obtain ⟨o6, h, hk6⟩ := lp_step q
        replace h : m_X11_read_L36 x7 σ8 = some o6 := h
        unfold m_X11_read_L36 at h
        refine g_iload_n C dX11_read_36 rfl ?_
        refine g_bipush C dX11_read_37 rfl ?_
        refine g_icmp_ge C dX11_read_39 ix7 (by decide) rfl (tgt := 58) (fun c9 => ?_) (fun c9 => ?_)
        · have h := ifT c9 h
          refine g_mask [false, true, false] ?_
          obtain rfl := Option.some.inj h
          exact hX6 σ8 (lpR hk6).symm
        · have h := ifF c9 h
          refine g_aload_n C dX11_read_42 rfl ?_
          refine g_getR (j := 5) C dX11_read_43 rfl (Nat.le_of_ble_eq_true rfl) (Nat.le_of_ble_eq_true rfl) fl_11_54 rfl rfl (r := 38) rfl ?_
          refine g_iload_n C dX11_read_46 rfl ?_
          obtain ⟨k10, qk10, h⟩ := bnd h
          refine g_aald C dX11_read_47 rfl rfl qk10 ix7 ?_
          refine g_iconst C dX11_read_48 ?_
          obtain ⟨σ11, qσ11, h⟩ := bnd h
          refine g_putI (j := 2) C dX11_read_49 (rrB_38 qk10) (Nat.le_of_ble_eq_true rfl) (Nat.le_of_ble_eq_true rfl) fl_11_106 rfl rfl rfl rfl qσ11 (by decide) ?_
          refine g_iinc (L1 := [some (rv w 0), some (iv x1), some (iv (wr (x7 + 1)))]) C dX11_read_52 rfl rfl (Nat.le_of_ble_eq_true rfl) rfl ?_
          refine g_goto C dX11_read_55 rfl (tgt := 36) ?_
          obtain rfl := Option.some.inj h
          exact ih6 _ _ (iwr _) (lpL hk6)
    exact hL6 FU _ _ (by decide) hb6
theorem dX11_place_0 : decode cX11_place 0 = .ok (.aload_n 0, 1) := by decide +kernel
theorem dX11_place_1 : decode cX11_place 1 = .ok (.getfield 46, 3) := by decide +kernel
theorem dX11_place_4 : decode cX11_place 4 = .ok (.getfield 109, 3) := by decide +kernel
theorem dX11_place_7 : decode cX11_place 7 = .ok (.ifCond .ne 7, 3) := by decide +kernel
theorem dX11_place_10 : decode cX11_place 10 = .ok (.iconst (-1), 1) := by decide +kernel
theorem dX11_place_11 : decode cX11_place 11 = .ok (.goto 10, 3) := by decide +kernel
theorem dX11_place_14 : decode cX11_place 14 = .ok (.aload_n 0, 1) := by decide +kernel
theorem dX11_place_15 : decode cX11_place 15 = .ok (.getfield 46, 3) := by decide +kernel
theorem dX11_place_18 : decode cX11_place 18 = .ok (.getfield 112, 3) := by decide +kernel
theorem dX11_place_21 : decode cX11_place 21 = .ok (.ireturn, 1) := by decide +kernel
abbrev rm_X11_place : Room := { frames := 0, cells := 0, slots := 0, locals := 0 }
set_option maxRecDepth 100000 in
set_option maxHeartbeats 4000000 in
theorem ct_X11_place {w : Wd} {l : Launch} {σ : St} {y : Int} (h : m_X11_place σ = some y) : Ct w l yX11_place (Cond.code yX11_place cX11_place 1 (some .int) :: TB) rm_X11_place [rv w 0] σ (some (iv y)) (InI y) σ := by
  refine Ct.of2 [some (rv w 0)] 0 rfl pn_RX11 (Nat.le_of_ble_eq_true rfl) ?_
  intro p e s m args below meth c C hr hlk
  unfold m_X11_place at h
  refine g_aload_n C dX11_place_0 rfl ?_
  refine g_getR (j := 3) C dX11_place_1 rfl (Nat.le_of_ble_eq_true rfl) (Nat.le_of_ble_eq_true rfl) fl_11_46 rfl rfl (r := 118) rfl ?_
  refine g_getI (j := 1) C dX11_place_4 rfl (Nat.le_of_ble_eq_true rfl) (Nat.le_of_ble_eq_true rfl) fl_11_109 rfl rfl (fun i1 => ?_)
  refine g_if_ne C dX11_place_7 i1 rfl (tgt := 14) (fun c2 => ?_) (fun c2 => ?_)
  · have h := ifF c2 h
    refine g_aload_n C dX11_place_14 rfl ?_
    refine g_getR (j := 3) C dX11_place_15 rfl (Nat.le_of_ble_eq_true rfl) (Nat.le_of_ble_eq_true rfl) fl_11_46 rfl rfl (r := 118) rfl ?_
    refine g_getI (j := 2) C dX11_place_18 rfl (Nat.le_of_ble_eq_true rfl) (Nat.le_of_ble_eq_true rfl) fl_11_112 rfl rfl (fun i3 => ?_)
    exact g_iretU C dX11_place_21 hr hlk h i3
  · have h := ifT c2 h
    refine g_iconst C dX11_place_10 ?_
    refine g_goto C dX11_place_11 rfl (tgt := 21) ?_
    exact g_iretU C dX11_place_21 hr hlk h (by decide)
theorem dX11_spot_0 : decode cX11_spot 0 = .ok (.aload_n 0, 1) := by decide +kernel
theorem dX11_spot_1 : decode cX11_spot 1 = .ok (.getfield 29, 3) := by decide +kernel
theorem dX11_spot_4 : decode cX11_spot 4 = .ok (.invokevirtual 115, 3) := by decide +kernel
theorem dX11_spot_7 : decode cX11_spot 7 = .ok (.ireturn, 1) := by decide +kernel
abbrev rm_X11_spot : Room := { frames := 1, cells := 0, slots := 0, locals := 20 }
set_option maxRecDepth 100000 in
set_option maxHeartbeats 4000000 in
theorem ct_X11_spot {w : Wd} {l : Launch} {σ : St} {y : Int} {σ' : St} (h : m_X11_spot σ = some (y, σ')) : Ct w l yX11_spot (Cond.code yX11_spot cX11_spot 1 (some .int) :: TB) rm_X11_spot [rv w 0] σ (some (iv y)) (InI y) σ' := by
  refine Ct.of2 [some (rv w 0)] 0 rfl pn_RX11 (Nat.le_of_ble_eq_true rfl) ?_
  intro p e s m args below meth c C hr hlk
  unfold m_X11_spot at h
  refine g_aload_n C dX11_spot_0 rfl ?_
  refine g_getR (j := 0) C dX11_spot_1 rfl (Nat.le_of_ble_eq_true rfl) (Nat.le_of_ble_eq_true rfl) fl_11_29 rfl rfl (r := 1) rfl ?_
  obtain ⟨⟨x1, σ2⟩, qx1, h⟩ := bnd h
  refine g_callV1 (As := []) C dX11_spot_4 mi_X10_addSpot ml_11_115 (ct_X10_addSpot qx1) rfl rfl ⟨rfl, rfl⟩ ⟨Nat.le_of_ble_eq_true rfl, Nat.le_of_ble_eq_true rfl⟩ ⟨Nat.zero_le _, Nat.zero_le _⟩ rfl (Nat.le_of_ble_eq_true rfl) (fun ix1 => ?_)
  exact g_iretP C dX11_spot_7 hr hlk h ix1
theorem dX11_way_0 : decode cX11_way 0 = .ok (.aload_n 0, 1) := by decide +kernel
theorem dX11_way_1 : decode cX11_way 1 = .ok (.getfield 29, 3) := by decide +kernel
theorem dX11_way_4 : decode cX11_way 4 = .ok (.iload_n 1, 1) := by decide +kernel
theorem dX11_way_5 : decode cX11_way 5 = .ok (.invokevirtual 118, 3) := by decide +kernel
theorem dX11_way_8 : decode cX11_way 8 = .ok (.ifCond .eq 19, 3) := by decide +kernel
theorem dX11_way_11 : decode cX11_way 11 = .ok (.aload_n 0, 1) := by decide +kernel
theorem dX11_way_12 : decode cX11_way 12 = .ok (.getfield 29, 3) := by decide +kernel
theorem dX11_way_15 : decode cX11_way 15 = .ok (.iload_n 2, 1) := by decide +kernel
theorem dX11_way_16 : decode cX11_way 16 = .ok (.invokevirtual 118, 3) := by decide +kernel
theorem dX11_way_19 : decode cX11_way 19 = .ok (.ifCond .eq 8, 3) := by decide +kernel
theorem dX11_way_22 : decode cX11_way 22 = .ok (.iload_n 1, 1) := by decide +kernel
theorem dX11_way_23 : decode cX11_way 23 = .ok (.iload_n 2, 1) := by decide +kernel
theorem dX11_way_24 : decode cX11_way 24 = .ok (.if_icmp .ne 5, 3) := by decide +kernel
theorem dX11_way_27 : decode cX11_way 27 = .ok (.iconst (-1), 1) := by decide +kernel
theorem dX11_way_28 : decode cX11_way 28 = .ok (.ireturn, 1) := by decide +kernel
theorem dX11_way_29 : decode cX11_way 29 = .ok (.iload_n 3, 1) := by decide +kernel
theorem dX11_way_30 : decode cX11_way 30 = .ok (.iconst 1, 1) := by decide +kernel
theorem dX11_way_31 : decode cX11_way 31 = .ok (.if_icmp .lt 9, 3) := by decide +kernel
theorem dX11_way_34 : decode cX11_way 34 = .ok (.iload_n 3, 1) := by decide +kernel
theorem dX11_way_35 : decode cX11_way 35 = .ok (.bipush 9, 2) := by decide +kernel
theorem dX11_way_37 : decode cX11_way 37 = .ok (.if_icmp .le 5, 3) := by decide +kernel
theorem dX11_way_40 : decode cX11_way 40 = .ok (.iconst (-1), 1) := by decide +kernel
theorem dX11_way_41 : decode cX11_way 41 = .ok (.ireturn, 1) := by decide +kernel
theorem dX11_way_42 : decode cX11_way 42 = .ok (.aload_n 0, 1) := by decide +kernel
theorem dX11_way_43 : decode cX11_way 43 = .ok (.getfield 29, 3) := by decide +kernel
theorem dX11_way_46 : decode cX11_way 46 = .ok (.iload_n 1, 1) := by decide +kernel
theorem dX11_way_47 : decode cX11_way 47 = .ok (.iload_n 2, 1) := by decide +kernel
theorem dX11_way_48 : decode cX11_way 48 = .ok (.iload_n 3, 1) := by decide +kernel
theorem dX11_way_49 : decode cX11_way 49 = .ok (.invokevirtual 122, 3) := by decide +kernel
theorem dX11_way_52 : decode cX11_way 52 = .ok (.ireturn, 1) := by decide +kernel
abbrev rm_X11_way : Room := { frames := 2, cells := 0, slots := 0, locals := 48 }
set_option maxRecDepth 100000 in
set_option maxHeartbeats 4000000 in
theorem ct_X11_way {w : Wd} {l : Launch} {a1 : Int} {a2 : Int} {a3 : Int} {σ : St} {y : Int} {σ' : St} (ia1 : InI a1) (ia2 : InI a2) (ia3 : InI a3) (h : m_X11_way a1 a2 a3 σ = some (y, σ')) : Ct w l yX11_way (Cond.code yX11_way cX11_way 4 (some .int) :: TB) rm_X11_way [rv w 0, iv a1, iv a2, iv a3] σ (some (iv y)) (InI y) σ' := by
  refine Ct.of2 [some (rv w 0), some (iv a1), some (iv a2), some (iv a3)] 0 rfl pn_RX11 (Nat.le_of_ble_eq_true rfl) ?_
  intro p e s m args below meth c C hr hlk
  unfold m_X11_way at h
  refine g_aload_n C dX11_way_0 rfl ?_
  refine g_getR (j := 0) C dX11_way_1 rfl (Nat.le_of_ble_eq_true rfl) (Nat.le_of_ble_eq_true rfl) fl_11_29 rfl rfl (r := 1) rfl ?_
  refine g_iload_n C dX11_way_4 rfl ?_
  obtain ⟨x1, qx1, h⟩ := bnd h
  refine g_callV1 (As := [iv a1]) C dX11_way_5 mi_X10_hasSpot ml_11_118 (ct_X10_hasSpot ia1 qx1) rfl rfl ⟨rfl, rfl⟩ ⟨Nat.le_of_ble_eq_true rfl, Nat.le_of_ble_eq_true rfl⟩ ⟨Nat.zero_le _, Nat.zero_le _⟩ rfl (Nat.le_of_ble_eq_true rfl) (fun ix1 => ?_)
  refine g_if_eq C dX11_way_8 (zI ix1) rfl (tgt := 27) (fun c2 => ?_) (fun c2 => ?_)
  · have h := ifT c2 h
    refine g_iconst C dX11_way_27 ?_
    exact g_iretP C dX11_way_28 hr hlk h (by decide)
  · have h := ifF c2 h
    refine g_aload_n C dX11_way_11 rfl ?_
    refine g_getR (j := 0) C dX11_way_12 rfl (Nat.le_of_ble_eq_true rfl) (Nat.le_of_ble_eq_true rfl) fl_11_29 rfl rfl (r := 1) rfl ?_
    refine g_iload_n C dX11_way_15 rfl ?_
    obtain ⟨x3, qx3, h⟩ := bnd h
    refine g_callV1 (As := [iv a2]) C dX11_way_16 mi_X10_hasSpot ml_11_118 (ct_X10_hasSpot ia2 qx3) rfl rfl ⟨rfl, rfl⟩ ⟨Nat.le_of_ble_eq_true rfl, Nat.le_of_ble_eq_true rfl⟩ ⟨Nat.zero_le _, Nat.zero_le _⟩ rfl (Nat.le_of_ble_eq_true rfl) (fun ix3 => ?_)
    refine g_if_eq C dX11_way_19 (zI ix3) rfl (tgt := 27) (fun c4 => ?_) (fun c4 => ?_)
    · have h := ifT c4 h
      refine g_iconst C dX11_way_27 ?_
      exact g_iretP C dX11_way_28 hr hlk h (by decide)
    · have h := ifF c4 h
      refine g_iload_n C dX11_way_22 rfl ?_
      refine g_iload_n C dX11_way_23 rfl ?_
      refine g_icmp_ne C dX11_way_24 ia1 ia2 rfl (tgt := 29) (fun c5 => ?_) (fun c5 => ?_)
      · have h := ifF c5 h
        refine g_iload_n C dX11_way_29 rfl ?_
        refine g_iconst C dX11_way_30 ?_
        refine g_icmp_lt C dX11_way_31 ia3 (by decide) rfl (tgt := 40) (fun c6 => ?_) (fun c6 => ?_)
        · have h := ifT c6 h
          refine g_iconst C dX11_way_40 ?_
          exact g_iretP C dX11_way_41 hr hlk h (by decide)
        · have h := ifF c6 h
          refine g_iload_n C dX11_way_34 rfl ?_
          refine g_bipush C dX11_way_35 rfl ?_
          refine g_icmp_le C dX11_way_37 ia3 (by decide) rfl (tgt := 42) (fun c7 => ?_) (fun c7 => ?_)
          · have h := ifT c7 h
            refine g_aload_n C dX11_way_42 rfl ?_
            refine g_getR (j := 0) C dX11_way_43 rfl (Nat.le_of_ble_eq_true rfl) (Nat.le_of_ble_eq_true rfl) fl_11_29 rfl rfl (r := 1) rfl ?_
            refine g_iload_n C dX11_way_46 rfl ?_
            refine g_iload_n C dX11_way_47 rfl ?_
            refine g_iload_n C dX11_way_48 rfl ?_
            obtain ⟨⟨x8, σ9⟩, qx8, h⟩ := bnd h
            refine g_callV1 (As := [iv a1, iv a2, iv a3]) C dX11_way_49 mi_X10_addWay ml_11_122 (ct_X10_addWay ia1 ia2 ia3 qx8) rfl rfl ⟨rfl, rfl⟩ ⟨Nat.le_of_ble_eq_true rfl, Nat.le_of_ble_eq_true rfl⟩ ⟨Nat.zero_le _, Nat.zero_le _⟩ rfl (Nat.le_of_ble_eq_true rfl) (fun ix8 => ?_)
            exact g_iretP C dX11_way_52 hr hlk h ix8
          · have h := ifF c7 h
            refine g_iconst C dX11_way_40 ?_
            exact g_iretP C dX11_way_41 hr hlk h (by decide)
      · have h := ifT c5 h
        refine g_iconst C dX11_way_27 ?_
        exact g_iretP C dX11_way_28 hr hlk h (by decide)
theorem dX11_agent_0 : decode cX11_agent 0 = .ok (.aload_n 0, 1) := by decide +kernel
theorem dX11_agent_1 : decode cX11_agent 1 = .ok (.getfield 126, 3) := by decide +kernel
theorem dX11_agent_4 : decode cX11_agent 4 = .ok (.bipush 8, 2) := by decide +kernel
theorem dX11_agent_6 : decode cX11_agent 6 = .ok (.if_icmp .ge 25, 3) := by decide +kernel
theorem dX11_agent_9 : decode cX11_agent 9 = .ok (.aload_n 0, 1) := by decide +kernel
theorem dX11_agent_10 : decode cX11_agent 10 = .ok (.getfield 29, 3) := by decide +kernel
theorem dX11_agent_13 : decode cX11_agent 13 = .ok (.iload_n 1, 1) := by decide +kernel
theorem dX11_agent_14 : decode cX11_agent 14 = .ok (.invokevirtual 118, 3) := by decide +kernel
theorem dX11_agent_17 : decode cX11_agent 17 = .ok (.ifCond .eq 14, 3) := by decide +kernel
theorem dX11_agent_20 : decode cX11_agent 20 = .ok (.iload_n 2, 1) := by decide +kernel
theorem dX11_agent_21 : decode cX11_agent 21 = .ok (.ifCond .lt 10, 3) := by decide +kernel
theorem dX11_agent_24 : decode cX11_agent 24 = .ok (.iload_n 2, 1) := by decide +kernel
theorem dX11_agent_25 : decode cX11_agent 25 = .ok (.sipush 256, 3) := by decide +kernel
theorem dX11_agent_28 : decode cX11_agent 28 = .ok (.if_icmp .lt 5, 3) := by decide +kernel
theorem dX11_agent_31 : decode cX11_agent 31 = .ok (.iconst (-1), 1) := by decide +kernel
theorem dX11_agent_32 : decode cX11_agent 32 = .ok (.ireturn, 1) := by decide +kernel
theorem dX11_agent_33 : decode cX11_agent 33 = .ok (.aload_n 0, 1) := by decide +kernel
theorem dX11_agent_34 : decode cX11_agent 34 = .ok (.getfield 54, 3) := by decide +kernel
theorem dX11_agent_37 : decode cX11_agent 37 = .ok (.aload_n 0, 1) := by decide +kernel
theorem dX11_agent_38 : decode cX11_agent 38 = .ok (.getfield 126, 3) := by decide +kernel
theorem dX11_agent_41 : decode cX11_agent 41 = .ok (.aaload, 1) := by decide +kernel
theorem dX11_agent_42 : decode cX11_agent 42 = .ok (.astore_n 3, 1) := by decide +kernel
theorem dX11_agent_43 : decode cX11_agent 43 = .ok (.aload_n 3, 1) := by decide +kernel
theorem dX11_agent_44 : decode cX11_agent 44 = .ok (.iload_n 1, 1) := by decide +kernel
theorem dX11_agent_45 : decode cX11_agent 45 = .ok (.putfield 129, 3) := by decide +kernel
theorem dX11_agent_48 : decode cX11_agent 48 = .ok (.aload_n 3, 1) := by decide +kernel
theorem dX11_agent_49 : decode cX11_agent 49 = .ok (.iload_n 2, 1) := by decide +kernel
theorem dX11_agent_50 : decode cX11_agent 50 = .ok (.putfield 132, 3) := by decide +kernel
theorem dX11_agent_53 : decode cX11_agent 53 = .ok (.aload_n 0, 1) := by decide +kernel
theorem dX11_agent_54 : decode cX11_agent 54 = .ok (.dup, 1) := by decide +kernel
theorem dX11_agent_55 : decode cX11_agent 55 = .ok (.getfield 126, 3) := by decide +kernel
theorem dX11_agent_58 : decode cX11_agent 58 = .ok (.dup_x1, 1) := by decide +kernel
theorem dX11_agent_59 : decode cX11_agent 59 = .ok (.iconst 1, 1) := by decide +kernel
theorem dX11_agent_60 : decode cX11_agent 60 = .ok (.iadd, 1) := by decide +kernel
theorem dX11_agent_61 : decode cX11_agent 61 = .ok (.putfield 126, 3) := by decide +kernel
theorem dX11_agent_64 : decode cX11_agent 64 = .ok (.ireturn, 1) := by decide +kernel
abbrev rm_X11_agent : Room := { frames := 1, cells := 0, slots := 0, locals := 21 }
set_option maxRecDepth 100000 in
set_option maxHeartbeats 4000000 in
theorem ct_X11_agent {w : Wd} {l : Launch} {a1 : Int} {a2 : Int} {σ : St} {y : Int} {σ' : St} (ia1 : InI a1) (ia2 : InI a2) (h : m_X11_agent a1 a2 σ = some (y, σ')) : Ct w l yX11_agent (Cond.code yX11_agent cX11_agent 4 (some .int) :: TB) rm_X11_agent [rv w 0, iv a1, iv a2] σ (some (iv y)) (InI y) σ' := by
  refine Ct.of2 [some (rv w 0), some (iv a1), some (iv a2), none] 1 rfl pn_RX11 (Nat.le_of_ble_eq_true rfl) ?_
  intro p e s m args below meth c C hr hlk
  unfold m_X11_agent at h
  refine g_aload_n C dX11_agent_0 rfl ?_
  refine g_getI (j := 6) C dX11_agent_1 rfl (Nat.le_of_ble_eq_true rfl) (Nat.le_of_ble_eq_true rfl) fl_11_126 rfl rfl (fun i1 => ?_)
  refine g_bipush C dX11_agent_4 rfl ?_
  refine g_icmp_ge C dX11_agent_6 i1 (by decide) rfl (tgt := 31) (fun c2 => ?_) (fun c2 => ?_)
  · have h := ifT c2 h
    refine g_iconst C dX11_agent_31 ?_
    exact g_iretP C dX11_agent_32 hr hlk h (by decide)
  · have h := ifF c2 h
    refine g_aload_n C dX11_agent_9 rfl ?_
    refine g_getR (j := 0) C dX11_agent_10 rfl (Nat.le_of_ble_eq_true rfl) (Nat.le_of_ble_eq_true rfl) fl_11_29 rfl rfl (r := 1) rfl ?_
    refine g_iload_n C dX11_agent_13 rfl ?_
    obtain ⟨x3, qx3, h⟩ := bnd h
    refine g_callV1 (As := [iv a1]) C dX11_agent_14 mi_X10_hasSpot ml_11_118 (ct_X10_hasSpot ia1 qx3) rfl rfl ⟨rfl, rfl⟩ ⟨Nat.le_of_ble_eq_true rfl, Nat.le_of_ble_eq_true rfl⟩ ⟨Nat.zero_le _, Nat.zero_le _⟩ rfl (Nat.le_of_ble_eq_true rfl) (fun ix3 => ?_)
    refine g_if_eq C dX11_agent_17 (zI ix3) rfl (tgt := 31) (fun c4 => ?_) (fun c4 => ?_)
    · have h := ifT c4 h
      refine g_iconst C dX11_agent_31 ?_
      exact g_iretP C dX11_agent_32 hr hlk h (by decide)
    · have h := ifF c4 h
      refine g_iload_n C dX11_agent_20 rfl ?_
      refine g_if_lt C dX11_agent_21 ia2 rfl (tgt := 31) (fun c5 => ?_) (fun c5 => ?_)
      · have h := ifT c5 h
        refine g_iconst C dX11_agent_31 ?_
        exact g_iretP C dX11_agent_32 hr hlk h (by decide)
      · have h := ifF c5 h
        refine g_iload_n C dX11_agent_24 rfl ?_
        refine g_sipush C dX11_agent_25 rfl ?_
        refine g_icmp_lt C dX11_agent_28 ia2 (by decide) rfl (tgt := 33) (fun c6 => ?_) (fun c6 => ?_)
        · have h := ifT c6 h
          refine g_aload_n C dX11_agent_33 rfl ?_
          refine g_getR (j := 5) C dX11_agent_34 rfl (Nat.le_of_ble_eq_true rfl) (Nat.le_of_ble_eq_true rfl) fl_11_54 rfl rfl (r := 38) rfl ?_
          refine g_aload_n C dX11_agent_37 rfl ?_
          refine g_getI (j := 6) C dX11_agent_38 rfl (Nat.le_of_ble_eq_true rfl) (Nat.le_of_ble_eq_true rfl) fl_11_126 rfl rfl (fun i7 => ?_)
          obtain ⟨k8, qk8, h⟩ := bnd h
          refine g_aald C dX11_agent_41 rfl rfl qk8 i7 ?_
          refine g_astore_n (L1 := [some (rv w 0), some (iv a1), some (iv a2), some (rv w k8)]) C dX11_agent_42 rfl (Nat.le_of_ble_eq_true rfl) rfl ?_
          refine g_aload_n C dX11_agent_43 rfl ?_
          refine g_iload_n C dX11_agent_44 rfl ?_
          obtain ⟨σ9, qσ9, h⟩ := bnd h
          refine g_putI (j := 0) C dX11_agent_45 (rrB_38 qk8) (Nat.le_of_ble_eq_true rfl) (Nat.le_of_ble_eq_true rfl) fl_11_129 rfl rfl rfl rfl qσ9 ia1 ?_
          refine g_aload_n C dX11_agent_48 rfl ?_
          refine g_iload_n C dX11_agent_49 rfl ?_
          obtain ⟨σ10, qσ10, h⟩ := bnd h
          refine g_putI (j := 1) C dX11_agent_50 (rrB_38 qk8) (Nat.le_of_ble_eq_true rfl) (Nat.le_of_ble_eq_true rfl) fl_11_132 rfl rfl rfl rfl qσ10 ia2 ?_
          refine g_aload_n C dX11_agent_53 rfl ?_
          refine g_dup C dX11_agent_54 rfl ?_
          refine g_getI (j := 6) C dX11_agent_55 rfl (Nat.le_of_ble_eq_true rfl) (Nat.le_of_ble_eq_true rfl) fl_11_126 rfl rfl (fun i11 => ?_)
          refine g_dup_x1 C dX11_agent_58 rfl rfl ?_
          refine g_iconst C dX11_agent_59 ?_
          refine g_iadd C dX11_agent_60 ?_
          obtain ⟨σ12, qσ12, h⟩ := bnd h
          refine g_putI (j := 6) C dX11_agent_61 rfl (Nat.le_of_ble_eq_true rfl) (Nat.le_of_ble_eq_true rfl) fl_11_126 rfl rfl rfl rfl qσ12 (iwr _) ?_
          exact g_iretP C dX11_agent_64 hr hlk h i11
        · have h := ifF c6 h
          refine g_iconst C dX11_agent_31 ?_
          exact g_iretP C dX11_agent_32 hr hlk h (by decide)
theorem dX11_isAgent_0 : decode cX11_isAgent 0 = .ok (.iload_n 1, 1) := by decide +kernel
theorem dX11_isAgent_1 : decode cX11_isAgent 1 = .ok (.ifCond .lt 21, 3) := by decide +kernel
theorem dX11_isAgent_4 : decode cX11_isAgent 4 = .ok (.iload_n 1, 1) := by decide +kernel
theorem dX11_isAgent_5 : decode cX11_isAgent 5 = .ok (.aload_n 0, 1) := by decide +kernel
theorem dX11_isAgent_6 : decode cX11_isAgent 6 = .ok (.getfield 126, 3) := by decide +kernel
theorem dX11_isAgent_9 : decode cX11_isAgent 9 = .ok (.if_icmp .ge 13, 3) := by decide +kernel
theorem dX11_isAgent_12 : decode cX11_isAgent 12 = .ok (.iload_n 1, 1) := by decide +kernel
theorem dX11_isAgent_13 : decode cX11_isAgent 13 = .ok (.bipush 8, 2) := by decide +kernel
theorem dX11_isAgent_15 : decode cX11_isAgent 15 = .ok (.if_icmp .ge 7, 3) := by decide +kernel
theorem dX11_isAgent_18 : decode cX11_isAgent 18 = .ok (.iconst 1, 1) := by decide +kernel
theorem dX11_isAgent_19 : decode cX11_isAgent 19 = .ok (.goto 4, 3) := by decide +kernel
theorem dX11_isAgent_22 : decode cX11_isAgent 22 = .ok (.iconst 0, 1) := by decide +kernel
theorem dX11_isAgent_23 : decode cX11_isAgent 23 = .ok (.ireturn, 1) := by decide +kernel
abbrev rm_X11_isAgent : Room := { frames := 0, cells := 0, slots := 0, locals := 0 }
set_option maxRecDepth 100000 in
set_option maxHeartbeats 4000000 in
theorem ct_X11_isAgent {w : Wd} {l : Launch} {a1 : Int} {σ : St} {y : Int} (ia1 : InI a1) (h : m_X11_isAgent a1 σ = some y) : Ct w l yX11_isAgent (Cond.code yX11_isAgent cX11_isAgent 2 (some .boolean) :: TB) rm_X11_isAgent [rv w 0, iv a1] σ (some (iv y)) (InZ y) σ := by
  refine Ct.of2 [some (rv w 0), some (iv a1)] 0 rfl pn_RX11 (Nat.le_of_ble_eq_true rfl) ?_
  intro p e s m args below meth c C hr hlk
  unfold m_X11_isAgent at h
  refine g_iload_n C dX11_isAgent_0 rfl ?_
  refine g_if_lt C dX11_isAgent_1 ia1 rfl (tgt := 22) (fun c1 => ?_) (fun c1 => ?_)
  · have h := ifT c1 h
    refine g_iconst C dX11_isAgent_22 ?_
    exact g_zretU C dX11_isAgent_23 hr hlk h (Or.inl rfl)
  · have h := ifF c1 h
    refine g_iload_n C dX11_isAgent_4 rfl ?_
    refine g_aload_n C dX11_isAgent_5 rfl ?_
    refine g_getI (j := 6) C dX11_isAgent_6 rfl (Nat.le_of_ble_eq_true rfl) (Nat.le_of_ble_eq_true rfl) fl_11_126 rfl rfl (fun i2 => ?_)
    refine g_icmp_ge C dX11_isAgent_9 ia1 i2 rfl (tgt := 22) (fun c3 => ?_) (fun c3 => ?_)
    · have h := ifT c3 h
      refine g_iconst C dX11_isAgent_22 ?_
      exact g_zretU C dX11_isAgent_23 hr hlk h (Or.inl rfl)
    · have h := ifF c3 h
      refine g_iload_n C dX11_isAgent_12 rfl ?_
      refine g_bipush C dX11_isAgent_13 rfl ?_
      refine g_icmp_ge C dX11_isAgent_15 ia1 (by decide) rfl (tgt := 22) (fun c4 => ?_) (fun c4 => ?_)
      · have h := ifT c4 h
        refine g_iconst C dX11_isAgent_22 ?_
        exact g_zretU C dX11_isAgent_23 hr hlk h (Or.inl rfl)
      · have h := ifF c4 h
        refine g_iconst C dX11_isAgent_18 ?_
        refine g_goto C dX11_isAgent_19 rfl (tgt := 23) ?_
        exact g_zretU C dX11_isAgent_23 hr hlk h (Or.inr rfl)
theorem dX11_give_0 : decode cX11_give 0 = .ok (.aload_n 0, 1) := by decide +kernel
theorem dX11_give_1 : decode cX11_give 1 = .ok (.iload_n 1, 1) := by decide +kernel
theorem dX11_give_2 : decode cX11_give 2 = .ok (.invokevirtual 135, 3) := by decide +kernel
theorem dX11_give_5 : decode cX11_give 5 = .ok (.ifCond .eq 19, 3) := by decide +kernel
theorem dX11_give_8 : decode cX11_give 8 = .ok (.iload_n 2, 1) := by decide +kernel
theorem dX11_give_9 : decode cX11_give 9 = .ok (.iconst (-1), 1) := by decide +kernel
theorem dX11_give_10 : decode cX11_give 10 = .ok (.if_icmp .lt 14, 3) := by decide +kernel
theorem dX11_give_13 : decode cX11_give 13 = .ok (.iload_n 2, 1) := by decide +kernel
theorem dX11_give_14 : decode cX11_give 14 = .ok (.aload_n 0, 1) := by decide +kernel
theorem dX11_give_15 : decode cX11_give 15 = .ok (.getfield 37, 3) := by decide +kernel
theorem dX11_give_18 : decode cX11_give 18 = .ok (.getfield 138, 3) := by decide +kernel
theorem dX11_give_21 : decode cX11_give 21 = .ok (.if_icmp .lt 5, 3) := by decide +kernel
theorem dX11_give_24 : decode cX11_give 24 = .ok (.iconst 0, 1) := by decide +kernel
theorem dX11_give_25 : decode cX11_give 25 = .ok (.ireturn, 1) := by decide +kernel
theorem dX11_give_26 : decode cX11_give 26 = .ok (.aload_n 0, 1) := by decide +kernel
theorem dX11_give_27 : decode cX11_give 27 = .ok (.getfield 54, 3) := by decide +kernel
theorem dX11_give_30 : decode cX11_give 30 = .ok (.iload_n 1, 1) := by decide +kernel
theorem dX11_give_31 : decode cX11_give 31 = .ok (.aaload, 1) := by decide +kernel
theorem dX11_give_32 : decode cX11_give 32 = .ok (.iload_n 2, 1) := by decide +kernel
theorem dX11_give_33 : decode cX11_give 33 = .ok (.putfield 106, 3) := by decide +kernel
theorem dX11_give_36 : decode cX11_give 36 = .ok (.iconst 1, 1) := by decide +kernel
theorem dX11_give_37 : decode cX11_give 37 = .ok (.ireturn, 1) := by decide +kernel
abbrev rm_X11_give : Room := { frames := 1, cells := 0, slots := 0, locals := 21 }
set_option maxRecDepth 100000 in
set_option maxHeartbeats 4000000 in
theorem ct_X11_give {w : Wd} {l : Launch} {a1 : Int} {a2 : Int} {σ : St} {y : Int} {σ' : St} (ia1 : InI a1) (ia2 : InI a2) (h : m_X11_give a1 a2 σ = some (y, σ')) : Ct w l yX11_give (Cond.code yX11_give cX11_give 3 (some .boolean) :: TB) rm_X11_give [rv w 0, iv a1, iv a2] σ (some (iv y)) (InZ y) σ' := by
  refine Ct.of2 [some (rv w 0), some (iv a1), some (iv a2)] 0 rfl pn_RX11 (Nat.le_of_ble_eq_true rfl) ?_
  intro p e s m args below meth c C hr hlk
  unfold m_X11_give at h
  refine g_aload_n C dX11_give_0 rfl ?_
  refine g_iload_n C dX11_give_1 rfl ?_
  obtain ⟨x1, qx1, h⟩ := bnd h
  refine g_callV1 (As := [iv a1]) C dX11_give_2 mi_X11_isAgent ml_11_135 (ct_X11_isAgent ia1 qx1) rfl rfl ⟨rfl, rfl⟩ ⟨Nat.le_of_ble_eq_true rfl, Nat.le_of_ble_eq_true rfl⟩ ⟨Nat.zero_le _, Nat.zero_le _⟩ rfl (Nat.le_of_ble_eq_true rfl) (fun ix1 => ?_)
  refine g_if_eq C dX11_give_5 (zI ix1) rfl (tgt := 24) (fun c2 => ?_) (fun c2 => ?_)
  · have h := ifT c2 h
    refine g_iconst C dX11_give_24 ?_
    exact g_zretP C dX11_give_25 hr hlk h (Or.inl rfl)
  · have h := ifF c2 h
    refine g_iload_n C dX11_give_8 rfl ?_
    refine g_iconst C dX11_give_9 ?_
    refine g_icmp_lt C dX11_give_10 ia2 (by decide) rfl (tgt := 24) (fun c3 => ?_) (fun c3 => ?_)
    · have h := ifT c3 h
      refine g_iconst C dX11_give_24 ?_
      exact g_zretP C dX11_give_25 hr hlk h (Or.inl rfl)
    · have h := ifF c3 h
      refine g_iload_n C dX11_give_13 rfl ?_
      refine g_aload_n C dX11_give_14 rfl ?_
      refine g_getR (j := 2) C dX11_give_15 rfl (Nat.le_of_ble_eq_true rfl) (Nat.le_of_ble_eq_true rfl) fl_11_37 rfl rfl (r := 22) rfl ?_
      refine g_getI (j := 8) C dX11_give_18 rfl (Nat.le_of_ble_eq_true rfl) (Nat.le_of_ble_eq_true rfl) fl_11_138 rfl rfl (fun i4 => ?_)
      refine g_icmp_lt C dX11_give_21 ia2 i4 rfl (tgt := 26) (fun c5 => ?_) (fun c5 => ?_)
      · have h := ifT c5 h
        refine g_aload_n C dX11_give_26 rfl ?_
        refine g_getR (j := 5) C dX11_give_27 rfl (Nat.le_of_ble_eq_true rfl) (Nat.le_of_ble_eq_true rfl) fl_11_54 rfl rfl (r := 38) rfl ?_
        refine g_iload_n C dX11_give_30 rfl ?_
        obtain ⟨k6, qk6, h⟩ := bnd h
        refine g_aald C dX11_give_31 rfl rfl qk6 ia1 ?_
        refine g_iload_n C dX11_give_32 rfl ?_
        obtain ⟨σ7, qσ7, h⟩ := bnd h
        refine g_putI (j := 2) C dX11_give_33 (rrB_38 qk6) (Nat.le_of_ble_eq_true rfl) (Nat.le_of_ble_eq_true rfl) fl_11_106 rfl rfl rfl rfl qσ7 ia2 ?_
        refine g_iconst C dX11_give_36 ?_
        exact g_zretP C dX11_give_37 hr hlk h (Or.inr rfl)
      · have h := ifF c5 h
        refine g_iconst C dX11_give_24 ?_
        exact g_zretP C dX11_give_25 hr hlk h (Or.inl rfl)
theorem dX11_distance_0 : decode cX11_distance 0 = .ok (.aload_n 0, 1) := by decide +kernel
theorem dX11_distance_1 : decode cX11_distance 1 = .ok (.getfield 29, 3) := by decide +kernel
theorem dX11_distance_4 : decode cX11_distance 4 = .ok (.iload_n 1, 1) := by decide +kernel
theorem dX11_distance_5 : decode cX11_distance 5 = .ok (.iload_n 2, 1) := by decide +kernel
theorem dX11_distance_6 : decode cX11_distance 6 = .ok (.invokevirtual 141, 3) := by decide +kernel
theorem dX11_distance_9 : decode cX11_distance 9 = .ok (.ireturn, 1) := by decide +kernel
abbrev rm_X11_distance : Room := { frames := 1, cells := 0, slots := 0, locals := 23 }
set_option maxRecDepth 100000 in
set_option maxHeartbeats 4000000 in
theorem ct_X11_distance {w : Wd} {l : Launch} {a1 : Int} {a2 : Int} {σ : St} {y : Int} (ia1 : InI a1) (ia2 : InI a2) (h : m_X11_distance a1 a2 σ = some y) : Ct w l yX11_distance (Cond.code yX11_distance cX11_distance 3 (some .int) :: TB) rm_X11_distance [rv w 0, iv a1, iv a2] σ (some (iv y)) (InI y) σ := by
  refine Ct.of2 [some (rv w 0), some (iv a1), some (iv a2)] 0 rfl pn_RX11 (Nat.le_of_ble_eq_true rfl) ?_
  intro p e s m args below meth c C hr hlk
  unfold m_X11_distance at h
  refine g_aload_n C dX11_distance_0 rfl ?_
  refine g_getR (j := 0) C dX11_distance_1 rfl (Nat.le_of_ble_eq_true rfl) (Nat.le_of_ble_eq_true rfl) fl_11_29 rfl rfl (r := 1) rfl ?_
  refine g_iload_n C dX11_distance_4 rfl ?_
  refine g_iload_n C dX11_distance_5 rfl ?_
  obtain ⟨x1, qx1, h⟩ := bnd h
  refine g_callV1 (As := [iv a1, iv a2]) C dX11_distance_6 mi_X10_lengthBetween ml_11_141 (ct_X10_lengthBetween ia1 ia2 qx1) rfl rfl ⟨rfl, rfl⟩ ⟨Nat.le_of_ble_eq_true rfl, Nat.le_of_ble_eq_true rfl⟩ ⟨Nat.zero_le _, Nat.zero_le _⟩ rfl (Nat.le_of_ble_eq_true rfl) (fun ix1 => ?_)
  exact g_iretU C dX11_distance_9 hr hlk h ix1
theorem dX11_post_0 : decode cX11_post 0 = .ok (.iload_n 1, 1) := by decide +kernel
theorem dX11_post_1 : decode cX11_post 1 = .ok (.ifCond .lt 19, 3) := by decide +kernel
theorem dX11_post_4 : decode cX11_post 4 = .ok (.iload_n 1, 1) := by decide +kernel
theorem dX11_post_5 : decode cX11_post 5 = .ok (.iconst 4, 1) := by decide +kernel
theorem dX11_post_6 : decode cX11_post 6 = .ok (.if_icmp .ge 14, 3) := by decide +kernel
theorem dX11_post_9 : decode cX11_post 9 = .ok (.aload_n 0, 1) := by decide +kernel
theorem dX11_post_10 : decode cX11_post 10 = .ok (.getfield 29, 3) := by decide +kernel
theorem dX11_post_13 : decode cX11_post 13 = .ok (.iload_n 2, 1) := by decide +kernel
theorem dX11_post_14 : decode cX11_post 14 = .ok (.invokevirtual 118, 3) := by decide +kernel
theorem dX11_post_17 : decode cX11_post 17 = .ok (.ifCond .ne 5, 3) := by decide +kernel
theorem dX11_post_20 : decode cX11_post 20 = .ok (.iconst (-1), 1) := by decide +kernel
theorem dX11_post_21 : decode cX11_post 21 = .ok (.ireturn, 1) := by decide +kernel
theorem dX11_post_22 : decode cX11_post 22 = .ok (.iload_n 3, 1) := by decide +kernel
theorem dX11_post_23 : decode cX11_post 23 = .ok (.ifCond .lt 30, 3) := by decide +kernel
theorem dX11_post_26 : decode cX11_post 26 = .ok (.iload_n 3, 1) := by decide +kernel
theorem dX11_post_27 : decode cX11_post 27 = .ok (.iload 4, 2) := by decide +kernel
theorem dX11_post_29 : decode cX11_post 29 = .ok (.if_icmp .ge 24, 3) := by decide +kernel
theorem dX11_post_32 : decode cX11_post 32 = .ok (.iload 4, 2) := by decide +kernel
theorem dX11_post_34 : decode cX11_post 34 = .ok (.bipush 96, 2) := by decide +kernel
theorem dX11_post_36 : decode cX11_post 36 = .ok (.if_icmp .gt 17, 3) := by decide +kernel
theorem dX11_post_39 : decode cX11_post 39 = .ok (.aload_n 0, 1) := by decide +kernel
theorem dX11_post_40 : decode cX11_post 40 = .ok (.getfield 50, 3) := by decide +kernel
theorem dX11_post_43 : decode cX11_post 43 = .ok (.iload_n 1, 1) := by decide +kernel
theorem dX11_post_44 : decode cX11_post 44 = .ok (.iload_n 3, 1) := by decide +kernel
theorem dX11_post_45 : decode cX11_post 45 = .ok (.iload 4, 2) := by decide +kernel
theorem dX11_post_47 : decode cX11_post 47 = .ok (.invokevirtual 145, 3) := by decide +kernel
theorem dX11_post_50 : decode cX11_post 50 = .ok (.ifCond .eq 5, 3) := by decide +kernel
theorem dX11_post_53 : decode cX11_post 53 = .ok (.iconst (-1), 1) := by decide +kernel
theorem dX11_post_54 : decode cX11_post 54 = .ok (.ireturn, 1) := by decide +kernel
theorem dX11_post_55 : decode cX11_post 55 = .ok (.aload_n 0, 1) := by decide +kernel
theorem dX11_post_56 : decode cX11_post 56 = .ok (.getfield 50, 3) := by decide +kernel
theorem dX11_post_59 : decode cX11_post 59 = .ok (.iconst 0, 1) := by decide +kernel
theorem dX11_post_60 : decode cX11_post 60 = .ok (.iload_n 1, 1) := by decide +kernel
theorem dX11_post_61 : decode cX11_post 61 = .ok (.iload_n 2, 1) := by decide +kernel
theorem dX11_post_62 : decode cX11_post 62 = .ok (.iload_n 3, 1) := by decide +kernel
theorem dX11_post_63 : decode cX11_post 63 = .ok (.iload 4, 2) := by decide +kernel
theorem dX11_post_65 : decode cX11_post 65 = .ok (.invokevirtual 149, 3) := by decide +kernel
theorem dX11_post_68 : decode cX11_post 68 = .ok (.ireturn, 1) := by decide +kernel
abbrev rm_X11_post : Room := { frames := 4, cells := 0, slots := 0, locals := 90 }
set_option maxRecDepth 100000 in
set_option maxHeartbeats 4000000 in
theorem ct_X11_post {w : Wd} {l : Launch} {a1 : Int} {a2 : Int} {a3 : Int} {a4 : Int} {σ : St} {y : Int} {σ' : St} (ia1 : InI a1) (ia2 : InI a2) (ia3 : InI a3) (ia4 : InI a4) (h : m_X11_post a1 a2 a3 a4 σ = some (y, σ')) : Ct w l yX11_post (Cond.code yX11_post cX11_post 5 (some .int) :: TB) rm_X11_post [rv w 0, iv a1, iv a2, iv a3, iv a4] σ (some (iv y)) (InI y) σ' := by
  refine Ct.of2 [some (rv w 0), some (iv a1), some (iv a2), some (iv a3), some (iv a4)] 0 rfl pn_RX11 (Nat.le_of_ble_eq_true rfl) ?_
  intro p e s m args below meth c C hr hlk
  unfold m_X11_post at h
  refine g_iload_n C dX11_post_0 rfl ?_
  refine g_if_lt C dX11_post_1 ia1 rfl (tgt := 20) (fun c1 => ?_) (fun c1 => ?_)
  · have h := ifT c1 h
    refine g_iconst C dX11_post_20 ?_
    exact g_iretP C dX11_post_21 hr hlk h (by decide)
  · have h := ifF c1 h
    refine g_iload_n C dX11_post_4 rfl ?_
    refine g_iconst C dX11_post_5 ?_
    refine g_icmp_ge C dX11_post_6 ia1 (by decide) rfl (tgt := 20) (fun c2 => ?_) (fun c2 => ?_)
    · have h := ifT c2 h
      refine g_iconst C dX11_post_20 ?_
      exact g_iretP C dX11_post_21 hr hlk h (by decide)
    · have h := ifF c2 h
      refine g_aload_n C dX11_post_9 rfl ?_
      refine g_getR (j := 0) C dX11_post_10 rfl (Nat.le_of_ble_eq_true rfl) (Nat.le_of_ble_eq_true rfl) fl_11_29 rfl rfl (r := 1) rfl ?_
      refine g_iload_n C dX11_post_13 rfl ?_
      obtain ⟨x3, qx3, h⟩ := bnd h
      refine g_callV1 (As := [iv a2]) C dX11_post_14 mi_X10_hasSpot ml_11_118 (ct_X10_hasSpot ia2 qx3) rfl rfl ⟨rfl, rfl⟩ ⟨Nat.le_of_ble_eq_true rfl, Nat.le_of_ble_eq_true rfl⟩ ⟨Nat.zero_le _, Nat.zero_le _⟩ rfl (Nat.le_of_ble_eq_true rfl) (fun ix3 => ?_)
      refine g_if_ne C dX11_post_17 (zI ix3) rfl (tgt := 22) (fun c4 => ?_) (fun c4 => ?_)
      · have h := ifF c4 h
        refine g_iload_n C dX11_post_22 rfl ?_
        refine g_if_lt C dX11_post_23 ia3 rfl (tgt := 53) (fun c5 => ?_) (fun c5 => ?_)
        · have h := ifT c5 h
          refine g_iconst C dX11_post_53 ?_
          exact g_iretP C dX11_post_54 hr hlk h (by decide)
        · have h := ifF c5 h
          refine g_iload_n C dX11_post_26 rfl ?_
          refine g_iload C dX11_post_27 rfl ?_
          refine g_icmp_ge C dX11_post_29 ia3 ia4 rfl (tgt := 53) (fun c6 => ?_) (fun c6 => ?_)
          · have h := ifT c6 h
            refine g_iconst C dX11_post_53 ?_
            exact g_iretP C dX11_post_54 hr hlk h (by decide)
          · have h := ifF c6 h
            refine g_iload C dX11_post_32 rfl ?_
            refine g_bipush C dX11_post_34 rfl ?_
            refine g_icmp_gt C dX11_post_36 ia4 (by decide) rfl (tgt := 53) (fun c7 => ?_) (fun c7 => ?_)
            · have h := ifT c7 h
              refine g_iconst C dX11_post_53 ?_
              exact g_iretP C dX11_post_54 hr hlk h (by decide)
            · have h := ifF c7 h
              refine g_aload_n C dX11_post_39 rfl ?_
              refine g_getR (j := 4) C dX11_post_40 rfl (Nat.le_of_ble_eq_true rfl) (Nat.le_of_ble_eq_true rfl) fl_11_50 rfl rfl (r := 30) rfl ?_
              refine g_iload_n C dX11_post_43 rfl ?_
              refine g_iload_n C dX11_post_44 rfl ?_
              refine g_iload C dX11_post_45 rfl ?_
              obtain ⟨⟨x8, σ9⟩, qx8, h⟩ := bnd h
              refine g_callV1 (As := [iv a1, iv a3, iv a4]) C dX11_post_47 mi_X1_isPosted ml_11_145 (ct_X1_isPosted ia1 ia3 ia4 qx8) rfl rfl ⟨rfl, rfl⟩ ⟨Nat.le_of_ble_eq_true rfl, Nat.le_of_ble_eq_true rfl⟩ ⟨Nat.zero_le _, Nat.zero_le _⟩ rfl (Nat.le_of_ble_eq_true rfl) (fun ix8 => ?_)
              refine g_if_eq C dX11_post_50 (zI ix8) rfl (tgt := 55) (fun c10 => ?_) (fun c10 => ?_)
              · have h := ifT c10 h
                refine g_aload_n C dX11_post_55 rfl ?_
                refine g_getR (j := 4) C dX11_post_56 rfl (Nat.le_of_ble_eq_true rfl) (Nat.le_of_ble_eq_true rfl) fl_11_50 rfl rfl (r := 30) rfl ?_
                refine g_iconst C dX11_post_59 ?_
                refine g_iload_n C dX11_post_60 rfl ?_
                refine g_iload_n C dX11_post_61 rfl ?_
                refine g_iload_n C dX11_post_62 rfl ?_
                refine g_iload C dX11_post_63 rfl ?_
                obtain ⟨⟨x11, σ12⟩, qx11, h⟩ := bnd h
                refine g_callV1 (As := [iv 0, iv a1, iv a2, iv a3, iv a4]) C dX11_post_65 mi_X1_add ml_11_149 (ct_X1_add (by decide) ia1 ia2 ia3 ia4 qx11) rfl rfl ⟨rfl, rfl⟩ ⟨Nat.le_of_ble_eq_true rfl, Nat.le_of_ble_eq_true rfl⟩ ⟨Nat.zero_le _, Nat.zero_le _⟩ rfl (Nat.le_of_ble_eq_true rfl) (fun ix11 => ?_)
                exact g_iretP C dX11_post_68 hr hlk h ix11
              · have h := ifF c10 h
                refine g_iconst C dX11_post_53 ?_
                exact g_iretP C dX11_post_54 hr hlk h (by decide)
      · have h := ifT c4 h
        refine g_iconst C dX11_post_20 ?_
        exact g_iretP C dX11_post_21 hr hlk h (by decide)
theorem dX11_sight_0 : decode cX11_sight 0 = .ok (.aload_n 0, 1) := by decide +kernel
theorem dX11_sight_1 : decode cX11_sight 1 = .ok (.iload_n 1, 1) := by decide +kernel
theorem dX11_sight_2 : decode cX11_sight 2 = .ok (.invokevirtual 135, 3) := by decide +kernel
theorem dX11_sight_5 : decode cX11_sight 5 = .ok (.ifCond .eq 21, 3) := by decide +kernel
theorem dX11_sight_8 : decode cX11_sight 8 = .ok (.aload_n 0, 1) := by decide +kernel
theorem dX11_sight_9 : decode cX11_sight 9 = .ok (.getfield 29, 3) := by decide +kernel
theorem dX11_sight_12 : decode cX11_sight 12 = .ok (.iload_n 2, 1) := by decide +kernel
theorem dX11_sight_13 : decode cX11_sight 13 = .ok (.invokevirtual 118, 3) := by decide +kernel
theorem dX11_sight_16 : decode cX11_sight 16 = .ok (.ifCond .eq 10, 3) := by decide +kernel
theorem dX11_sight_19 : decode cX11_sight 19 = .ok (.iload_n 3, 1) := by decide +kernel
theorem dX11_sight_20 : decode cX11_sight 20 = .ok (.invokestatic 152, 3) := by decide +kernel
theorem dX11_sight_23 : decode cX11_sight 23 = .ok (.ifCond .ne 5, 3) := by decide +kernel
theorem dX11_sight_26 : decode cX11_sight 26 = .ok (.iconst (-1), 1) := by decide +kernel
theorem dX11_sight_27 : decode cX11_sight 27 = .ok (.ireturn, 1) := by decide +kernel
theorem dX11_sight_28 : decode cX11_sight 28 = .ok (.aload_n 0, 1) := by decide +kernel
theorem dX11_sight_29 : decode cX11_sight 29 = .ok (.getfield 50, 3) := by decide +kernel
theorem dX11_sight_32 : decode cX11_sight 32 = .ok (.iconst 1, 1) := by decide +kernel
theorem dX11_sight_33 : decode cX11_sight 33 = .ok (.iload_n 1, 1) := by decide +kernel
theorem dX11_sight_34 : decode cX11_sight 34 = .ok (.iload_n 2, 1) := by decide +kernel
theorem dX11_sight_35 : decode cX11_sight 35 = .ok (.iload_n 3, 1) := by decide +kernel
theorem dX11_sight_36 : decode cX11_sight 36 = .ok (.iload_n 3, 1) := by decide +kernel
theorem dX11_sight_37 : decode cX11_sight 37 = .ok (.iconst 1, 1) := by decide +kernel
theorem dX11_sight_38 : decode cX11_sight 38 = .ok (.iadd, 1) := by decide +kernel
theorem dX11_sight_39 : decode cX11_sight 39 = .ok (.invokevirtual 149, 3) := by decide +kernel
theorem dX11_sight_42 : decode cX11_sight 42 = .ok (.ireturn, 1) := by decide +kernel
abbrev rm_X11_sight : Room := { frames := 1, cells := 0, slots := 0, locals := 25 }
set_option maxRecDepth 100000 in
set_option maxHeartbeats 4000000 in
theorem ct_X11_sight {w : Wd} {l : Launch} {a1 : Int} {a2 : Int} {a3 : Int} {σ : St} {y : Int} {σ' : St} (ia1 : InI a1) (ia2 : InI a2) (ia3 : InI a3) (h : m_X11_sight a1 a2 a3 σ = some (y, σ')) : Ct w l yX11_sight (Cond.code yX11_sight cX11_sight 4 (some .int) :: TB) rm_X11_sight [rv w 0, iv a1, iv a2, iv a3] σ (some (iv y)) (InI y) σ' := by
  refine Ct.of2 [some (rv w 0), some (iv a1), some (iv a2), some (iv a3)] 0 rfl pn_RX11 (Nat.le_of_ble_eq_true rfl) ?_
  intro p e s m args below meth c C hr hlk
  unfold m_X11_sight at h
  refine g_aload_n C dX11_sight_0 rfl ?_
  refine g_iload_n C dX11_sight_1 rfl ?_
  obtain ⟨x1, qx1, h⟩ := bnd h
  refine g_callV1 (As := [iv a1]) C dX11_sight_2 mi_X11_isAgent ml_11_135 (ct_X11_isAgent ia1 qx1) rfl rfl ⟨rfl, rfl⟩ ⟨Nat.le_of_ble_eq_true rfl, Nat.le_of_ble_eq_true rfl⟩ ⟨Nat.zero_le _, Nat.zero_le _⟩ rfl (Nat.le_of_ble_eq_true rfl) (fun ix1 => ?_)
  refine g_if_eq C dX11_sight_5 (zI ix1) rfl (tgt := 26) (fun c2 => ?_) (fun c2 => ?_)
  · have h := ifT c2 h
    refine g_iconst C dX11_sight_26 ?_
    exact g_iretP C dX11_sight_27 hr hlk h (by decide)
  · have h := ifF c2 h
    refine g_aload_n C dX11_sight_8 rfl ?_
    refine g_getR (j := 0) C dX11_sight_9 rfl (Nat.le_of_ble_eq_true rfl) (Nat.le_of_ble_eq_true rfl) fl_11_29 rfl rfl (r := 1) rfl ?_
    refine g_iload_n C dX11_sight_12 rfl ?_
    obtain ⟨x3, qx3, h⟩ := bnd h
    refine g_callV1 (As := [iv a2]) C dX11_sight_13 mi_X10_hasSpot ml_11_118 (ct_X10_hasSpot ia2 qx3) rfl rfl ⟨rfl, rfl⟩ ⟨Nat.le_of_ble_eq_true rfl, Nat.le_of_ble_eq_true rfl⟩ ⟨Nat.zero_le _, Nat.zero_le _⟩ rfl (Nat.le_of_ble_eq_true rfl) (fun ix3 => ?_)
    refine g_if_eq C dX11_sight_16 (zI ix3) rfl (tgt := 26) (fun c4 => ?_) (fun c4 => ?_)
    · have h := ifT c4 h
      refine g_iconst C dX11_sight_26 ?_
      exact g_iretP C dX11_sight_27 hr hlk h (by decide)
    · have h := ifF c4 h
      refine g_iload_n C dX11_sight_19 rfl ?_
      obtain ⟨x5, qx5, h⟩ := bnd h
      refine g_callS1 (As := [iv a3]) C dX11_sight_20 mi_X11_isTick ml_11_152 (ct_X11_isTick ia3 qx5) rfl ⟨rfl, rfl⟩ ⟨Nat.le_of_ble_eq_true rfl, Nat.le_of_ble_eq_true rfl⟩ ⟨Nat.zero_le _, Nat.zero_le _⟩ rfl (Nat.le_of_ble_eq_true rfl) (fun ix5 => ?_)
      refine g_if_ne C dX11_sight_23 (zI ix5) rfl (tgt := 28) (fun c6 => ?_) (fun c6 => ?_)
      · have h := ifF c6 h
        refine g_aload_n C dX11_sight_28 rfl ?_
        refine g_getR (j := 4) C dX11_sight_29 rfl (Nat.le_of_ble_eq_true rfl) (Nat.le_of_ble_eq_true rfl) fl_11_50 rfl rfl (r := 30) rfl ?_
        refine g_iconst C dX11_sight_32 ?_
        refine g_iload_n C dX11_sight_33 rfl ?_
        refine g_iload_n C dX11_sight_34 rfl ?_
        refine g_iload_n C dX11_sight_35 rfl ?_
        refine g_iload_n C dX11_sight_36 rfl ?_
        refine g_iconst C dX11_sight_37 ?_
        refine g_iadd C dX11_sight_38 ?_
        obtain ⟨⟨x7, σ8⟩, qx7, h⟩ := bnd h
        refine g_callV1 (As := [iv 1, iv a1, iv a2, iv a3, iv (wr (a3 + 1))]) C dX11_sight_39 mi_X1_add ml_11_149 (ct_X1_add (by decide) ia1 ia2 ia3 (iwr _) qx7) rfl rfl ⟨rfl, rfl⟩ ⟨Nat.le_of_ble_eq_true rfl, Nat.le_of_ble_eq_true rfl⟩ ⟨Nat.zero_le _, Nat.zero_le _⟩ rfl (Nat.le_of_ble_eq_true rfl) (fun ix7 => ?_)
        exact g_iretP C dX11_sight_42 hr hlk h ix7
      · have h := ifT c6 h
        refine g_iconst C dX11_sight_26 ?_
        exact g_iretP C dX11_sight_27 hr hlk h (by decide)
theorem dX11_turned_0 : decode cX11_turned 0 = .ok (.aload_n 0, 1) := by decide +kernel
theorem dX11_turned_1 : decode cX11_turned 1 = .ok (.iload_n 1, 1) := by decide +kernel
theorem dX11_turned_2 : decode cX11_turned 2 = .ok (.invokevirtual 135, 3) := by decide +kernel
theorem dX11_turned_5 : decode cX11_turned 5 = .ok (.ifCond .eq 10, 3) := by decide +kernel
theorem dX11_turned_8 : decode cX11_turned 8 = .ok (.iload_n 2, 1) := by decide +kernel
theorem dX11_turned_9 : decode cX11_turned 9 = .ok (.invokestatic 152, 3) := by decide +kernel
theorem dX11_turned_12 : decode cX11_turned 12 = .ok (.ifCond .ne 5, 3) := by decide +kernel
theorem dX11_turned_15 : decode cX11_turned 15 = .ok (.iconst (-1), 1) := by decide +kernel
theorem dX11_turned_16 : decode cX11_turned 16 = .ok (.ireturn, 1) := by decide +kernel
theorem dX11_turned_17 : decode cX11_turned 17 = .ok (.aload_n 0, 1) := by decide +kernel
theorem dX11_turned_18 : decode cX11_turned 18 = .ok (.getfield 50, 3) := by decide +kernel
theorem dX11_turned_21 : decode cX11_turned 21 = .ok (.iconst 2, 1) := by decide +kernel
theorem dX11_turned_22 : decode cX11_turned 22 = .ok (.iload_n 1, 1) := by decide +kernel
theorem dX11_turned_23 : decode cX11_turned 23 = .ok (.iconst (-1), 1) := by decide +kernel
theorem dX11_turned_24 : decode cX11_turned 24 = .ok (.iload_n 2, 1) := by decide +kernel
theorem dX11_turned_25 : decode cX11_turned 25 = .ok (.bipush 96, 2) := by decide +kernel
theorem dX11_turned_27 : decode cX11_turned 27 = .ok (.invokevirtual 149, 3) := by decide +kernel
theorem dX11_turned_30 : decode cX11_turned 30 = .ok (.ireturn, 1) := by decide +kernel
abbrev rm_X11_turned : Room := { frames := 1, cells := 0, slots := 0, locals := 25 }
set_option maxRecDepth 100000 in
set_option maxHeartbeats 4000000 in
theorem ct_X11_turned {w : Wd} {l : Launch} {a1 : Int} {a2 : Int} {σ : St} {y : Int} {σ' : St} (ia1 : InI a1) (ia2 : InI a2) (h : m_X11_turned a1 a2 σ = some (y, σ')) : Ct w l yX11_turned (Cond.code yX11_turned cX11_turned 3 (some .int) :: TB) rm_X11_turned [rv w 0, iv a1, iv a2] σ (some (iv y)) (InI y) σ' := by
  refine Ct.of2 [some (rv w 0), some (iv a1), some (iv a2)] 0 rfl pn_RX11 (Nat.le_of_ble_eq_true rfl) ?_
  intro p e s m args below meth c C hr hlk
  unfold m_X11_turned at h
  refine g_aload_n C dX11_turned_0 rfl ?_
  refine g_iload_n C dX11_turned_1 rfl ?_
  obtain ⟨x1, qx1, h⟩ := bnd h
  refine g_callV1 (As := [iv a1]) C dX11_turned_2 mi_X11_isAgent ml_11_135 (ct_X11_isAgent ia1 qx1) rfl rfl ⟨rfl, rfl⟩ ⟨Nat.le_of_ble_eq_true rfl, Nat.le_of_ble_eq_true rfl⟩ ⟨Nat.zero_le _, Nat.zero_le _⟩ rfl (Nat.le_of_ble_eq_true rfl) (fun ix1 => ?_)
  refine g_if_eq C dX11_turned_5 (zI ix1) rfl (tgt := 15) (fun c2 => ?_) (fun c2 => ?_)
  · have h := ifT c2 h
    refine g_iconst C dX11_turned_15 ?_
    exact g_iretP C dX11_turned_16 hr hlk h (by decide)
  · have h := ifF c2 h
    refine g_iload_n C dX11_turned_8 rfl ?_
    obtain ⟨x3, qx3, h⟩ := bnd h
    refine g_callS1 (As := [iv a2]) C dX11_turned_9 mi_X11_isTick ml_11_152 (ct_X11_isTick ia2 qx3) rfl ⟨rfl, rfl⟩ ⟨Nat.le_of_ble_eq_true rfl, Nat.le_of_ble_eq_true rfl⟩ ⟨Nat.zero_le _, Nat.zero_le _⟩ rfl (Nat.le_of_ble_eq_true rfl) (fun ix3 => ?_)
    refine g_if_ne C dX11_turned_12 (zI ix3) rfl (tgt := 17) (fun c4 => ?_) (fun c4 => ?_)
    · have h := ifF c4 h
      refine g_aload_n C dX11_turned_17 rfl ?_
      refine g_getR (j := 4) C dX11_turned_18 rfl (Nat.le_of_ble_eq_true rfl) (Nat.le_of_ble_eq_true rfl) fl_11_50 rfl rfl (r := 30) rfl ?_
      refine g_iconst C dX11_turned_21 ?_
      refine g_iload_n C dX11_turned_22 rfl ?_
      refine g_iconst C dX11_turned_23 ?_
      refine g_iload_n C dX11_turned_24 rfl ?_
      refine g_bipush C dX11_turned_25 rfl ?_
      obtain ⟨⟨x5, σ6⟩, qx5, h⟩ := bnd h
      refine g_callV1 (As := [iv 2, iv a1, iv (-1), iv a2, iv 96]) C dX11_turned_27 mi_X1_add ml_11_149 (ct_X1_add (by decide) ia1 (by decide) ia2 (by decide) qx5) rfl rfl ⟨rfl, rfl⟩ ⟨Nat.le_of_ble_eq_true rfl, Nat.le_of_ble_eq_true rfl⟩ ⟨Nat.zero_le _, Nat.zero_le _⟩ rfl (Nat.le_of_ble_eq_true rfl) (fun ix5 => ?_)
      exact g_iretP C dX11_turned_30 hr hlk h ix5
    · have h := ifT c4 h
      refine g_iconst C dX11_turned_15 ?_
      exact g_iretP C dX11_turned_16 hr hlk h (by decide)
theorem dX11_strike_0 : decode cX11_strike 0 = .ok (.aload_n 0, 1) := by decide +kernel
theorem dX11_strike_1 : decode cX11_strike 1 = .ok (.getfield 50, 3) := by decide +kernel
theorem dX11_strike_4 : decode cX11_strike 4 = .ok (.iload_n 1, 1) := by decide +kernel
theorem dX11_strike_5 : decode cX11_strike 5 = .ok (.aload_n 0, 1) := by decide +kernel
theorem dX11_strike_6 : decode cX11_strike 6 = .ok (.getfield 50, 3) := by decide +kernel
theorem dX11_strike_9 : decode cX11_strike 9 = .ok (.getfield 155, 3) := by decide +kernel
theorem dX11_strike_12 : decode cX11_strike 12 = .ok (.invokevirtual 158, 3) := by decide +kernel
theorem dX11_strike_15 : decode cX11_strike 15 = .ok (.ifCond .eq 16, 3) := by decide +kernel
theorem dX11_strike_18 : decode cX11_strike 18 = .ok (.aload_n 0, 1) := by decide +kernel
theorem dX11_strike_19 : decode cX11_strike 19 = .ok (.getfield 50, 3) := by decide +kernel
theorem dX11_strike_22 : decode cX11_strike 22 = .ok (.getfield 162, 3) := by decide +kernel
theorem dX11_strike_25 : decode cX11_strike 25 = .ok (.iload_n 1, 1) := by decide +kernel
theorem dX11_strike_26 : decode cX11_strike 26 = .ok (.iaload, 1) := by decide +kernel
theorem dX11_strike_27 : decode cX11_strike 27 = .ok (.iconst 3, 1) := by decide +kernel
theorem dX11_strike_28 : decode cX11_strike 28 = .ok (.if_icmp .ne 5, 3) := by decide +kernel
theorem dX11_strike_31 : decode cX11_strike 31 = .ok (.iconst (-1), 1) := by decide +kernel
theorem dX11_strike_32 : decode cX11_strike 32 = .ok (.ireturn, 1) := by decide +kernel
theorem dX11_strike_33 : decode cX11_strike 33 = .ok (.aload_n 0, 1) := by decide +kernel
theorem dX11_strike_34 : decode cX11_strike 34 = .ok (.getfield 50, 3) := by decide +kernel
theorem dX11_strike_37 : decode cX11_strike 37 = .ok (.iconst 3, 1) := by decide +kernel
theorem dX11_strike_38 : decode cX11_strike 38 = .ok (.iload_n 1, 1) := by decide +kernel
theorem dX11_strike_39 : decode cX11_strike 39 = .ok (.iconst (-1), 1) := by decide +kernel
theorem dX11_strike_40 : decode cX11_strike 40 = .ok (.iconst (-1), 1) := by decide +kernel
theorem dX11_strike_41 : decode cX11_strike 41 = .ok (.iconst (-1), 1) := by decide +kernel
theorem dX11_strike_42 : decode cX11_strike 42 = .ok (.invokevirtual 149, 3) := by decide +kernel
theorem dX11_strike_45 : decode cX11_strike 45 = .ok (.ireturn, 1) := by decide +kernel
abbrev rm_X11_strike : Room := { frames := 1, cells := 0, slots := 0, locals := 25 }
set_option maxRecDepth 100000 in
set_option maxHeartbeats 4000000 in
theorem ct_X11_strike {w : Wd} {l : Launch} {a1 : Int} {σ : St} {y : Int} {σ' : St} (ia1 : InI a1) (h : m_X11_strike a1 σ = some (y, σ')) : Ct w l yX11_strike (Cond.code yX11_strike cX11_strike 2 (some .int) :: TB) rm_X11_strike [rv w 0, iv a1] σ (some (iv y)) (InI y) σ' := by
  refine Ct.of2 [some (rv w 0), some (iv a1)] 0 rfl pn_RX11 (Nat.le_of_ble_eq_true rfl) ?_
  intro p e s m args below meth c C hr hlk
  unfold m_X11_strike at h
  refine g_aload_n C dX11_strike_0 rfl ?_
  refine g_getR (j := 4) C dX11_strike_1 rfl (Nat.le_of_ble_eq_true rfl) (Nat.le_of_ble_eq_true rfl) fl_11_50 rfl rfl (r := 30) rfl ?_
  refine g_iload_n C dX11_strike_4 rfl ?_
  refine g_aload_n C dX11_strike_5 rfl ?_
  refine g_getR (j := 4) C dX11_strike_6 rfl (Nat.le_of_ble_eq_true rfl) (Nat.le_of_ble_eq_true rfl) fl_11_50 rfl rfl (r := 30) rfl ?_
  refine g_getI (j := 5) C dX11_strike_9 rfl (Nat.le_of_ble_eq_true rfl) (Nat.le_of_ble_eq_true rfl) fl_11_155 rfl rfl (fun i1 => ?_)
  obtain ⟨x2, qx2, h⟩ := bnd h
  refine g_callV1 (As := [iv a1, iv (σ 30 5)]) C dX11_strike_12 mi_X1_isFactOf ml_11_158 (ct_X1_isFactOf ia1 i1 qx2) rfl rfl ⟨rfl, rfl⟩ ⟨Nat.le_of_ble_eq_true rfl, Nat.le_of_ble_eq_true rfl⟩ ⟨Nat.zero_le _, Nat.zero_le _⟩ rfl (Nat.le_of_ble_eq_true rfl) (fun ix2 => ?_)
  refine g_if_eq C dX11_strike_15 (zI ix2) rfl (tgt := 31) (fun c3 => ?_) (fun c3 => ?_)
  · have h := ifT c3 h
    refine g_iconst C dX11_strike_31 ?_
    exact g_iretP C dX11_strike_32 hr hlk h (by decide)
  · have h := ifF c3 h
    refine g_aload_n C dX11_strike_18 rfl ?_
    refine g_getR (j := 4) C dX11_strike_19 rfl (Nat.le_of_ble_eq_true rfl) (Nat.le_of_ble_eq_true rfl) fl_11_50 rfl rfl (r := 30) rfl ?_
    refine g_getR (j := 0) C dX11_strike_22 rfl (Nat.le_of_ble_eq_true rfl) (Nat.le_of_ble_eq_true rfl) fl_11_162 rfl rfl (r := 31) rfl ?_
    refine g_iload_n C dX11_strike_25 rfl ?_
    obtain ⟨x4, qx4, h⟩ := bnd h
    refine g_iald C dX11_strike_26 rfl rfl qx4 ia1 (fun ix4 => ?_)
    refine g_iconst C dX11_strike_27 ?_
    refine g_icmp_ne C dX11_strike_28 ix4 (by decide) rfl (tgt := 33) (fun c5 => ?_) (fun c5 => ?_)
    · have h := ifF c5 h
      refine g_aload_n C dX11_strike_33 rfl ?_
      refine g_getR (j := 4) C dX11_strike_34 rfl (Nat.le_of_ble_eq_true rfl) (Nat.le_of_ble_eq_true rfl) fl_11_50 rfl rfl (r := 30) rfl ?_
      refine g_iconst C dX11_strike_37 ?_
      refine g_iload_n C dX11_strike_38 rfl ?_
      refine g_iconst C dX11_strike_39 ?_
      refine g_iconst C dX11_strike_40 ?_
      refine g_iconst C dX11_strike_41 ?_
      obtain ⟨⟨x6, σ7⟩, qx6, h⟩ := bnd h
      refine g_callV1 (As := [iv 3, iv a1, iv (-1), iv (-1), iv (-1)]) C dX11_strike_42 mi_X1_add ml_11_149 (ct_X1_add (by decide) ia1 (by decide) (by decide) (by decide) qx6) rfl rfl ⟨rfl, rfl⟩ ⟨Nat.le_of_ble_eq_true rfl, Nat.le_of_ble_eq_true rfl⟩ ⟨Nat.zero_le _, Nat.zero_le _⟩ rfl (Nat.le_of_ble_eq_true rfl) (fun ix6 => ?_)
      exact g_iretP C dX11_strike_45 hr hlk h ix6
    · have h := ifT c5 h
      refine g_iconst C dX11_strike_31 ?_
      exact g_iretP C dX11_strike_32 hr hlk h (by decide)
theorem dX11_isKnowledge_0 : decode cX11_isKnowledge 0 = .ok (.iload_n 1, 1) := by decide +kernel
theorem dX11_isKnowledge_1 : decode cX11_isKnowledge 1 = .ok (.ifCond .lt 18, 3) := by decide +kernel
theorem dX11_isKnowledge_4 : decode cX11_isKnowledge 4 = .ok (.iload_n 1, 1) := by decide +kernel
theorem dX11_isKnowledge_5 : decode cX11_isKnowledge 5 = .ok (.aload_n 0, 1) := by decide +kernel
theorem dX11_isKnowledge_6 : decode cX11_isKnowledge 6 = .ok (.getfield 50, 3) := by decide +kernel
theorem dX11_isKnowledge_9 : decode cX11_isKnowledge 9 = .ok (.getfield 155, 3) := by decide +kernel
theorem dX11_isKnowledge_12 : decode cX11_isKnowledge 12 = .ok (.if_icmp .gt 7, 3) := by decide +kernel
theorem dX11_isKnowledge_15 : decode cX11_isKnowledge 15 = .ok (.iconst 1, 1) := by decide +kernel
theorem dX11_isKnowledge_16 : decode cX11_isKnowledge 16 = .ok (.goto 4, 3) := by decide +kernel
theorem dX11_isKnowledge_19 : decode cX11_isKnowledge 19 = .ok (.iconst 0, 1) := by decide +kernel
theorem dX11_isKnowledge_20 : decode cX11_isKnowledge 20 = .ok (.ireturn, 1) := by decide +kernel
abbrev rm_X11_isKnowledge : Room := { frames := 0, cells := 0, slots := 0, locals := 0 }
set_option maxRecDepth 100000 in
set_option maxHeartbeats 4000000 in
theorem ct_X11_isKnowledge {w : Wd} {l : Launch} {a1 : Int} {σ : St} {y : Int} (ia1 : InI a1) (h : m_X11_isKnowledge a1 σ = some y) : Ct w l yX11_isKnowledge (Cond.code yX11_isKnowledge cX11_isKnowledge 2 (some .boolean) :: TB) rm_X11_isKnowledge [rv w 0, iv a1] σ (some (iv y)) (InZ y) σ := by
  refine Ct.of2 [some (rv w 0), some (iv a1)] 0 rfl pn_RX11 (Nat.le_of_ble_eq_true rfl) ?_
  intro p e s m args below meth c C hr hlk
  unfold m_X11_isKnowledge at h
  refine g_iload_n C dX11_isKnowledge_0 rfl ?_
  refine g_if_lt C dX11_isKnowledge_1 ia1 rfl (tgt := 19) (fun c1 => ?_) (fun c1 => ?_)
  · have h := ifT c1 h
    refine g_iconst C dX11_isKnowledge_19 ?_
    exact g_zretU C dX11_isKnowledge_20 hr hlk h (Or.inl rfl)
  · have h := ifF c1 h
    refine g_iload_n C dX11_isKnowledge_4 rfl ?_
    refine g_aload_n C dX11_isKnowledge_5 rfl ?_
    refine g_getR (j := 4) C dX11_isKnowledge_6 rfl (Nat.le_of_ble_eq_true rfl) (Nat.le_of_ble_eq_true rfl) fl_11_50 rfl rfl (r := 30) rfl ?_
    refine g_getI (j := 5) C dX11_isKnowledge_9 rfl (Nat.le_of_ble_eq_true rfl) (Nat.le_of_ble_eq_true rfl) fl_11_155 rfl rfl (fun i2 => ?_)
    refine g_icmp_gt C dX11_isKnowledge_12 ia1 i2 rfl (tgt := 19) (fun c3 => ?_) (fun c3 => ?_)
    · have h := ifT c3 h
      refine g_iconst C dX11_isKnowledge_19 ?_
      exact g_zretU C dX11_isKnowledge_20 hr hlk h (Or.inl rfl)
    · have h := ifF c3 h
      refine g_iconst C dX11_isKnowledge_15 ?_
      refine g_goto C dX11_isKnowledge_16 rfl (tgt := 20) ?_
      exact g_zretU C dX11_isKnowledge_20 hr hlk h (Or.inr rfl)
theorem dX11_struck_0 : decode cX11_struck 0 = .ok (.aload_n 0, 1) := by decide +kernel
theorem dX11_struck_1 : decode cX11_struck 1 = .ok (.iload_n 2, 1) := by decide +kernel
theorem dX11_struck_2 : decode cX11_struck 2 = .ok (.invokevirtual 166, 3) := by decide +kernel
theorem dX11_struck_5 : decode cX11_struck 5 = .ok (.ifCond .eq 15, 3) := by decide +kernel
theorem dX11_struck_8 : decode cX11_struck 8 = .ok (.aload_n 0, 1) := by decide +kernel
theorem dX11_struck_9 : decode cX11_struck 9 = .ok (.getfield 50, 3) := by decide +kernel
theorem dX11_struck_12 : decode cX11_struck 12 = .ok (.iload_n 1, 1) := by decide +kernel
theorem dX11_struck_13 : decode cX11_struck 13 = .ok (.iload_n 2, 1) := by decide +kernel
theorem dX11_struck_14 : decode cX11_struck 14 = .ok (.invokevirtual 158, 3) := by decide +kernel
theorem dX11_struck_17 : decode cX11_struck 17 = .ok (.ifCond .ne 5, 3) := by decide +kernel
theorem dX11_struck_20 : decode cX11_struck 20 = .ok (.iconst (-1), 1) := by decide +kernel
theorem dX11_struck_21 : decode cX11_struck 21 = .ok (.ireturn, 1) := by decide +kernel
theorem dX11_struck_22 : decode cX11_struck 22 = .ok (.aload_n 0, 1) := by decide +kernel
theorem dX11_struck_23 : decode cX11_struck 23 = .ok (.getfield 50, 3) := by decide +kernel
theorem dX11_struck_26 : decode cX11_struck 26 = .ok (.iload_n 2, 1) := by decide +kernel
theorem dX11_struck_27 : decode cX11_struck 27 = .ok (.invokevirtual 169, 3) := by decide +kernel
theorem dX11_struck_30 : decode cX11_struck 30 = .ok (.aload_n 0, 1) := by decide +kernel
theorem dX11_struck_31 : decode cX11_struck 31 = .ok (.getfield 50, 3) := by decide +kernel
theorem dX11_struck_34 : decode cX11_struck 34 = .ok (.getfield 172, 3) := by decide +kernel
theorem dX11_struck_37 : decode cX11_struck 37 = .ok (.iload_n 1, 1) := by decide +kernel
theorem dX11_struck_38 : decode cX11_struck 38 = .ok (.baload, 1) := by decide +kernel
theorem dX11_struck_39 : decode cX11_struck 39 = .ok (.ifCond .eq 7, 3) := by decide +kernel
theorem dX11_struck_42 : decode cX11_struck 42 = .ok (.iconst 1, 1) := by decide +kernel
theorem dX11_struck_43 : decode cX11_struck 43 = .ok (.goto 4, 3) := by decide +kernel
theorem dX11_struck_46 : decode cX11_struck 46 = .ok (.iconst 0, 1) := by decide +kernel
theorem dX11_struck_47 : decode cX11_struck 47 = .ok (.ireturn, 1) := by decide +kernel
abbrev rm_X11_struck : Room := { frames := 3, cells := 0, slots := 0, locals := 66 }
set_option maxRecDepth 100000 in
set_option maxHeartbeats 4000000 in
theorem ct_X11_struck {w : Wd} {l : Launch} {a1 : Int} {a2 : Int} {σ : St} {y : Int} {σ' : St} (ia1 : InI a1) (ia2 : InI a2) (h : m_X11_struck a1 a2 σ = some (y, σ')) : Ct w l yX11_struck (Cond.code yX11_struck cX11_struck 3 (some .int) :: TB) rm_X11_struck [rv w 0, iv a1, iv a2] σ (some (iv y)) (InI y) σ' := by
  refine Ct.of2 [some (rv w 0), some (iv a1), some (iv a2)] 0 rfl pn_RX11 (Nat.le_of_ble_eq_true rfl) ?_
  intro p e s m args below meth c C hr hlk
  unfold m_X11_struck at h
  refine g_aload_n C dX11_struck_0 rfl ?_
  refine g_iload_n C dX11_struck_1 rfl ?_
  obtain ⟨x1, qx1, h⟩ := bnd h
  refine g_callV1 (As := [iv a2]) C dX11_struck_2 mi_X11_isKnowledge ml_11_166 (ct_X11_isKnowledge ia2 qx1) rfl rfl ⟨rfl, rfl⟩ ⟨Nat.le_of_ble_eq_true rfl, Nat.le_of_ble_eq_true rfl⟩ ⟨Nat.zero_le _, Nat.zero_le _⟩ rfl (Nat.le_of_ble_eq_true rfl) (fun ix1 => ?_)
  refine g_if_eq C dX11_struck_5 (zI ix1) rfl (tgt := 20) (fun c2 => ?_) (fun c2 => ?_)
  · have h := ifT c2 h
    refine g_iconst C dX11_struck_20 ?_
    exact g_iretP C dX11_struck_21 hr hlk h (by decide)
  · have h := ifF c2 h
    refine g_aload_n C dX11_struck_8 rfl ?_
    refine g_getR (j := 4) C dX11_struck_9 rfl (Nat.le_of_ble_eq_true rfl) (Nat.le_of_ble_eq_true rfl) fl_11_50 rfl rfl (r := 30) rfl ?_
    refine g_iload_n C dX11_struck_12 rfl ?_
    refine g_iload_n C dX11_struck_13 rfl ?_
    obtain ⟨x3, qx3, h⟩ := bnd h
    refine g_callV1 (As := [iv a1, iv a2]) C dX11_struck_14 mi_X1_isFactOf ml_11_158 (ct_X1_isFactOf ia1 ia2 qx3) rfl rfl ⟨rfl, rfl⟩ ⟨Nat.le_of_ble_eq_true rfl, Nat.le_of_ble_eq_true rfl⟩ ⟨Nat.zero_le _, Nat.zero_le _⟩ rfl (Nat.le_of_ble_eq_true rfl) (fun ix3 => ?_)
    refine g_if_ne C dX11_struck_17 (zI ix3) rfl (tgt := 22) (fun c4 => ?_) (fun c4 => ?_)
    · have h := ifF c4 h
      refine g_aload_n C dX11_struck_22 rfl ?_
      refine g_getR (j := 4) C dX11_struck_23 rfl (Nat.le_of_ble_eq_true rfl) (Nat.le_of_ble_eq_true rfl) fl_11_50 rfl rfl (r := 30) rfl ?_
      refine g_iload_n C dX11_struck_26 rfl ?_
      obtain ⟨σ5, qσ5, h⟩ := bnd h
      refine g_callV0 (As := [iv a2]) C dX11_struck_27 mi_X1_look ml_11_169 (ct_X1_look ia2 qσ5) rfl rfl ⟨rfl, rfl⟩ ⟨Nat.le_of_ble_eq_true rfl, Nat.le_of_ble_eq_true rfl⟩ ⟨Nat.zero_le _, Nat.zero_le _⟩ rfl (Nat.le_of_ble_eq_true rfl) (fun _ => ?_)
      refine g_aload_n C dX11_struck_30 rfl ?_
      refine g_getR (j := 4) C dX11_struck_31 rfl (Nat.le_of_ble_eq_true rfl) (Nat.le_of_ble_eq_true rfl) fl_11_50 rfl rfl (r := 30) rfl ?_
      refine g_getR (j := 7) C dX11_struck_34 rfl (Nat.le_of_ble_eq_true rfl) (Nat.le_of_ble_eq_true rfl) fl_11_172 rfl rfl (r := 36) rfl ?_
      refine g_iload_n C dX11_struck_37 rfl ?_
      obtain ⟨x6, qx6, h⟩ := bnd h
      refine g_zald C dX11_struck_38 rfl rfl qx6 ia1 (fun ix6 => ?_)
      refine g_if_eq C dX11_struck_39 (zI ix6) rfl (tgt := 46) (fun c7 => ?_) (fun c7 => ?_)
      · have h := ifT c7 h
        refine g_iconst C dX11_struck_46 ?_
        exact g_iretP C dX11_struck_47 hr hlk h (by decide)
      · have h := ifF c7 h
        refine g_iconst C dX11_struck_42 ?_
        refine g_goto C dX11_struck_43 rfl (tgt := 47) ?_
        exact g_iretP C dX11_struck_47 hr hlk h (by decide)
    · have h := ifT c4 h
      refine g_iconst C dX11_struck_20 ?_
      exact g_iretP C dX11_struck_21 hr hlk h (by decide)
theorem dX11_run_0 : decode cX11_run 0 = .ok (.aload_n 0, 1) := by decide +kernel
theorem dX11_run_1 : decode cX11_run 1 = .ok (.iload_n 1, 1) := by decide +kernel
theorem dX11_run_2 : decode cX11_run 2 = .ok (.invokevirtual 166, 3) := by decide +kernel
theorem dX11_run_5 : decode cX11_run 5 = .ok (.ifCond .ne 5, 3) := by decide +kernel
theorem dX11_run_8 : decode cX11_run 8 = .ok (.iconst (-1), 1) := by decide +kernel
theorem dX11_run_9 : decode cX11_run 9 = .ok (.ireturn, 1) := by decide +kernel
theorem dX11_run_10 : decode cX11_run 10 = .ok (.aload_n 0, 1) := by decide +kernel
theorem dX11_run_11 : decode cX11_run 11 = .ok (.getfield 50, 3) := by decide +kernel
theorem dX11_run_14 : decode cX11_run 14 = .ok (.iload_n 1, 1) := by decide +kernel
theorem dX11_run_15 : decode cX11_run 15 = .ok (.invokevirtual 169, 3) := by decide +kernel
theorem dX11_run_18 : decode cX11_run 18 = .ok (.aload_n 0, 1) := by decide +kernel
theorem dX11_run_19 : decode cX11_run 19 = .ok (.getfield 63, 3) := by decide +kernel
theorem dX11_run_22 : decode cX11_run 22 = .ok (.aload_n 0, 1) := by decide +kernel
theorem dX11_run_23 : decode cX11_run 23 = .ok (.getfield 126, 3) := by decide +kernel
theorem dX11_run_26 : decode cX11_run 26 = .ok (.invokevirtual 176, 3) := by decide +kernel
theorem dX11_run_29 : decode cX11_run 29 = .ok (.ireturn, 1) := by decide +kernel
abbrev rm_X11_run : Room := { frames := 7, cells := 0, slots := 0, locals := 165 }
set_option maxRecDepth 100000 in
set_option maxHeartbeats 4000000 in
theorem ct_X11_run {w : Wd} {l : Launch} {a1 : Int} {σ : St} {y : Int} {σ' : St} (ia1 : InI a1) (h : m_X11_run a1 σ = some (y, σ')) : Ct w l yX11_run (Cond.code yX11_run cX11_run 2 (some .int) :: TB) rm_X11_run [rv w 0, iv a1] σ (some (iv y)) (InI y) σ' := by
  refine Ct.of2 [some (rv w 0), some (iv a1)] 0 rfl pn_RX11 (Nat.le_of_ble_eq_true rfl) ?_
  intro p e s m args below meth c C hr hlk
  unfold m_X11_run at h
  refine g_aload_n C dX11_run_0 rfl ?_
  refine g_iload_n C dX11_run_1 rfl ?_
  obtain ⟨x1, qx1, h⟩ := bnd h
  refine g_callV1 (As := [iv a1]) C dX11_run_2 mi_X11_isKnowledge ml_11_166 (ct_X11_isKnowledge ia1 qx1) rfl rfl ⟨rfl, rfl⟩ ⟨Nat.le_of_ble_eq_true rfl, Nat.le_of_ble_eq_true rfl⟩ ⟨Nat.zero_le _, Nat.zero_le _⟩ rfl (Nat.le_of_ble_eq_true rfl) (fun ix1 => ?_)
  refine g_if_ne C dX11_run_5 (zI ix1) rfl (tgt := 10) (fun c2 => ?_) (fun c2 => ?_)
  · have h := ifF c2 h
    refine g_aload_n C dX11_run_10 rfl ?_
    refine g_getR (j := 4) C dX11_run_11 rfl (Nat.le_of_ble_eq_true rfl) (Nat.le_of_ble_eq_true rfl) fl_11_50 rfl rfl (r := 30) rfl ?_
    refine g_iload_n C dX11_run_14 rfl ?_
    obtain ⟨σ3, qσ3, h⟩ := bnd h
    refine g_callV0 (As := [iv a1]) C dX11_run_15 mi_X1_look ml_11_169 (ct_X1_look ia1 qσ3) rfl rfl ⟨rfl, rfl⟩ ⟨Nat.le_of_ble_eq_true rfl, Nat.le_of_ble_eq_true rfl⟩ ⟨Nat.zero_le _, Nat.zero_le _⟩ rfl (Nat.le_of_ble_eq_true rfl) (fun _ => ?_)
    refine g_aload_n C dX11_run_18 rfl ?_
    refine g_getR (j := 7) C dX11_run_19 rfl (Nat.le_of_ble_eq_true rfl) (Nat.le_of_ble_eq_true rfl) fl_11_63 rfl rfl (r := 129) rfl ?_
    refine g_aload_n C dX11_run_22 rfl ?_
    refine g_getI (j := 6) C dX11_run_23 rfl (Nat.le_of_ble_eq_true rfl) (Nat.le_of_ble_eq_true rfl) fl_11_126 rfl rfl (fun i4 => ?_)
    obtain ⟨⟨x5, σ6⟩, qx5, h⟩ := bnd h
    refine g_callV1 (As := [iv (σ3 0 6)]) C dX11_run_26 mi_X8_perform ml_11_176 (ct_X8_perform i4 qx5) rfl rfl ⟨rfl, rfl⟩ ⟨Nat.le_of_ble_eq_true rfl, Nat.le_of_ble_eq_true rfl⟩ ⟨Nat.zero_le _, Nat.zero_le _⟩ rfl (Nat.le_of_ble_eq_true rfl) (fun ix5 => ?_)
    exact g_iretP C dX11_run_29 hr hlk h ix5
  · have h := ifT c2 h
    refine g_iconst C dX11_run_8 ?_
    exact g_iretP C dX11_run_9 hr hlk h (by decide)
theorem dX11_hadAgent_0 : decode cX11_hadAgent 0 = .ok (.aload_n 0, 1) := by decide +kernel
theorem dX11_hadAgent_1 : decode cX11_hadAgent 1 = .ok (.iload_n 1, 1) := by decide +kernel
theorem dX11_hadAgent_2 : decode cX11_hadAgent 2 = .ok (.invokevirtual 135, 3) := by decide +kernel
theorem dX11_hadAgent_5 : decode cX11_hadAgent 5 = .ok (.ifCond .eq 18, 3) := by decide +kernel
theorem dX11_hadAgent_8 : decode cX11_hadAgent 8 = .ok (.aload_n 0, 1) := by decide +kernel
theorem dX11_hadAgent_9 : decode cX11_hadAgent 9 = .ok (.getfield 63, 3) := by decide +kernel
theorem dX11_hadAgent_12 : decode cX11_hadAgent 12 = .ok (.iload_n 1, 1) := by decide +kernel
theorem dX11_hadAgent_13 : decode cX11_hadAgent 13 = .ok (.invokevirtual 286, 3) := by decide +kernel
theorem dX11_hadAgent_16 : decode cX11_hadAgent 16 = .ok (.ifCond .eq 7, 3) := by decide +kernel
theorem dX11_hadAgent_19 : decode cX11_hadAgent 19 = .ok (.iconst 1, 1) := by decide +kernel
theorem dX11_hadAgent_20 : decode cX11_hadAgent 20 = .ok (.goto 4, 3) := by decide +kernel
theorem dX11_hadAgent_23 : decode cX11_hadAgent 23 = .ok (.iconst 0, 1) := by decide +kernel
theorem dX11_hadAgent_24 : decode cX11_hadAgent 24 = .ok (.ireturn, 1) := by decide +kernel
abbrev rm_X11_hadAgent : Room := { frames := 1, cells := 0, slots := 0, locals := 21 }
set_option maxRecDepth 100000 in
set_option maxHeartbeats 4000000 in
theorem ct_X11_hadAgent {w : Wd} {l : Launch} {a1 : Int} {σ : St} {y : Int} (ia1 : InI a1) (h : m_X11_hadAgent a1 σ = some y) : Ct w l yX11_hadAgent (Cond.code yX11_hadAgent cX11_hadAgent 2 (some .boolean) :: TB) rm_X11_hadAgent [rv w 0, iv a1] σ (some (iv y)) (InZ y) σ := by
  refine Ct.of2 [some (rv w 0), some (iv a1)] 0 rfl pn_RX11 (Nat.le_of_ble_eq_true rfl) ?_
  intro p e s m args below meth c C hr hlk
  unfold m_X11_hadAgent at h
  refine g_aload_n C dX11_hadAgent_0 rfl ?_
  refine g_iload_n C dX11_hadAgent_1 rfl ?_
  obtain ⟨x1, qx1, h⟩ := bnd h
  refine g_callV1 (As := [iv a1]) C dX11_hadAgent_2 mi_X11_isAgent ml_11_135 (ct_X11_isAgent ia1 qx1) rfl rfl ⟨rfl, rfl⟩ ⟨Nat.le_of_ble_eq_true rfl, Nat.le_of_ble_eq_true rfl⟩ ⟨Nat.zero_le _, Nat.zero_le _⟩ rfl (Nat.le_of_ble_eq_true rfl) (fun ix1 => ?_)
  refine g_if_eq C dX11_hadAgent_5 (zI ix1) rfl (tgt := 23) (fun c2 => ?_) (fun c2 => ?_)
  · have h := ifT c2 h
    refine g_iconst C dX11_hadAgent_23 ?_
    exact g_zretU C dX11_hadAgent_24 hr hlk h (Or.inl rfl)
  · have h := ifF c2 h
    refine g_aload_n C dX11_hadAgent_8 rfl ?_
    refine g_getR (j := 7) C dX11_hadAgent_9 rfl (Nat.le_of_ble_eq_true rfl) (Nat.le_of_ble_eq_true rfl) fl_11_63 rfl rfl (r := 129) rfl ?_
    refine g_iload_n C dX11_hadAgent_12 rfl ?_
    obtain ⟨x3, qx3, h⟩ := bnd h
    refine g_callV1 (As := [iv a1]) C dX11_hadAgent_13 mi_X8_had ml_11_286 (ct_X8_had ia1 qx3) rfl rfl ⟨rfl, rfl⟩ ⟨Nat.le_of_ble_eq_true rfl, Nat.le_of_ble_eq_true rfl⟩ ⟨Nat.zero_le _, Nat.zero_le _⟩ rfl (Nat.le_of_ble_eq_true rfl) (fun ix3 => ?_)
    refine g_if_eq C dX11_hadAgent_16 (zI ix3) rfl (tgt := 23) (fun c4 => ?_) (fun c4 => ?_)
    · have h := ifT c4 h
      refine g_iconst C dX11_hadAgent_23 ?_
      exact g_zretU C dX11_hadAgent_24 hr hlk h (Or.inl rfl)
    · have h := ifF c4 h
      refine g_iconst C dX11_hadAgent_19 ?_
      refine g_goto C dX11_hadAgent_20 rfl (tgt := 24) ?_
      exact g_zretU C dX11_hadAgent_24 hr hlk h (Or.inr rfl)
theorem dX11_where_0 : decode cX11_where 0 = .ok (.aload_n 0, 1) := by decide +kernel
theorem dX11_where_1 : decode cX11_where 1 = .ok (.iload_n 1, 1) := by decide +kernel
theorem dX11_where_2 : decode cX11_where 2 = .ok (.invokevirtual 180, 3) := by decide +kernel
theorem dX11_where_5 : decode cX11_where 5 = .ok (.ifCond .eq 10, 3) := by decide +kernel
theorem dX11_where_8 : decode cX11_where 8 = .ok (.iload_n 2, 1) := by decide +kernel
theorem dX11_where_9 : decode cX11_where 9 = .ok (.invokestatic 152, 3) := by decide +kernel
theorem dX11_where_12 : decode cX11_where 12 = .ok (.ifCond .ne 5, 3) := by decide +kernel
theorem dX11_where_15 : decode cX11_where 15 = .ok (.iconst (-1), 1) := by decide +kernel
theorem dX11_where_16 : decode cX11_where 16 = .ok (.ireturn, 1) := by decide +kernel
theorem dX11_where_17 : decode cX11_where 17 = .ok (.aload_n 0, 1) := by decide +kernel
theorem dX11_where_18 : decode cX11_where 18 = .ok (.getfield 54, 3) := by decide +kernel
theorem dX11_where_21 : decode cX11_where 21 = .ok (.iload_n 1, 1) := by decide +kernel
theorem dX11_where_22 : decode cX11_where 22 = .ok (.aaload, 1) := by decide +kernel
theorem dX11_where_23 : decode cX11_where 23 = .ok (.getfield 183, 3) := by decide +kernel
theorem dX11_where_26 : decode cX11_where 26 = .ok (.iload_n 2, 1) := by decide +kernel
theorem dX11_where_27 : decode cX11_where 27 = .ok (.iaload, 1) := by decide +kernel
theorem dX11_where_28 : decode cX11_where 28 = .ok (.ireturn, 1) := by decide +kernel
abbrev rm_X11_where : Room := { frames := 2, cells := 0, slots := 0, locals := 42 }
set_option maxRecDepth 100000 in
set_option maxHeartbeats 4000000 in
theorem ct_X11_where {w : Wd} {l : Launch} {a1 : Int} {a2 : Int} {σ : St} {y : Int} (ia1 : InI a1) (ia2 : InI a2) (h : m_X11_where a1 a2 σ = some y) : Ct w l yX11_where (Cond.code yX11_where cX11_where 3 (some .int) :: TB) rm_X11_where [rv w 0, iv a1, iv a2] σ (some (iv y)) (InI y) σ := by
  refine Ct.of2 [some (rv w 0), some (iv a1), some (iv a2)] 0 rfl pn_RX11 (Nat.le_of_ble_eq_true rfl) ?_
  intro p e s m args below meth c C hr hlk
  unfold m_X11_where at h
  refine g_aload_n C dX11_where_0 rfl ?_
  refine g_iload_n C dX11_where_1 rfl ?_
  obtain ⟨x1, qx1, h⟩ := bnd h
  refine g_callV1 (As := [iv a1]) C dX11_where_2 mi_X11_hadAgent ml_11_180 (ct_X11_hadAgent ia1 qx1) rfl rfl ⟨rfl, rfl⟩ ⟨Nat.le_of_ble_eq_true rfl, Nat.le_of_ble_eq_true rfl⟩ ⟨Nat.zero_le _, Nat.zero_le _⟩ rfl (Nat.le_of_ble_eq_true rfl) (fun ix1 => ?_)
  refine g_if_eq C dX11_where_5 (zI ix1) rfl (tgt := 15) (fun c2 => ?_) (fun c2 => ?_)
  · have h := ifT c2 h
    refine g_iconst C dX11_where_15 ?_
    exact g_iretU C dX11_where_16 hr hlk h (by decide)
  · have h := ifF c2 h
    refine g_iload_n C dX11_where_8 rfl ?_
    obtain ⟨x3, qx3, h⟩ := bnd h
    refine g_callS1 (As := [iv a2]) C dX11_where_9 mi_X11_isTick ml_11_152 (ct_X11_isTick ia2 qx3) rfl ⟨rfl, rfl⟩ ⟨Nat.le_of_ble_eq_true rfl, Nat.le_of_ble_eq_true rfl⟩ ⟨Nat.zero_le _, Nat.zero_le _⟩ rfl (Nat.le_of_ble_eq_true rfl) (fun ix3 => ?_)
    refine g_if_ne C dX11_where_12 (zI ix3) rfl (tgt := 17) (fun c4 => ?_) (fun c4 => ?_)
    · have h := ifF c4 h
      refine g_aload_n C dX11_where_17 rfl ?_
      refine g_getR (j := 5) C dX11_where_18 rfl (Nat.le_of_ble_eq_true rfl) (Nat.le_of_ble_eq_true rfl) fl_11_54 rfl rfl (r := 38) rfl ?_
      refine g_iload_n C dX11_where_21 rfl ?_
      obtain ⟨k5, qk5, h⟩ := bnd h
      refine g_aald C dX11_where_22 rfl rfl qk5 ia1 ?_
      refine g_getR (j := 13) C dX11_where_23 (rrB_38 qk5) (Nat.le_of_ble_eq_true rfl) (Nat.le_of_ble_eq_true rfl) fl_11_183 rfl rfl (r := (k5 + 4)) (shR_0_13 (rrB_38 qk5)) ?_
      refine g_iload_n C dX11_where_26 rfl ?_
      obtain ⟨x6, qx6, h⟩ := bnd h
      refine g_iald C dX11_where_27 (shT_0_13 (rrB_38 qk5)) (shL_0_13 (rrB_38 qk5)) qx6 ia2 (fun ix6 => ?_)
      exact g_iretU C dX11_where_28 hr hlk h ix6
    · have h := ifT c4 h
      refine g_iconst C dX11_where_15 ?_
      exact g_iretU C dX11_where_16 hr hlk h (by decide)
theorem dX11_isSecret_0 : decode cX11_isSecret 0 = .ok (.iload_n 0, 1) := by decide +kernel
theorem dX11_isSecret_1 : decode cX11_isSecret 1 = .ok (.ifCond .lt 13, 3) := by decide +kernel
theorem dX11_isSecret_4 : decode cX11_isSecret 4 = .ok (.iload_n 0, 1) := by decide +kernel
theorem dX11_isSecret_5 : decode cX11_isSecret 5 = .ok (.bipush 8, 2) := by decide +kernel
theorem dX11_isSecret_7 : decode cX11_isSecret 7 = .ok (.if_icmp .ge 7, 3) := by decide +kernel
theorem dX11_isSecret_10 : decode cX11_isSecret 10 = .ok (.iconst 1, 1) := by decide +kernel
theorem dX11_isSecret_11 : decode cX11_isSecret 11 = .ok (.goto 4, 3) := by decide +kernel
theorem dX11_isSecret_14 : decode cX11_isSecret 14 = .ok (.iconst 0, 1) := by decide +kernel
theorem dX11_isSecret_15 : decode cX11_isSecret 15 = .ok (.ireturn, 1) := by decide +kernel
abbrev rm_X11_isSecret : Room := { frames := 0, cells := 0, slots := 0, locals := 0 }
set_option maxRecDepth 100000 in
set_option maxHeartbeats 4000000 in
theorem ct_X11_isSecret {w : Wd} {l : Launch} {a1 : Int} {σ : St} {y : Int} (ia1 : InI a1) (h : m_X11_isSecret a1 σ = some y) : Ct w l yX11_isSecret (Cond.code yX11_isSecret cX11_isSecret 1 (some .boolean) :: TB) rm_X11_isSecret [iv a1] σ (some (iv y)) (InZ y) σ := by
  refine Ct.of2 [some (iv a1)] 0 rfl pn_RX11 (Nat.le_of_ble_eq_true rfl) ?_
  intro p e s m args below meth c C hr hlk
  unfold m_X11_isSecret at h
  refine g_iload_n C dX11_isSecret_0 rfl ?_
  refine g_if_lt C dX11_isSecret_1 ia1 rfl (tgt := 14) (fun c1 => ?_) (fun c1 => ?_)
  · have h := ifT c1 h
    refine g_iconst C dX11_isSecret_14 ?_
    exact g_zretU C dX11_isSecret_15 hr hlk h (Or.inl rfl)
  · have h := ifF c1 h
    refine g_iload_n C dX11_isSecret_4 rfl ?_
    refine g_bipush C dX11_isSecret_5 rfl ?_
    refine g_icmp_ge C dX11_isSecret_7 ia1 (by decide) rfl (tgt := 14) (fun c2 => ?_) (fun c2 => ?_)
    · have h := ifT c2 h
      refine g_iconst C dX11_isSecret_14 ?_
      exact g_zretU C dX11_isSecret_15 hr hlk h (Or.inl rfl)
    · have h := ifF c2 h
      refine g_iconst C dX11_isSecret_10 ?_
      refine g_goto C dX11_isSecret_11 rfl (tgt := 15) ?_
      exact g_zretU C dX11_isSecret_15 hr hlk h (Or.inr rfl)
theorem dX11_knows_0 : decode cX11_knows 0 = .ok (.aload_n 0, 1) := by decide +kernel
theorem dX11_knows_1 : decode cX11_knows 1 = .ok (.iload_n 1, 1) := by decide +kernel
theorem dX11_knows_2 : decode cX11_knows 2 = .ok (.invokevirtual 180, 3) := by decide +kernel
theorem dX11_knows_5 : decode cX11_knows 5 = .ok (.ifCond .eq 10, 3) := by decide +kernel
theorem dX11_knows_8 : decode cX11_knows 8 = .ok (.iload_n 2, 1) := by decide +kernel
theorem dX11_knows_9 : decode cX11_knows 9 = .ok (.invokestatic 186, 3) := by decide +kernel
theorem dX11_knows_12 : decode cX11_knows 12 = .ok (.ifCond .ne 5, 3) := by decide +kernel
theorem dX11_knows_15 : decode cX11_knows 15 = .ok (.iconst (-1), 1) := by decide +kernel
theorem dX11_knows_16 : decode cX11_knows 16 = .ok (.ireturn, 1) := by decide +kernel
theorem dX11_knows_17 : decode cX11_knows 17 = .ok (.aload_n 0, 1) := by decide +kernel
theorem dX11_knows_18 : decode cX11_knows 18 = .ok (.getfield 54, 3) := by decide +kernel
theorem dX11_knows_21 : decode cX11_knows 21 = .ok (.iload_n 1, 1) := by decide +kernel
theorem dX11_knows_22 : decode cX11_knows 22 = .ok (.aaload, 1) := by decide +kernel
theorem dX11_knows_23 : decode cX11_knows 23 = .ok (.getfield 189, 3) := by decide +kernel
theorem dX11_knows_26 : decode cX11_knows 26 = .ok (.iload_n 2, 1) := by decide +kernel
theorem dX11_knows_27 : decode cX11_knows 27 = .ok (.iaload, 1) := by decide +kernel
theorem dX11_knows_28 : decode cX11_knows 28 = .ok (.ireturn, 1) := by decide +kernel
abbrev rm_X11_knows : Room := { frames := 2, cells := 0, slots := 0, locals := 42 }
set_option maxRecDepth 100000 in
set_option maxHeartbeats 4000000 in
theorem ct_X11_knows {w : Wd} {l : Launch} {a1 : Int} {a2 : Int} {σ : St} {y : Int} (ia1 : InI a1) (ia2 : InI a2) (h : m_X11_knows a1 a2 σ = some y) : Ct w l yX11_knows (Cond.code yX11_knows cX11_knows 3 (some .int) :: TB) rm_X11_knows [rv w 0, iv a1, iv a2] σ (some (iv y)) (InI y) σ := by
  refine Ct.of2 [some (rv w 0), some (iv a1), some (iv a2)] 0 rfl pn_RX11 (Nat.le_of_ble_eq_true rfl) ?_
  intro p e s m args below meth c C hr hlk
  unfold m_X11_knows at h
  refine g_aload_n C dX11_knows_0 rfl ?_
  refine g_iload_n C dX11_knows_1 rfl ?_
  obtain ⟨x1, qx1, h⟩ := bnd h
  refine g_callV1 (As := [iv a1]) C dX11_knows_2 mi_X11_hadAgent ml_11_180 (ct_X11_hadAgent ia1 qx1) rfl rfl ⟨rfl, rfl⟩ ⟨Nat.le_of_ble_eq_true rfl, Nat.le_of_ble_eq_true rfl⟩ ⟨Nat.zero_le _, Nat.zero_le _⟩ rfl (Nat.le_of_ble_eq_true rfl) (fun ix1 => ?_)
  refine g_if_eq C dX11_knows_5 (zI ix1) rfl (tgt := 15) (fun c2 => ?_) (fun c2 => ?_)
  · have h := ifT c2 h
    refine g_iconst C dX11_knows_15 ?_
    exact g_iretU C dX11_knows_16 hr hlk h (by decide)
  · have h := ifF c2 h
    refine g_iload_n C dX11_knows_8 rfl ?_
    obtain ⟨x3, qx3, h⟩ := bnd h
    refine g_callS1 (As := [iv a2]) C dX11_knows_9 mi_X11_isSecret ml_11_186 (ct_X11_isSecret ia2 qx3) rfl ⟨rfl, rfl⟩ ⟨Nat.le_of_ble_eq_true rfl, Nat.le_of_ble_eq_true rfl⟩ ⟨Nat.zero_le _, Nat.zero_le _⟩ rfl (Nat.le_of_ble_eq_true rfl) (fun ix3 => ?_)
    refine g_if_ne C dX11_knows_12 (zI ix3) rfl (tgt := 17) (fun c4 => ?_) (fun c4 => ?_)
    · have h := ifF c4 h
      refine g_aload_n C dX11_knows_17 rfl ?_
      refine g_getR (j := 5) C dX11_knows_18 rfl (Nat.le_of_ble_eq_true rfl) (Nat.le_of_ble_eq_true rfl) fl_11_54 rfl rfl (r := 38) rfl ?_
      refine g_iload_n C dX11_knows_21 rfl ?_
      obtain ⟨k5, qk5, h⟩ := bnd h
      refine g_aald C dX11_knows_22 rfl rfl qk5 ia1 ?_
      refine g_getR (j := 14) C dX11_knows_23 (rrB_38 qk5) (Nat.le_of_ble_eq_true rfl) (Nat.le_of_ble_eq_true rfl) fl_11_189 rfl rfl (r := (k5 + 5)) (shR_0_14 (rrB_38 qk5)) ?_
      refine g_iload_n C dX11_knows_26 rfl ?_
      obtain ⟨x6, qx6, h⟩ := bnd h
      refine g_iald C dX11_knows_27 (shT_0_14 (rrB_38 qk5)) (shL_0_14 (rrB_38 qk5)) qx6 ia2 (fun ix6 => ?_)
      exact g_iretU C dX11_knows_28 hr hlk h ix6
    · have h := ifT c4 h
      refine g_iconst C dX11_knows_15 ?_
      exact g_iretU C dX11_knows_16 hr hlk h (by decide)
theorem dX11_chain_0 : decode cX11_chain 0 = .ok (.aload_n 0, 1) := by decide +kernel
theorem dX11_chain_1 : decode cX11_chain 1 = .ok (.iload_n 1, 1) := by decide +kernel
theorem dX11_chain_2 : decode cX11_chain 2 = .ok (.invokevirtual 180, 3) := by decide +kernel
theorem dX11_chain_5 : decode cX11_chain 5 = .ok (.ifCond .eq 14, 3) := by decide +kernel
theorem dX11_chain_8 : decode cX11_chain 8 = .ok (.iload_n 2, 1) := by decide +kernel
theorem dX11_chain_9 : decode cX11_chain 9 = .ok (.invokestatic 186, 3) := by decide +kernel
theorem dX11_chain_12 : decode cX11_chain 12 = .ok (.ifCond .eq 7, 3) := by decide +kernel
theorem dX11_chain_15 : decode cX11_chain 15 = .ok (.iload_n 3, 1) := by decide +kernel
theorem dX11_chain_16 : decode cX11_chain 16 = .ok (.ifCond .ge 5, 3) := by decide +kernel
theorem dX11_chain_19 : decode cX11_chain 19 = .ok (.iconst (-1), 1) := by decide +kernel
theorem dX11_chain_20 : decode cX11_chain 20 = .ok (.ireturn, 1) := by decide +kernel
theorem dX11_chain_21 : decode cX11_chain 21 = .ok (.aload_n 0, 1) := by decide +kernel
theorem dX11_chain_22 : decode cX11_chain 22 = .ok (.getfield 54, 3) := by decide +kernel
theorem dX11_chain_25 : decode cX11_chain 25 = .ok (.iload_n 1, 1) := by decide +kernel
theorem dX11_chain_26 : decode cX11_chain 26 = .ok (.aaload, 1) := by decide +kernel
theorem dX11_chain_27 : decode cX11_chain 27 = .ok (.getfield 189, 3) := by decide +kernel
theorem dX11_chain_30 : decode cX11_chain 30 = .ok (.iload_n 2, 1) := by decide +kernel
theorem dX11_chain_31 : decode cX11_chain 31 = .ok (.iaload, 1) := by decide +kernel
theorem dX11_chain_32 : decode cX11_chain 32 = .ok (.iconst (-1), 1) := by decide +kernel
theorem dX11_chain_33 : decode cX11_chain 33 = .ok (.if_icmp .ne 5, 3) := by decide +kernel
theorem dX11_chain_36 : decode cX11_chain 36 = .ok (.iconst (-1), 1) := by decide +kernel
theorem dX11_chain_37 : decode cX11_chain 37 = .ok (.ireturn, 1) := by decide +kernel
theorem dX11_chain_38 : decode cX11_chain 38 = .ok (.iload_n 1, 1) := by decide +kernel
theorem dX11_chain_39 : decode cX11_chain 39 = .ok (.istore 4, 2) := by decide +kernel
theorem dX11_chain_41 : decode cX11_chain 41 = .ok (.iconst 0, 1) := by decide +kernel
theorem dX11_chain_42 : decode cX11_chain 42 = .ok (.istore 5, 2) := by decide +kernel
theorem dX11_chain_44 : decode cX11_chain 44 = .ok (.iload 5, 2) := by decide +kernel
theorem dX11_chain_46 : decode cX11_chain 46 = .ok (.iload_n 3, 1) := by decide +kernel
theorem dX11_chain_47 : decode cX11_chain 47 = .ok (.if_icmp .ge 42, 3) := by decide +kernel
theorem dX11_chain_50 : decode cX11_chain 50 = .ok (.iload 4, 2) := by decide +kernel
theorem dX11_chain_52 : decode cX11_chain 52 = .ok (.iconst (-1), 1) := by decide +kernel
theorem dX11_chain_53 : decode cX11_chain 53 = .ok (.if_icmp .eq 36, 3) := by decide +kernel
theorem dX11_chain_56 : decode cX11_chain 56 = .ok (.aload_n 0, 1) := by decide +kernel
theorem dX11_chain_57 : decode cX11_chain 57 = .ok (.iload 4, 2) := by decide +kernel
theorem dX11_chain_59 : decode cX11_chain 59 = .ok (.invokevirtual 180, 3) := by decide +kernel
theorem dX11_chain_62 : decode cX11_chain 62 = .ok (.ifCond .eq 18, 3) := by decide +kernel
theorem dX11_chain_65 : decode cX11_chain 65 = .ok (.aload_n 0, 1) := by decide +kernel
theorem dX11_chain_66 : decode cX11_chain 66 = .ok (.getfield 54, 3) := by decide +kernel
theorem dX11_chain_69 : decode cX11_chain 69 = .ok (.iload 4, 2) := by decide +kernel
theorem dX11_chain_71 : decode cX11_chain 71 = .ok (.aaload, 1) := by decide +kernel
theorem dX11_chain_72 : decode cX11_chain 72 = .ok (.getfield 192, 3) := by decide +kernel
theorem dX11_chain_75 : decode cX11_chain 75 = .ok (.iload_n 2, 1) := by decide +kernel
theorem dX11_chain_76 : decode cX11_chain 76 = .ok (.iaload, 1) := by decide +kernel
theorem dX11_chain_77 : decode cX11_chain 77 = .ok (.goto 4, 3) := by decide +kernel
theorem dX11_chain_80 : decode cX11_chain 80 = .ok (.iconst (-1), 1) := by decide +kernel
theorem dX11_chain_81 : decode cX11_chain 81 = .ok (.istore 4, 2) := by decide +kernel
theorem dX11_chain_83 : decode cX11_chain 83 = .ok (.iinc 5 1, 3) := by decide +kernel
theorem dX11_chain_86 : decode cX11_chain 86 = .ok (.goto (-42), 3) := by decide +kernel
theorem dX11_chain_89 : decode cX11_chain 89 = .ok (.iload 4, 2) := by decide +kernel
theorem dX11_chain_91 : decode cX11_chain 91 = .ok (.ireturn, 1) := by decide +kernel
abbrev rm_X11_chain : Room := { frames := 2, cells := 0, slots := 0, locals := 42 }
set_option maxRecDepth 100000 in
set_option maxHeartbeats 4000000 in
theorem ct_X11_chain {w : Wd} {l : Launch} {a1 : Int} {a2 : Int} {a3 : Int} {σ : St} {y : Int} (ia1 : InI a1) (ia2 : InI a2) (ia3 : InI a3) (h : m_X11_chain a1 a2 a3 σ = some y) : Ct w l yX11_chain (Cond.code yX11_chain cX11_chain 6 (some .int) :: TB) rm_X11_chain [rv w 0, iv a1, iv a2, iv a3] σ (some (iv y)) (InI y) σ := by
  refine Ct.of2 [some (rv w 0), some (iv a1), some (iv a2), some (iv a3), none, none] 2 rfl pn_RX11 (Nat.le_of_ble_eq_true rfl) ?_
  intro p e s m args below meth c C hr hlk
  unfold m_X11_chain at h
  refine g_aload_n C dX11_chain_0 rfl ?_
  refine g_iload_n C dX11_chain_1 rfl ?_
  obtain ⟨x1, qx1, h⟩ := bnd h
  refine g_callV1 (As := [iv a1]) C dX11_chain_2 mi_X11_hadAgent ml_11_180 (ct_X11_hadAgent ia1 qx1) rfl rfl ⟨rfl, rfl⟩ ⟨Nat.le_of_ble_eq_true rfl, Nat.le_of_ble_eq_true rfl⟩ ⟨Nat.zero_le _, Nat.zero_le _⟩ rfl (Nat.le_of_ble_eq_true rfl) (fun ix1 => ?_)
  refine g_if_eq C dX11_chain_5 (zI ix1) rfl (tgt := 19) (fun c2 => ?_) (fun c2 => ?_)
  · have h := ifT c2 h
    refine g_iconst C dX11_chain_19 ?_
    exact g_iretU C dX11_chain_20 hr hlk h (by decide)
  · have h := ifF c2 h
    refine g_iload_n C dX11_chain_8 rfl ?_
    obtain ⟨x3, qx3, h⟩ := bnd h
    refine g_callS1 (As := [iv a2]) C dX11_chain_9 mi_X11_isSecret ml_11_186 (ct_X11_isSecret ia2 qx3) rfl ⟨rfl, rfl⟩ ⟨Nat.le_of_ble_eq_true rfl, Nat.le_of_ble_eq_true rfl⟩ ⟨Nat.zero_le _, Nat.zero_le _⟩ rfl (Nat.le_of_ble_eq_true rfl) (fun ix3 => ?_)
    refine g_if_eq C dX11_chain_12 (zI ix3) rfl (tgt := 19) (fun c4 => ?_) (fun c4 => ?_)
    · have h := ifT c4 h
      refine g_iconst C dX11_chain_19 ?_
      exact g_iretU C dX11_chain_20 hr hlk h (by decide)
    · have h := ifF c4 h
      refine g_iload_n C dX11_chain_15 rfl ?_
      refine g_if_ge C dX11_chain_16 ia3 rfl (tgt := 21) (fun c5 => ?_) (fun c5 => ?_)
      · have h := ifT c5 h
        refine g_aload_n C dX11_chain_21 rfl ?_
        refine g_getR (j := 5) C dX11_chain_22 rfl (Nat.le_of_ble_eq_true rfl) (Nat.le_of_ble_eq_true rfl) fl_11_54 rfl rfl (r := 38) rfl ?_
        refine g_iload_n C dX11_chain_25 rfl ?_
        obtain ⟨k6, qk6, h⟩ := bnd h
        refine g_aald C dX11_chain_26 rfl rfl qk6 ia1 ?_
        refine g_getR (j := 14) C dX11_chain_27 (rrB_38 qk6) (Nat.le_of_ble_eq_true rfl) (Nat.le_of_ble_eq_true rfl) fl_11_189 rfl rfl (r := (k6 + 5)) (shR_0_14 (rrB_38 qk6)) ?_
        refine g_iload_n C dX11_chain_30 rfl ?_
        obtain ⟨x7, qx7, h⟩ := bnd h
        refine g_iald C dX11_chain_31 (shT_0_14 (rrB_38 qk6)) (shL_0_14 (rrB_38 qk6)) qx7 ia2 (fun ix7 => ?_)
        refine g_iconst C dX11_chain_32 ?_
        refine g_icmp_ne C dX11_chain_33 ix7 (by decide) rfl (tgt := 38) (fun c8 => ?_) (fun c8 => ?_)
        · have h := ifF c8 h
          refine g_iload_n C dX11_chain_38 rfl ?_
          refine g_istore (L1 := [some (rv w 0), some (iv a1), some (iv a2), some (iv a3), some (iv a1), none]) C dX11_chain_39 rfl (Nat.le_of_ble_eq_true rfl) rfl ?_
          refine g_iconst C dX11_chain_41 ?_
          refine g_istore (L1 := [some (rv w 0), some (iv a1), some (iv a2), some (iv a3), some (iv a1), some (iv 0)]) C dX11_chain_42 rfl (Nat.le_of_ble_eq_true rfl) rfl ?_
          refine g_mask [true, false, true, true, true, true] ?_
          obtain ⟨b9, hb9, hF9⟩ := bnd h
          have hX9 : ∀ (x18 : Int) , InI x18 → x18 = b9 → GM w p l e rm_X11_chain s m args below meth c (some (iv y)) (InI y) σ 6 89 [none, none, none, none, some (iv x18), none] [] σ := by
            intro x18 ix18 q
            subst q
            have h := hF9
            refine g_iload C dX11_chain_89 rfl ?_
            exact g_iretU C dX11_chain_91 hr hlk h ix18
          have hL9 : ∀ (n : Nat) (x10 : Int) (x11 : Int) , InI x10 → InI x11 → lpN (fun a => m_X11_chain_L44 a3 σ a2 a.1 a.2) n (x10, x11) = some b9 → GM w p l e rm_X11_chain s m args below meth c (some (iv y)) (InI y) σ 6 44 [some (rv w 0), none, some (iv a2), some (iv a3), some (iv x10), some (iv x11)] [] σ := by
            intro n
            induction n with
            | zero => intro x10 x11 ix10 ix11 q; cases q
            | succ n ih9 =>
              intro x10 x11 ix10 ix11 q
              obtain ⟨o9, h, hk9⟩ := lp_step q
              replace h : m_X11_chain_L44 a3 σ a2 x10 x11 = some o9 := h
              unfold m_X11_chain_L44 at h
              refine g_iload C dX11_chain_44 rfl ?_
              refine g_iload_n C dX11_chain_46 rfl ?_
              refine g_icmp_ge C dX11_chain_47 ix11 ia3 rfl (tgt := 89) (fun c12 => ?_) (fun c12 => ?_)
              · have h := ifT c12 h
                refine g_mask [false, true, false, false, true, false] ?_
                obtain rfl := Option.some.inj h
                exact hX9 x10 ix10 (lpR hk9).symm
              · have h := ifF c12 h
                refine g_iload C dX11_chain_50 rfl ?_
                refine g_iconst C dX11_chain_52 ?_
                refine g_icmp_eq C dX11_chain_53 ix10 (by decide) rfl (tgt := 89) (fun c13 => ?_) (fun c13 => ?_)
                · have h := ifT c13 h
                  refine g_mask [false, true, false, false, true, false] ?_
                  obtain rfl := Option.some.inj h
                  exact hX9 x10 ix10 (lpR hk9).symm
                · have h := ifF c13 h
                  refine g_aload_n C dX11_chain_56 rfl ?_
                  refine g_iload C dX11_chain_57 rfl ?_
                  obtain ⟨x14, qx14, h⟩ := bnd h
                  refine g_callV1 (As := [iv x10]) C dX11_chain_59 mi_X11_hadAgent ml_11_180 (ct_X11_hadAgent ix10 qx14) rfl rfl ⟨rfl, rfl⟩ ⟨Nat.le_of_ble_eq_true rfl, Nat.le_of_ble_eq_true rfl⟩ ⟨Nat.zero_le _, Nat.zero_le _⟩ rfl (Nat.le_of_ble_eq_true rfl) (fun ix14 => ?_)
                  refine g_if_eq C dX11_chain_62 (zI ix14) rfl (tgt := 80) (fun c15 => ?_) (fun c15 => ?_)
                  · have h := ifT c15 h
                    refine g_iconst C dX11_chain_80 ?_
                    refine g_istore (L1 := [some (rv w 0), none, some (iv a2), some (iv a3), some (iv (-1)), some (iv x11)]) C dX11_chain_81 rfl (Nat.le_of_ble_eq_true rfl) rfl ?_
                    refine g_iinc (L1 := [some (rv w 0), none, some (iv a2), some (iv a3), some (iv (-1)), some (iv (wr (x11 + 1)))]) C dX11_chain_83 rfl rfl (Nat.le_of_ble_eq_true rfl) rfl ?_
                    refine g_goto C dX11_chain_86 rfl (tgt := 44) ?_
                    obtain rfl := Option.some.inj h
                    exact ih9 _ _ (by decide) (iwr _) (lpL hk9)
                  · have h := ifF c15 h
                    refine g_aload_n C dX11_chain_65 rfl ?_
                    refine g_getR (j := 5) C dX11_chain_66 rfl (Nat.le_of_ble_eq_true rfl) (Nat.le_of_ble_eq_true rfl) fl_11_54 rfl rfl (r := 38) rfl ?_
                    refine g_iload C dX11_chain_69 rfl ?_
                    obtain ⟨k16, qk16, h⟩ := bnd h
                    refine g_aald C dX11_chain_71 rfl rfl qk16 ix10 ?_
                    refine g_getR (j := 15) C dX11_chain_72 (rrB_38 qk16) (Nat.le_of_ble_eq_true rfl) (Nat.le_of_ble_eq_true rfl) fl_11_192 rfl rfl (r := (k16 + 6)) (shR_0_15 (rrB_38 qk16)) ?_
                    refine g_iload_n C dX11_chain_75 rfl ?_
                    obtain ⟨x17, qx17, h⟩ := bnd h
                    refine g_iald C dX11_chain_76 (shT_0_15 (rrB_38 qk16)) (shL_0_15 (rrB_38 qk16)) qx17 ia2 (fun ix17 => ?_)
                    refine g_goto C dX11_chain_77 rfl (tgt := 81) ?_
                    refine g_istore (L1 := [some (rv w 0), none, some (iv a2), some (iv a3), some (iv x17), some (iv x11)]) C dX11_chain_81 rfl (Nat.le_of_ble_eq_true rfl) rfl ?_
                    refine g_iinc (L1 := [some (rv w 0), none, some (iv a2), some (iv a3), some (iv x17), some (iv (wr (x11 + 1)))]) C dX11_chain_83 rfl rfl (Nat.le_of_ble_eq_true rfl) rfl ?_
                    refine g_goto C dX11_chain_86 rfl (tgt := 44) ?_
                    obtain rfl := Option.some.inj h
                    exact ih9 _ _ ix17 (iwr _) (lpL hk9)
          exact hL9 FU _ _ ia1 (by decide) hb9
        · have h := ifT c8 h
          refine g_iconst C dX11_chain_36 ?_
          exact g_iretU C dX11_chain_37 hr hlk h (by decide)
      · have h := ifF c5 h
        refine g_iconst C dX11_chain_19 ?_
        exact g_iretU C dX11_chain_20 hr hlk h (by decide)
theorem dX11_has_0 : decode cX11_has 0 = .ok (.aload_n 0, 1) := by decide +kernel
theorem dX11_has_1 : decode cX11_has 1 = .ok (.iload_n 1, 1) := by decide +kernel
theorem dX11_has_2 : decode cX11_has 2 = .ok (.invokevirtual 180, 3) := by decide +kernel
theorem dX11_has_5 : decode cX11_has 5 = .ok (.ifCond .eq 10, 3) := by decide +kernel
theorem dX11_has_8 : decode cX11_has 8 = .ok (.iload_n 2, 1) := by decide +kernel
theorem dX11_has_9 : decode cX11_has 9 = .ok (.invokestatic 186, 3) := by decide +kernel
theorem dX11_has_12 : decode cX11_has 12 = .ok (.ifCond .ne 5, 3) := by decide +kernel
theorem dX11_has_15 : decode cX11_has 15 = .ok (.iconst (-1), 1) := by decide +kernel
theorem dX11_has_16 : decode cX11_has 16 = .ok (.ireturn, 1) := by decide +kernel
theorem dX11_has_17 : decode cX11_has 17 = .ok (.aload_n 0, 1) := by decide +kernel
theorem dX11_has_18 : decode cX11_has 18 = .ok (.getfield 54, 3) := by decide +kernel
theorem dX11_has_21 : decode cX11_has 21 = .ok (.iload_n 1, 1) := by decide +kernel
theorem dX11_has_22 : decode cX11_has 22 = .ok (.aaload, 1) := by decide +kernel
theorem dX11_has_23 : decode cX11_has 23 = .ok (.getfield 195, 3) := by decide +kernel
theorem dX11_has_26 : decode cX11_has 26 = .ok (.iload_n 2, 1) := by decide +kernel
theorem dX11_has_27 : decode cX11_has 27 = .ok (.ishr, 1) := by decide +kernel
theorem dX11_has_28 : decode cX11_has 28 = .ok (.iconst 1, 1) := by decide +kernel
theorem dX11_has_29 : decode cX11_has 29 = .ok (.iand, 1) := by decide +kernel
theorem dX11_has_30 : decode cX11_has 30 = .ok (.ireturn, 1) := by decide +kernel
abbrev rm_X11_has : Room := { frames := 2, cells := 0, slots := 0, locals := 42 }
set_option maxRecDepth 100000 in
set_option maxHeartbeats 4000000 in
theorem ct_X11_has {w : Wd} {l : Launch} {a1 : Int} {a2 : Int} {σ : St} {y : Int} (ia1 : InI a1) (ia2 : InI a2) (h : m_X11_has a1 a2 σ = some y) : Ct w l yX11_has (Cond.code yX11_has cX11_has 3 (some .int) :: TB) rm_X11_has [rv w 0, iv a1, iv a2] σ (some (iv y)) (InI y) σ := by
  refine Ct.of2 [some (rv w 0), some (iv a1), some (iv a2)] 0 rfl pn_RX11 (Nat.le_of_ble_eq_true rfl) ?_
  intro p e s m args below meth c C hr hlk
  unfold m_X11_has at h
  refine g_aload_n C dX11_has_0 rfl ?_
  refine g_iload_n C dX11_has_1 rfl ?_
  obtain ⟨x1, qx1, h⟩ := bnd h
  refine g_callV1 (As := [iv a1]) C dX11_has_2 mi_X11_hadAgent ml_11_180 (ct_X11_hadAgent ia1 qx1) rfl rfl ⟨rfl, rfl⟩ ⟨Nat.le_of_ble_eq_true rfl, Nat.le_of_ble_eq_true rfl⟩ ⟨Nat.zero_le _, Nat.zero_le _⟩ rfl (Nat.le_of_ble_eq_true rfl) (fun ix1 => ?_)
  refine g_if_eq C dX11_has_5 (zI ix1) rfl (tgt := 15) (fun c2 => ?_) (fun c2 => ?_)
  · have h := ifT c2 h
    refine g_iconst C dX11_has_15 ?_
    exact g_iretU C dX11_has_16 hr hlk h (by decide)
  · have h := ifF c2 h
    refine g_iload_n C dX11_has_8 rfl ?_
    obtain ⟨x3, qx3, h⟩ := bnd h
    refine g_callS1 (As := [iv a2]) C dX11_has_9 mi_X11_isSecret ml_11_186 (ct_X11_isSecret ia2 qx3) rfl ⟨rfl, rfl⟩ ⟨Nat.le_of_ble_eq_true rfl, Nat.le_of_ble_eq_true rfl⟩ ⟨Nat.zero_le _, Nat.zero_le _⟩ rfl (Nat.le_of_ble_eq_true rfl) (fun ix3 => ?_)
    refine g_if_ne C dX11_has_12 (zI ix3) rfl (tgt := 17) (fun c4 => ?_) (fun c4 => ?_)
    · have h := ifF c4 h
      refine g_aload_n C dX11_has_17 rfl ?_
      refine g_getR (j := 5) C dX11_has_18 rfl (Nat.le_of_ble_eq_true rfl) (Nat.le_of_ble_eq_true rfl) fl_11_54 rfl rfl (r := 38) rfl ?_
      refine g_iload_n C dX11_has_21 rfl ?_
      obtain ⟨k5, qk5, h⟩ := bnd h
      refine g_aald C dX11_has_22 rfl rfl qk5 ia1 ?_
      refine g_getI (j := 16) C dX11_has_23 (rrB_38 qk5) (Nat.le_of_ble_eq_true rfl) (Nat.le_of_ble_eq_true rfl) fl_11_195 rfl rfl (fun i6 => ?_)
      refine g_iload_n C dX11_has_26 rfl ?_
      refine g_ishr C dX11_has_27 ?_
      refine g_iconst C dX11_has_28 ?_
      refine g_iand C dX11_has_29 ?_
      exact g_iretU C dX11_has_30 hr hlk h (iand _ _)
    · have h := ifT c4 h
      refine g_iconst C dX11_has_15 ?_
      exact g_iretU C dX11_has_16 hr hlk h (by decide)
theorem dX11_left_0 : decode cX11_left 0 = .ok (.aload_n 0, 1) := by decide +kernel
theorem dX11_left_1 : decode cX11_left 1 = .ok (.getfield 63, 3) := by decide +kernel
theorem dX11_left_4 : decode cX11_left 4 = .ok (.getfield 198, 3) := by decide +kernel
theorem dX11_left_7 : decode cX11_left 7 = .ok (.ifCond .eq 14, 3) := by decide +kernel
theorem dX11_left_10 : decode cX11_left 10 = .ok (.aload_n 0, 1) := by decide +kernel
theorem dX11_left_11 : decode cX11_left 11 = .ok (.getfield 29, 3) := by decide +kernel
theorem dX11_left_14 : decode cX11_left 14 = .ok (.iload_n 1, 1) := by decide +kernel
theorem dX11_left_15 : decode cX11_left 15 = .ok (.invokevirtual 118, 3) := by decide +kernel
theorem dX11_left_18 : decode cX11_left 18 = .ok (.ifCond .ne 5, 3) := by decide +kernel
theorem dX11_left_21 : decode cX11_left 21 = .ok (.iconst (-1), 1) := by decide +kernel
theorem dX11_left_22 : decode cX11_left 22 = .ok (.ireturn, 1) := by decide +kernel
theorem dX11_left_23 : decode cX11_left 23 = .ok (.aload_n 0, 1) := by decide +kernel
theorem dX11_left_24 : decode cX11_left 24 = .ok (.getfield 63, 3) := by decide +kernel
theorem dX11_left_27 : decode cX11_left 27 = .ok (.getfield 202, 3) := by decide +kernel
theorem dX11_left_30 : decode cX11_left 30 = .ok (.iload_n 1, 1) := by decide +kernel
theorem dX11_left_31 : decode cX11_left 31 = .ok (.iaload, 1) := by decide +kernel
theorem dX11_left_32 : decode cX11_left 32 = .ok (.aload_n 0, 1) := by decide +kernel
theorem dX11_left_33 : decode cX11_left 33 = .ok (.getfield 63, 3) := by decide +kernel
theorem dX11_left_36 : decode cX11_left 36 = .ok (.getfield 205, 3) := by decide +kernel
theorem dX11_left_39 : decode cX11_left 39 = .ok (.iload_n 1, 1) := by decide +kernel
theorem dX11_left_40 : decode cX11_left 40 = .ok (.iaload, 1) := by decide +kernel
theorem dX11_left_41 : decode cX11_left 41 = .ok (.iconst 4, 1) := by decide +kernel
theorem dX11_left_42 : decode cX11_left 42 = .ok (.ishl, 1) := by decide +kernel
theorem dX11_left_43 : decode cX11_left 43 = .ok (.ior, 1) := by decide +kernel
theorem dX11_left_44 : decode cX11_left 44 = .ok (.ireturn, 1) := by decide +kernel
abbrev rm_X11_left : Room := { frames := 1, cells := 0, slots := 0, locals := 21 }
set_option maxRecDepth 100000 in
set_option maxHeartbeats 4000000 in
theorem ct_X11_left {w : Wd} {l : Launch} {a1 : Int} {σ : St} {y : Int} (ia1 : InI a1) (h : m_X11_left a1 σ = some y) : Ct w l yX11_left (Cond.code yX11_left cX11_left 2 (some .int) :: TB) rm_X11_left [rv w 0, iv a1] σ (some (iv y)) (InI y) σ := by
  refine Ct.of2 [some (rv w 0), some (iv a1)] 0 rfl pn_RX11 (Nat.le_of_ble_eq_true rfl) ?_
  intro p e s m args below meth c C hr hlk
  unfold m_X11_left at h
  refine g_aload_n C dX11_left_0 rfl ?_
  refine g_getR (j := 7) C dX11_left_1 rfl (Nat.le_of_ble_eq_true rfl) (Nat.le_of_ble_eq_true rfl) fl_11_63 rfl rfl (r := 129) rfl ?_
  refine g_getZ (j := 0) C dX11_left_4 rfl (Nat.le_of_ble_eq_true rfl) (Nat.le_of_ble_eq_true rfl) fl_11_198 rfl rfl (fun i1 => ?_)
  refine g_if_eq C dX11_left_7 (zI i1) rfl (tgt := 21) (fun c2 => ?_) (fun c2 => ?_)
  · have h := ifT c2 h
    refine g_iconst C dX11_left_21 ?_
    exact g_iretU C dX11_left_22 hr hlk h (by decide)
  · have h := ifF c2 h
    refine g_aload_n C dX11_left_10 rfl ?_
    refine g_getR (j := 0) C dX11_left_11 rfl (Nat.le_of_ble_eq_true rfl) (Nat.le_of_ble_eq_true rfl) fl_11_29 rfl rfl (r := 1) rfl ?_
    refine g_iload_n C dX11_left_14 rfl ?_
    obtain ⟨x3, qx3, h⟩ := bnd h
    refine g_callV1 (As := [iv a1]) C dX11_left_15 mi_X10_hasSpot ml_11_118 (ct_X10_hasSpot ia1 qx3) rfl rfl ⟨rfl, rfl⟩ ⟨Nat.le_of_ble_eq_true rfl, Nat.le_of_ble_eq_true rfl⟩ ⟨Nat.zero_le _, Nat.zero_le _⟩ rfl (Nat.le_of_ble_eq_true rfl) (fun ix3 => ?_)
    refine g_if_ne C dX11_left_18 (zI ix3) rfl (tgt := 23) (fun c4 => ?_) (fun c4 => ?_)
    · have h := ifF c4 h
      refine g_aload_n C dX11_left_23 rfl ?_
      refine g_getR (j := 7) C dX11_left_24 rfl (Nat.le_of_ble_eq_true rfl) (Nat.le_of_ble_eq_true rfl) fl_11_63 rfl rfl (r := 129) rfl ?_
      refine g_getR (j := 2) C dX11_left_27 rfl (Nat.le_of_ble_eq_true rfl) (Nat.le_of_ble_eq_true rfl) fl_11_202 rfl rfl (r := 130) rfl ?_
      refine g_iload_n C dX11_left_30 rfl ?_
      obtain ⟨x5, qx5, h⟩ := bnd h
      refine g_iald C dX11_left_31 rfl rfl qx5 ia1 (fun ix5 => ?_)
      refine g_aload_n C dX11_left_32 rfl ?_
      refine g_getR (j := 7) C dX11_left_33 rfl (Nat.le_of_ble_eq_true rfl) (Nat.le_of_ble_eq_true rfl) fl_11_63 rfl rfl (r := 129) rfl ?_
      refine g_getR (j := 3) C dX11_left_36 rfl (Nat.le_of_ble_eq_true rfl) (Nat.le_of_ble_eq_true rfl) fl_11_205 rfl rfl (r := 131) rfl ?_
      refine g_iload_n C dX11_left_39 rfl ?_
      obtain ⟨x6, qx6, h⟩ := bnd h
      refine g_iald C dX11_left_40 rfl rfl qx6 ia1 (fun ix6 => ?_)
      refine g_iconst C dX11_left_41 ?_
      refine g_ishl C dX11_left_42 ?_
      refine g_ior C dX11_left_43 ?_
      exact g_iretU C dX11_left_44 hr hlk h (ior _ _)
    · have h := ifT c4 h
      refine g_iconst C dX11_left_21 ?_
      exact g_iretU C dX11_left_22 hr hlk h (by decide)
theorem dX11_met_0 : decode cX11_met 0 = .ok (.aload_n 0, 1) := by decide +kernel
theorem dX11_met_1 : decode cX11_met 1 = .ok (.iload_n 1, 1) := by decide +kernel
theorem dX11_met_2 : decode cX11_met 2 = .ok (.invokevirtual 180, 3) := by decide +kernel
theorem dX11_met_5 : decode cX11_met 5 = .ok (.ifCond .eq 16, 3) := by decide +kernel
theorem dX11_met_8 : decode cX11_met 8 = .ok (.aload_n 0, 1) := by decide +kernel
theorem dX11_met_9 : decode cX11_met 9 = .ok (.iload_n 2, 1) := by decide +kernel
theorem dX11_met_10 : decode cX11_met 10 = .ok (.invokevirtual 180, 3) := by decide +kernel
theorem dX11_met_13 : decode cX11_met 13 = .ok (.ifCond .eq 8, 3) := by decide +kernel
theorem dX11_met_16 : decode cX11_met 16 = .ok (.iload_n 1, 1) := by decide +kernel
theorem dX11_met_17 : decode cX11_met 17 = .ok (.iload_n 2, 1) := by decide +kernel
theorem dX11_met_18 : decode cX11_met 18 = .ok (.if_icmp .ne 5, 3) := by decide +kernel
theorem dX11_met_21 : decode cX11_met 21 = .ok (.iconst (-1), 1) := by decide +kernel
theorem dX11_met_22 : decode cX11_met 22 = .ok (.ireturn, 1) := by decide +kernel
theorem dX11_met_23 : decode cX11_met 23 = .ok (.aload_n 0, 1) := by decide +kernel
theorem dX11_met_24 : decode cX11_met 24 = .ok (.getfield 63, 3) := by decide +kernel
theorem dX11_met_27 : decode cX11_met 27 = .ok (.getfield 207, 3) := by decide +kernel
theorem dX11_met_30 : decode cX11_met 30 = .ok (.iload_n 1, 1) := by decide +kernel
theorem dX11_met_31 : decode cX11_met 31 = .ok (.aaload, 1) := by decide +kernel
theorem dX11_met_32 : decode cX11_met 32 = .ok (.iload_n 2, 1) := by decide +kernel
theorem dX11_met_33 : decode cX11_met 33 = .ok (.iaload, 1) := by decide +kernel
theorem dX11_met_34 : decode cX11_met 34 = .ok (.ireturn, 1) := by decide +kernel
abbrev rm_X11_met : Room := { frames := 2, cells := 0, slots := 0, locals := 42 }
set_option maxRecDepth 100000 in
set_option maxHeartbeats 4000000 in
theorem ct_X11_met {w : Wd} {l : Launch} {a1 : Int} {a2 : Int} {σ : St} {y : Int} (ia1 : InI a1) (ia2 : InI a2) (h : m_X11_met a1 a2 σ = some y) : Ct w l yX11_met (Cond.code yX11_met cX11_met 3 (some .int) :: TB) rm_X11_met [rv w 0, iv a1, iv a2] σ (some (iv y)) (InI y) σ := by
  refine Ct.of2 [some (rv w 0), some (iv a1), some (iv a2)] 0 rfl pn_RX11 (Nat.le_of_ble_eq_true rfl) ?_
  intro p e s m args below meth c C hr hlk
  unfold m_X11_met at h
  refine g_aload_n C dX11_met_0 rfl ?_
  refine g_iload_n C dX11_met_1 rfl ?_
  obtain ⟨x1, qx1, h⟩ := bnd h
  refine g_callV1 (As := [iv a1]) C dX11_met_2 mi_X11_hadAgent ml_11_180 (ct_X11_hadAgent ia1 qx1) rfl rfl ⟨rfl, rfl⟩ ⟨Nat.le_of_ble_eq_true rfl, Nat.le_of_ble_eq_true rfl⟩ ⟨Nat.zero_le _, Nat.zero_le _⟩ rfl (Nat.le_of_ble_eq_true rfl) (fun ix1 => ?_)
  refine g_if_eq C dX11_met_5 (zI ix1) rfl (tgt := 21) (fun c2 => ?_) (fun c2 => ?_)
  · have h := ifT c2 h
    refine g_iconst C dX11_met_21 ?_
    exact g_iretU C dX11_met_22 hr hlk h (by decide)
  · have h := ifF c2 h
    refine g_aload_n C dX11_met_8 rfl ?_
    refine g_iload_n C dX11_met_9 rfl ?_
    obtain ⟨x3, qx3, h⟩ := bnd h
    refine g_callV1 (As := [iv a2]) C dX11_met_10 mi_X11_hadAgent ml_11_180 (ct_X11_hadAgent ia2 qx3) rfl rfl ⟨rfl, rfl⟩ ⟨Nat.le_of_ble_eq_true rfl, Nat.le_of_ble_eq_true rfl⟩ ⟨Nat.zero_le _, Nat.zero_le _⟩ rfl (Nat.le_of_ble_eq_true rfl) (fun ix3 => ?_)
    refine g_if_eq C dX11_met_13 (zI ix3) rfl (tgt := 21) (fun c4 => ?_) (fun c4 => ?_)
    · have h := ifT c4 h
      refine g_iconst C dX11_met_21 ?_
      exact g_iretU C dX11_met_22 hr hlk h (by decide)
    · have h := ifF c4 h
      refine g_iload_n C dX11_met_16 rfl ?_
      refine g_iload_n C dX11_met_17 rfl ?_
      refine g_icmp_ne C dX11_met_18 ia1 ia2 rfl (tgt := 23) (fun c5 => ?_) (fun c5 => ?_)
      · have h := ifF c5 h
        refine g_aload_n C dX11_met_23 rfl ?_
        refine g_getR (j := 7) C dX11_met_24 rfl (Nat.le_of_ble_eq_true rfl) (Nat.le_of_ble_eq_true rfl) fl_11_63 rfl rfl (r := 129) rfl ?_
        refine g_getR (j := 4) C dX11_met_27 rfl (Nat.le_of_ble_eq_true rfl) (Nat.le_of_ble_eq_true rfl) fl_11_207 rfl rfl (r := 132) rfl ?_
        refine g_iload_n C dX11_met_30 rfl ?_
        obtain ⟨k6, qk6, h⟩ := bnd h
        refine g_aalI C dX11_met_31 rfl rfl qk6 ia1 ?_
        refine g_iload_n C dX11_met_32 rfl ?_
        obtain ⟨x7, qx7, h⟩ := bnd h
        refine g_iald C dX11_met_33 (rrB_132 qk6).1 (rrB_132 qk6).2 qx7 ia2 (fun ix7 => ?_)
        exact g_iretU C dX11_met_34 hr hlk h ix7
      · have h := ifT c5 h
        refine g_iconst C dX11_met_21 ?_
        exact g_iretU C dX11_met_22 hr hlk h (by decide)
theorem dX11_ended_0 : decode cX11_ended 0 = .ok (.aload_n 0, 1) := by decide +kernel
theorem dX11_ended_1 : decode cX11_ended 1 = .ok (.iload_n 1, 1) := by decide +kernel
theorem dX11_ended_2 : decode cX11_ended 2 = .ok (.invokevirtual 180, 3) := by decide +kernel
theorem dX11_ended_5 : decode cX11_ended 5 = .ok (.ifCond .ne 5, 3) := by decide +kernel
theorem dX11_ended_8 : decode cX11_ended 8 = .ok (.iconst (-1), 1) := by decide +kernel
theorem dX11_ended_9 : decode cX11_ended 9 = .ok (.ireturn, 1) := by decide +kernel
theorem dX11_ended_10 : decode cX11_ended 10 = .ok (.aload_n 0, 1) := by decide +kernel
theorem dX11_ended_11 : decode cX11_ended 11 = .ok (.getfield 54, 3) := by decide +kernel
theorem dX11_ended_14 : decode cX11_ended 14 = .ok (.iload_n 1, 1) := by decide +kernel
theorem dX11_ended_15 : decode cX11_ended 15 = .ok (.aaload, 1) := by decide +kernel
theorem dX11_ended_16 : decode cX11_ended 16 = .ok (.getfield 211, 3) := by decide +kernel
theorem dX11_ended_19 : decode cX11_ended 19 = .ok (.ireturn, 1) := by decide +kernel
abbrev rm_X11_ended : Room := { frames := 2, cells := 0, slots := 0, locals := 42 }
set_option maxRecDepth 100000 in
set_option maxHeartbeats 4000000 in
theorem ct_X11_ended {w : Wd} {l : Launch} {a1 : Int} {σ : St} {y : Int} (ia1 : InI a1) (h : m_X11_ended a1 σ = some y) : Ct w l yX11_ended (Cond.code yX11_ended cX11_ended 2 (some .int) :: TB) rm_X11_ended [rv w 0, iv a1] σ (some (iv y)) (InI y) σ := by
  refine Ct.of2 [some (rv w 0), some (iv a1)] 0 rfl pn_RX11 (Nat.le_of_ble_eq_true rfl) ?_
  intro p e s m args below meth c C hr hlk
  unfold m_X11_ended at h
  refine g_aload_n C dX11_ended_0 rfl ?_
  refine g_iload_n C dX11_ended_1 rfl ?_
  obtain ⟨x1, qx1, h⟩ := bnd h
  refine g_callV1 (As := [iv a1]) C dX11_ended_2 mi_X11_hadAgent ml_11_180 (ct_X11_hadAgent ia1 qx1) rfl rfl ⟨rfl, rfl⟩ ⟨Nat.le_of_ble_eq_true rfl, Nat.le_of_ble_eq_true rfl⟩ ⟨Nat.zero_le _, Nat.zero_le _⟩ rfl (Nat.le_of_ble_eq_true rfl) (fun ix1 => ?_)
  refine g_if_ne C dX11_ended_5 (zI ix1) rfl (tgt := 10) (fun c2 => ?_) (fun c2 => ?_)
  · have h := ifF c2 h
    refine g_aload_n C dX11_ended_10 rfl ?_
    refine g_getR (j := 5) C dX11_ended_11 rfl (Nat.le_of_ble_eq_true rfl) (Nat.le_of_ble_eq_true rfl) fl_11_54 rfl rfl (r := 38) rfl ?_
    refine g_iload_n C dX11_ended_14 rfl ?_
    obtain ⟨k3, qk3, h⟩ := bnd h
    refine g_aald C dX11_ended_15 rfl rfl qk3 ia1 ?_
    refine g_getI (j := 18) C dX11_ended_16 (rrB_38 qk3) (Nat.le_of_ble_eq_true rfl) (Nat.le_of_ble_eq_true rfl) fl_11_211 rfl rfl (fun i4 => ?_)
    exact g_iretU C dX11_ended_19 hr hlk h i4
  · have h := ifT c2 h
    refine g_iconst C dX11_ended_8 ?_
    exact g_iretU C dX11_ended_9 hr hlk h (by decide)
theorem dX11_deeds_0 : decode cX11_deeds 0 = .ok (.aload_n 0, 1) := by decide +kernel
theorem dX11_deeds_1 : decode cX11_deeds 1 = .ok (.iload_n 1, 1) := by decide +kernel
theorem dX11_deeds_2 : decode cX11_deeds 2 = .ok (.invokevirtual 180, 3) := by decide +kernel
theorem dX11_deeds_5 : decode cX11_deeds 5 = .ok (.ifCond .ne 5, 3) := by decide +kernel
theorem dX11_deeds_8 : decode cX11_deeds 8 = .ok (.iconst (-1), 1) := by decide +kernel
theorem dX11_deeds_9 : decode cX11_deeds 9 = .ok (.ireturn, 1) := by decide +kernel
theorem dX11_deeds_10 : decode cX11_deeds 10 = .ok (.aload_n 0, 1) := by decide +kernel
theorem dX11_deeds_11 : decode cX11_deeds 11 = .ok (.getfield 54, 3) := by decide +kernel
theorem dX11_deeds_14 : decode cX11_deeds 14 = .ok (.iload_n 1, 1) := by decide +kernel
theorem dX11_deeds_15 : decode cX11_deeds 15 = .ok (.aaload, 1) := by decide +kernel
theorem dX11_deeds_16 : decode cX11_deeds 16 = .ok (.getfield 214, 3) := by decide +kernel
theorem dX11_deeds_19 : decode cX11_deeds 19 = .ok (.ireturn, 1) := by decide +kernel
abbrev rm_X11_deeds : Room := { frames := 2, cells := 0, slots := 0, locals := 42 }
set_option maxRecDepth 100000 in
set_option maxHeartbeats 4000000 in
theorem ct_X11_deeds {w : Wd} {l : Launch} {a1 : Int} {σ : St} {y : Int} (ia1 : InI a1) (h : m_X11_deeds a1 σ = some y) : Ct w l yX11_deeds (Cond.code yX11_deeds cX11_deeds 2 (some .int) :: TB) rm_X11_deeds [rv w 0, iv a1] σ (some (iv y)) (InI y) σ := by
  refine Ct.of2 [some (rv w 0), some (iv a1)] 0 rfl pn_RX11 (Nat.le_of_ble_eq_true rfl) ?_
  intro p e s m args below meth c C hr hlk
  unfold m_X11_deeds at h
  refine g_aload_n C dX11_deeds_0 rfl ?_
  refine g_iload_n C dX11_deeds_1 rfl ?_
  obtain ⟨x1, qx1, h⟩ := bnd h
  refine g_callV1 (As := [iv a1]) C dX11_deeds_2 mi_X11_hadAgent ml_11_180 (ct_X11_hadAgent ia1 qx1) rfl rfl ⟨rfl, rfl⟩ ⟨Nat.le_of_ble_eq_true rfl, Nat.le_of_ble_eq_true rfl⟩ ⟨Nat.zero_le _, Nat.zero_le _⟩ rfl (Nat.le_of_ble_eq_true rfl) (fun ix1 => ?_)
  refine g_if_ne C dX11_deeds_5 (zI ix1) rfl (tgt := 10) (fun c2 => ?_) (fun c2 => ?_)
  · have h := ifF c2 h
    refine g_aload_n C dX11_deeds_10 rfl ?_
    refine g_getR (j := 5) C dX11_deeds_11 rfl (Nat.le_of_ble_eq_true rfl) (Nat.le_of_ble_eq_true rfl) fl_11_54 rfl rfl (r := 38) rfl ?_
    refine g_iload_n C dX11_deeds_14 rfl ?_
    obtain ⟨k3, qk3, h⟩ := bnd h
    refine g_aald C dX11_deeds_15 rfl rfl qk3 ia1 ?_
    refine g_getI (j := 17) C dX11_deeds_16 (rrB_38 qk3) (Nat.le_of_ble_eq_true rfl) (Nat.le_of_ble_eq_true rfl) fl_11_214 rfl rfl (fun i4 => ?_)
    exact g_iretU C dX11_deeds_19 hr hlk h i4
  · have h := ifT c2 h
    refine g_iconst C dX11_deeds_8 ?_
    exact g_iretU C dX11_deeds_9 hr hlk h (by decide)
theorem dX11_saws_0 : decode cX11_saws 0 = .ok (.aload_n 0, 1) := by decide +kernel
theorem dX11_saws_1 : decode cX11_saws 1 = .ok (.getfield 63, 3) := by decide +kernel
theorem dX11_saws_4 : decode cX11_saws 4 = .ok (.getfield 198, 3) := by decide +kernel
theorem dX11_saws_7 : decode cX11_saws 7 = .ok (.ifCond .eq 13, 3) := by decide +kernel
theorem dX11_saws_10 : decode cX11_saws 10 = .ok (.aload_n 0, 1) := by decide +kernel
theorem dX11_saws_11 : decode cX11_saws 11 = .ok (.getfield 63, 3) := by decide +kernel
theorem dX11_saws_14 : decode cX11_saws 14 = .ok (.getfield 217, 3) := by decide +kernel
theorem dX11_saws_17 : decode cX11_saws 17 = .ok (.goto 4, 3) := by decide +kernel
theorem dX11_saws_20 : decode cX11_saws 20 = .ok (.iconst (-1), 1) := by decide +kernel
theorem dX11_saws_21 : decode cX11_saws 21 = .ok (.ireturn, 1) := by decide +kernel
abbrev rm_X11_saws : Room := { frames := 0, cells := 0, slots := 0, locals := 0 }
set_option maxRecDepth 100000 in
set_option maxHeartbeats 4000000 in
theorem ct_X11_saws {w : Wd} {l : Launch} {σ : St} {y : Int} (h : m_X11_saws σ = some y) : Ct w l yX11_saws (Cond.code yX11_saws cX11_saws 1 (some .int) :: TB) rm_X11_saws [rv w 0] σ (some (iv y)) (InI y) σ := by
  refine Ct.of2 [some (rv w 0)] 0 rfl pn_RX11 (Nat.le_of_ble_eq_true rfl) ?_
  intro p e s m args below meth c C hr hlk
  unfold m_X11_saws at h
  refine g_aload_n C dX11_saws_0 rfl ?_
  refine g_getR (j := 7) C dX11_saws_1 rfl (Nat.le_of_ble_eq_true rfl) (Nat.le_of_ble_eq_true rfl) fl_11_63 rfl rfl (r := 129) rfl ?_
  refine g_getZ (j := 0) C dX11_saws_4 rfl (Nat.le_of_ble_eq_true rfl) (Nat.le_of_ble_eq_true rfl) fl_11_198 rfl rfl (fun i1 => ?_)
  refine g_if_eq C dX11_saws_7 (zI i1) rfl (tgt := 20) (fun c2 => ?_) (fun c2 => ?_)
  · have h := ifT c2 h
    refine g_iconst C dX11_saws_20 ?_
    exact g_iretU C dX11_saws_21 hr hlk h (by decide)
  · have h := ifF c2 h
    refine g_aload_n C dX11_saws_10 rfl ?_
    refine g_getR (j := 7) C dX11_saws_11 rfl (Nat.le_of_ble_eq_true rfl) (Nat.le_of_ble_eq_true rfl) fl_11_63 rfl rfl (r := 129) rfl ?_
    refine g_getI (j := 6) C dX11_saws_14 rfl (Nat.le_of_ble_eq_true rfl) (Nat.le_of_ble_eq_true rfl) fl_11_217 rfl rfl (fun i3 => ?_)
    refine g_goto C dX11_saws_17 rfl (tgt := 21) ?_
    exact g_iretU C dX11_saws_21 hr hlk h i3
theorem dX11_isAhead_0 : decode cX11_isAhead 0 = .ok (.iload_n 0, 1) := by decide +kernel
theorem dX11_isAhead_1 : decode cX11_isAhead 1 = .ok (.iload_n 1, 1) := by decide +kernel
theorem dX11_isAhead_2 : decode cX11_isAhead 2 = .ok (.ixor, 1) := by decide +kernel
theorem dX11_isAhead_3 : decode cX11_isAhead 3 = .ok (.istore_n 2, 1) := by decide +kernel
theorem dX11_isAhead_4 : decode cX11_isAhead 4 = .ok (.iload_n 2, 1) := by decide +kernel
theorem dX11_isAhead_5 : decode cX11_isAhead 5 = .ok (.iload_n 2, 1) := by decide +kernel
theorem dX11_isAhead_6 : decode cX11_isAhead 6 = .ok (.ineg, 1) := by decide +kernel
theorem dX11_isAhead_7 : decode cX11_isAhead 7 = .ok (.iand, 1) := by decide +kernel
theorem dX11_isAhead_8 : decode cX11_isAhead 8 = .ok (.iload_n 0, 1) := by decide +kernel
theorem dX11_isAhead_9 : decode cX11_isAhead 9 = .ok (.iand, 1) := by decide +kernel
theorem dX11_isAhead_10 : decode cX11_isAhead 10 = .ok (.ifCond .eq 7, 3) := by decide +kernel
theorem dX11_isAhead_13 : decode cX11_isAhead 13 = .ok (.iconst 1, 1) := by decide +kernel
theorem dX11_isAhead_14 : decode cX11_isAhead 14 = .ok (.goto 4, 3) := by decide +kernel
theorem dX11_isAhead_17 : decode cX11_isAhead 17 = .ok (.iconst 0, 1) := by decide +kernel
theorem dX11_isAhead_18 : decode cX11_isAhead 18 = .ok (.ireturn, 1) := by decide +kernel
abbrev rm_X11_isAhead : Room := { frames := 0, cells := 0, slots := 0, locals := 0 }
set_option maxRecDepth 100000 in
set_option maxHeartbeats 4000000 in
theorem ct_X11_isAhead {w : Wd} {l : Launch} {a1 : Int} {a2 : Int} {σ : St} {y : Int} (ia1 : InI a1) (ia2 : InI a2) (h : m_X11_isAhead a1 a2 σ = some y) : Ct w l yX11_isAhead (Cond.code yX11_isAhead cX11_isAhead 3 (some .boolean) :: TB) rm_X11_isAhead [iv a1, iv a2] σ (some (iv y)) (InZ y) σ := by
  refine Ct.of2 [some (iv a1), some (iv a2), none] 1 rfl pn_RX11 (Nat.le_of_ble_eq_true rfl) ?_
  intro p e s m args below meth c C hr hlk
  unfold m_X11_isAhead at h
  refine g_iload_n C dX11_isAhead_0 rfl ?_
  refine g_iload_n C dX11_isAhead_1 rfl ?_
  refine g_ixor C dX11_isAhead_2 ?_
  obtain ⟨x1, qx1, h⟩ := bnd h
  have qx1 := Option.some.inj qx1
  have ix1 : InI x1 := by rw [← qx1]; exact (ixor _ _)
  refine g_E qx1 ?_
  refine g_istore_n (L1 := [some (iv a1), some (iv a2), some (iv x1)]) C dX11_isAhead_3 rfl (Nat.le_of_ble_eq_true rfl) rfl ?_
  refine g_iload_n C dX11_isAhead_4 rfl ?_
  refine g_iload_n C dX11_isAhead_5 rfl ?_
  refine g_ineg C dX11_isAhead_6 ?_
  refine g_iand C dX11_isAhead_7 ?_
  refine g_iload_n C dX11_isAhead_8 rfl ?_
  refine g_iand C dX11_isAhead_9 ?_
  refine g_if_eq C dX11_isAhead_10 (iand _ _) rfl (tgt := 17) (fun c2 => ?_) (fun c2 => ?_)
  · have h := ifT c2 h
    refine g_iconst C dX11_isAhead_17 ?_
    exact g_zretU C dX11_isAhead_18 hr hlk h (Or.inl rfl)
  · have h := ifF c2 h
    refine g_iconst C dX11_isAhead_13 ?_
    refine g_goto C dX11_isAhead_14 rfl (tgt := 18) ?_
    exact g_zretU C dX11_isAhead_18 hr hlk h (Or.inr rfl)
theorem dX11_worstTaken_0 : decode cX11_worstTaken 0 = .ok (.iload_n 1, 1) := by decide +kernel
theorem dX11_worstTaken_1 : decode cX11_worstTaken 1 = .ok (.aload_n 0, 1) := by decide +kernel
theorem dX11_worstTaken_2 : decode cX11_worstTaken 2 = .ok (.getfield 63, 3) := by decide +kernel
theorem dX11_worstTaken_5 : decode cX11_worstTaken 5 = .ok (.getfield 289, 3) := by decide +kernel
theorem dX11_worstTaken_8 : decode cX11_worstTaken 8 = .ok (.invokestatic 292, 3) := by decide +kernel
theorem dX11_worstTaken_11 : decode cX11_worstTaken 11 = .ok (.istore_n 2, 1) := by decide +kernel
theorem dX11_worstTaken_12 : decode cX11_worstTaken 12 = .ok (.iconst 0, 1) := by decide +kernel
theorem dX11_worstTaken_13 : decode cX11_worstTaken 13 = .ok (.istore_n 3, 1) := by decide +kernel
theorem dX11_worstTaken_14 : decode cX11_worstTaken 14 = .ok (.iconst (-1), 1) := by decide +kernel
theorem dX11_worstTaken_15 : decode cX11_worstTaken 15 = .ok (.istore 4, 2) := by decide +kernel
theorem dX11_worstTaken_17 : decode cX11_worstTaken 17 = .ok (.iconst 0, 1) := by decide +kernel
theorem dX11_worstTaken_18 : decode cX11_worstTaken 18 = .ok (.istore 5, 2) := by decide +kernel
theorem dX11_worstTaken_20 : decode cX11_worstTaken 20 = .ok (.iload 5, 2) := by decide +kernel
theorem dX11_worstTaken_22 : decode cX11_worstTaken 22 = .ok (.iconst 1, 1) := by decide +kernel
theorem dX11_worstTaken_23 : decode cX11_worstTaken 23 = .ok (.aload_n 0, 1) := by decide +kernel
theorem dX11_worstTaken_24 : decode cX11_worstTaken 24 = .ok (.getfield 63, 3) := by decide +kernel
theorem dX11_worstTaken_27 : decode cX11_worstTaken 27 = .ok (.getfield 289, 3) := by decide +kernel
theorem dX11_worstTaken_30 : decode cX11_worstTaken 30 = .ok (.ishl, 1) := by decide +kernel
theorem dX11_worstTaken_31 : decode cX11_worstTaken 31 = .ok (.if_icmp .ge 62, 3) := by decide +kernel
theorem dX11_worstTaken_34 : decode cX11_worstTaken 34 = .ok (.iload 5, 2) := by decide +kernel
theorem dX11_worstTaken_36 : decode cX11_worstTaken 36 = .ok (.invokestatic 232, 3) := by decide +kernel
theorem dX11_worstTaken_39 : decode cX11_worstTaken 39 = .ok (.iload_n 2, 1) := by decide +kernel
theorem dX11_worstTaken_40 : decode cX11_worstTaken 40 = .ok (.if_icmp .ne 47, 3) := by decide +kernel
theorem dX11_worstTaken_43 : decode cX11_worstTaken 43 = .ok (.aload_n 0, 1) := by decide +kernel
theorem dX11_worstTaken_44 : decode cX11_worstTaken 44 = .ok (.getfield 63, 3) := by decide +kernel
theorem dX11_worstTaken_47 : decode cX11_worstTaken 47 = .ok (.iload 5, 2) := by decide +kernel
theorem dX11_worstTaken_49 : decode cX11_worstTaken 49 = .ok (.invokevirtual 229, 3) := by decide +kernel
theorem dX11_worstTaken_52 : decode cX11_worstTaken 52 = .ok (.invokestatic 232, 3) := by decide +kernel
theorem dX11_worstTaken_55 : decode cX11_worstTaken 55 = .ok (.istore 6, 2) := by decide +kernel
theorem dX11_worstTaken_57 : decode cX11_worstTaken 57 = .ok (.iload 6, 2) := by decide +kernel
theorem dX11_worstTaken_59 : decode cX11_worstTaken 59 = .ok (.iload 4, 2) := by decide +kernel
theorem dX11_worstTaken_61 : decode cX11_worstTaken 61 = .ok (.if_icmp .gt 19, 3) := by decide +kernel
theorem dX11_worstTaken_64 : decode cX11_worstTaken 64 = .ok (.iload 6, 2) := by decide +kernel
theorem dX11_worstTaken_66 : decode cX11_worstTaken 66 = .ok (.iload 4, 2) := by decide +kernel
theorem dX11_worstTaken_68 : decode cX11_worstTaken 68 = .ok (.if_icmp .ne 19, 3) := by decide +kernel
theorem dX11_worstTaken_71 : decode cX11_worstTaken 71 = .ok (.iload 5, 2) := by decide +kernel
theorem dX11_worstTaken_73 : decode cX11_worstTaken 73 = .ok (.iload_n 3, 1) := by decide +kernel
theorem dX11_worstTaken_74 : decode cX11_worstTaken 74 = .ok (.invokestatic 297, 3) := by decide +kernel
theorem dX11_worstTaken_77 : decode cX11_worstTaken 77 = .ok (.ifCond .eq 10, 3) := by decide +kernel
theorem dX11_worstTaken_80 : decode cX11_worstTaken 80 = .ok (.iload 5, 2) := by decide +kernel
theorem dX11_worstTaken_82 : decode cX11_worstTaken 82 = .ok (.istore_n 3, 1) := by decide +kernel
theorem dX11_worstTaken_83 : decode cX11_worstTaken 83 = .ok (.iload 6, 2) := by decide +kernel
theorem dX11_worstTaken_85 : decode cX11_worstTaken 85 = .ok (.istore 4, 2) := by decide +kernel
theorem dX11_worstTaken_87 : decode cX11_worstTaken 87 = .ok (.iinc 5 1, 3) := by decide +kernel
theorem dX11_worstTaken_90 : decode cX11_worstTaken 90 = .ok (.goto (-70), 3) := by decide +kernel
theorem dX11_worstTaken_93 : decode cX11_worstTaken 93 = .ok (.iload_n 3, 1) := by decide +kernel
theorem dX11_worstTaken_94 : decode cX11_worstTaken 94 = .ok (.ireturn, 1) := by decide +kernel
abbrev rm_X11_worstTaken : Room := { frames := 1, cells := 0, slots := 0, locals := 24 }
set_option maxRecDepth 100000 in
set_option maxHeartbeats 4000000 in
theorem ct_X11_worstTaken {w : Wd} {l : Launch} {a1 : Int} {σ : St} {y : Int} (ia1 : InI a1) (h : m_X11_worstTaken a1 σ = some y) : Ct w l yX11_worstTaken (Cond.code yX11_worstTaken cX11_worstTaken 7 (some .int) :: TB) rm_X11_worstTaken [rv w 0, iv a1] σ (some (iv y)) (InI y) σ := by
  refine Ct.of2 [some (rv w 0), some (iv a1), none, none, none, none, none] 5 rfl pn_RX11 (Nat.le_of_ble_eq_true rfl) ?_
  intro p e s m args below meth c C hr hlk
  unfold m_X11_worstTaken at h
  refine g_iload_n C dX11_worstTaken_0 rfl ?_
  refine g_aload_n C dX11_worstTaken_1 rfl ?_
  refine g_getR (j := 7) C dX11_worstTaken_2 rfl (Nat.le_of_ble_eq_true rfl) (Nat.le_of_ble_eq_true rfl) fl_11_63 rfl rfl (r := 129) rfl ?_
  refine g_getI (j := 1) C dX11_worstTaken_5 rfl (Nat.le_of_ble_eq_true rfl) (Nat.le_of_ble_eq_true rfl) fl_11_289 rfl rfl (fun i1 => ?_)
  refine g_mmin C dX11_worstTaken_8 ia1 i1 ml_11_292 ⟨Nat.le_of_ble_eq_true rfl, Nat.le_of_ble_eq_true rfl⟩ ⟨Nat.zero_le _, Nat.zero_le _⟩ ?_
  obtain ⟨x2, qx2, h⟩ := bnd h
  have qx2 := Option.some.inj qx2
  have ix2 : InI x2 := by rw [← qx2]; exact (imin ia1 i1)
  refine g_E qx2 ?_
  refine g_istore_n (L1 := [some (rv w 0), some (iv a1), some (iv x2), none, none, none, none]) C dX11_worstTaken_11 rfl (Nat.le_of_ble_eq_true rfl) rfl ?_
  refine g_iconst C dX11_worstTaken_12 ?_
  refine g_istore_n (L1 := [some (rv w 0), some (iv a1), some (iv x2), some (iv 0), none, none, none]) C dX11_worstTaken_13 rfl (Nat.le_of_ble_eq_true rfl) rfl ?_
  refine g_iconst C dX11_worstTaken_14 ?_
  refine g_istore (L1 := [some (rv w 0), some (iv a1), some (iv x2), some (iv 0), some (iv (-1)), none, none]) C dX11_worstTaken_15 rfl (Nat.le_of_ble_eq_true rfl) rfl ?_
  refine g_iconst C dX11_worstTaken_17 ?_
  refine g_istore (L1 := [some (rv w 0), some (iv a1), some (iv x2), some (iv 0), some (iv (-1)), some (iv 0), none]) C dX11_worstTaken_18 rfl (Nat.le_of_ble_eq_true rfl) rfl ?_
  refine g_mask [true, false, true, true, true, true, true] ?_
  obtain ⟨b3, hb3, hF3⟩ := bnd h
  have hX3 : ∀ (x18 : Int) , InI x18 → x18 = b3 → GM w p l e rm_X11_worstTaken s m args below meth c (some (iv y)) (InI y) σ 7 93 [none, none, none, some (iv x18), none, none, none] [] σ := by
    intro x18 ix18 q
    subst q
    have h := hF3
    refine g_iload_n C dX11_worstTaken_93 rfl ?_
    exact g_iretU C dX11_worstTaken_94 hr hlk h ix18
  have hL3 : ∀ (n : Nat) (x4 : Int) (x5 : Int) (x6 : Int) , InI x4 → InI x5 → InI x6 → lpN (fun a => m_X11_worstTaken_L20 σ x2 a.1 a.2.1 a.2.2) n (x4, x5, x6) = some b3 → GM w p l e rm_X11_worstTaken s m args below meth c (some (iv y)) (InI y) σ 7 20 [some (rv w 0), none, some (iv x2), some (iv x4), some (iv x5), some (iv x6), none] [] σ := by
    intro n
    induction n with
    | zero => intro x4 x5 x6 ix4 ix5 ix6 q; cases q
    | succ n ih3 =>
      intro x4 x5 x6 ix4 ix5 ix6 q
      obtain ⟨o3, h, hk3⟩ := lp_step q
      replace h : m_X11_worstTaken_L20 σ x2 x4 x5 x6 = some o3 := h
      unfold m_X11_worstTaken_L20 at h
      refine g_iload C dX11_worstTaken_20 rfl ?_
      refine g_iconst C dX11_worstTaken_22 ?_
      refine g_aload_n C dX11_worstTaken_23 rfl ?_
      refine g_getR (j := 7) C dX11_worstTaken_24 rfl (Nat.le_of_ble_eq_true rfl) (Nat.le_of_ble_eq_true rfl) fl_11_63 rfl rfl (r := 129) rfl ?_
      refine g_getI (j := 1) C dX11_worstTaken_27 rfl (Nat.le_of_ble_eq_true rfl) (Nat.le_of_ble_eq_true rfl) fl_11_289 rfl rfl (fun i7 => ?_)
      refine g_ishl C dX11_worstTaken_30 ?_
      refine g_icmp_ge C dX11_worstTaken_31 ix6 (ishl _ _) rfl (tgt := 93) (fun c8 => ?_) (fun c8 => ?_)
      · have h := ifT c8 h
        refine g_mask [false, true, false, true, false, false, true] ?_
        obtain rfl := Option.some.inj h
        exact hX3 x4 ix4 (lpR hk3).symm
      · have h := ifF c8 h
        refine g_iload C dX11_worstTaken_34 rfl ?_
        obtain ⟨x9, qx9, h⟩ := bnd h
        refine g_callS1 (As := [iv x6]) C dX11_worstTaken_36 mi_J6_bitCount_0f7a4 ml_11_232 (ct_J6_bitCount_0f7a4 ix6 qx9) rfl ⟨rfl, rfl⟩ ⟨Nat.le_of_ble_eq_true rfl, Nat.le_of_ble_eq_true rfl⟩ ⟨Nat.zero_le _, Nat.zero_le _⟩ rfl (Nat.le_of_ble_eq_true rfl) (fun ix9 => ?_)
        refine g_iload_n C dX11_worstTaken_39 rfl ?_
        refine g_icmp_ne C dX11_worstTaken_40 ix9 ix2 rfl (tgt := 87) (fun c10 => ?_) (fun c10 => ?_)
        · have h := ifF c10 h
          refine g_iinc (L1 := [some (rv w 0), none, some (iv x2), some (iv x4), some (iv x5), some (iv (wr (x6 + 1))), none]) C dX11_worstTaken_87 rfl rfl (Nat.le_of_ble_eq_true rfl) rfl ?_
          refine g_goto C dX11_worstTaken_90 rfl (tgt := 20) ?_
          obtain rfl := Option.some.inj h
          exact ih3 _ _ _ ix4 ix5 (iwr _) (lpL hk3)
        · have h := ifT c10 h
          refine g_aload_n C dX11_worstTaken_43 rfl ?_
          refine g_getR (j := 7) C dX11_worstTaken_44 rfl (Nat.le_of_ble_eq_true rfl) (Nat.le_of_ble_eq_true rfl) fl_11_63 rfl rfl (r := 129) rfl ?_
          refine g_iload C dX11_worstTaken_47 rfl ?_
          obtain ⟨x11, qx11, h⟩ := bnd h
          refine g_callV1 (As := [iv x6]) C dX11_worstTaken_49 mi_X8_whoFalls ml_11_229 (ct_X8_whoFalls ix6 qx11) rfl rfl ⟨rfl, rfl⟩ ⟨Nat.le_of_ble_eq_true rfl, Nat.le_of_ble_eq_true rfl⟩ ⟨Nat.zero_le _, Nat.zero_le _⟩ rfl (Nat.le_of_ble_eq_true rfl) (fun ix11 => ?_)
          obtain ⟨x12, qx12, h⟩ := bnd h
          refine g_callS1 (As := [iv x11]) C dX11_worstTaken_52 mi_J6_bitCount_0f7a4 ml_11_232 (ct_J6_bitCount_0f7a4 ix11 qx12) rfl ⟨rfl, rfl⟩ ⟨Nat.le_of_ble_eq_true rfl, Nat.le_of_ble_eq_true rfl⟩ ⟨Nat.zero_le _, Nat.zero_le _⟩ rfl (Nat.le_of_ble_eq_true rfl) (fun ix12 => ?_)
          refine g_istore (L1 := [some (rv w 0), none, some (iv x2), some (iv x4), some (iv x5), some (iv x6), some (iv x12)]) C dX11_worstTaken_55 rfl (Nat.le_of_ble_eq_true rfl) rfl ?_
          refine g_iload C dX11_worstTaken_57 rfl ?_
          refine g_iload C dX11_worstTaken_59 rfl ?_
          have hJ80_17 : m_X11_worstTaken_J80 x6 x12 = some o3 → GM w p l e rm_X11_worstTaken s m args below meth c (some (iv y)) (InI y) σ 7 80 [some (rv w 0), none, some (iv x2), none, none, some (iv x6), some (iv x12)] [] σ := by
            intro h
            unfold m_X11_worstTaken_J80 at h
            refine g_iload C dX11_worstTaken_80 rfl ?_
            refine g_istore_n (L1 := [some (rv w 0), none, some (iv x2), some (iv x6), none, some (iv x6), some (iv x12)]) C dX11_worstTaken_82 rfl (Nat.le_of_ble_eq_true rfl) rfl ?_
            refine g_iload C dX11_worstTaken_83 rfl ?_
            refine g_istore (L1 := [some (rv w 0), none, some (iv x2), some (iv x6), some (iv x12), some (iv x6), some (iv x12)]) C dX11_worstTaken_85 rfl (Nat.le_of_ble_eq_true rfl) rfl ?_
            refine g_iinc (L1 := [some (rv w 0), none, some (iv x2), some (iv x6), some (iv x12), some (iv (wr (x6 + 1))), some (iv x12)]) C dX11_worstTaken_87 rfl rfl (Nat.le_of_ble_eq_true rfl) rfl ?_
            refine g_goto C dX11_worstTaken_90 rfl (tgt := 20) ?_
            refine g_mask [true, true, true, true, true, true, false] ?_
            obtain rfl := Option.some.inj h
            exact ih3 _ _ _ ix6 ix12 (iwr _) (lpL hk3)
          refine g_icmp_gt C dX11_worstTaken_61 ix12 ix5 rfl (tgt := 80) (fun c13 => ?_) (fun c13 => ?_)
          · have h := ifT c13 h
            refine g_mask [true, true, true, false, false, true, true] ?_
            exact hJ80_17  h
          · have h := ifF c13 h
            refine g_iload C dX11_worstTaken_64 rfl ?_
            refine g_iload C dX11_worstTaken_66 rfl ?_
            refine g_icmp_ne C dX11_worstTaken_68 ix12 ix5 rfl (tgt := 87) (fun c14 => ?_) (fun c14 => ?_)
            · have h := ifF c14 h
              refine g_iinc (L1 := [some (rv w 0), none, some (iv x2), some (iv x4), some (iv x5), some (iv (wr (x6 + 1))), some (iv x12)]) C dX11_worstTaken_87 rfl rfl (Nat.le_of_ble_eq_true rfl) rfl ?_
              refine g_goto C dX11_worstTaken_90 rfl (tgt := 20) ?_
              refine g_mask [true, true, true, true, true, true, false] ?_
              obtain rfl := Option.some.inj h
              exact ih3 _ _ _ ix4 ix5 (iwr _) (lpL hk3)
            · have h := ifT c14 h
              refine g_iload C dX11_worstTaken_71 rfl ?_
              refine g_iload_n C dX11_worstTaken_73 rfl ?_
              obtain ⟨x15, qx15, h⟩ := bnd h
              refine g_callS1 (As := [iv x6, iv x4]) C dX11_worstTaken_74 mi_X11_isAhead ml_11_297 (ct_X11_isAhead ix6 ix4 qx15) rfl ⟨rfl, rfl⟩ ⟨Nat.le_of_ble_eq_true rfl, Nat.le_of_ble_eq_true rfl⟩ ⟨Nat.zero_le _, Nat.zero_le _⟩ rfl (Nat.le_of_ble_eq_true rfl) (fun ix15 => ?_)
              refine g_if_eq C dX11_worstTaken_77 (zI ix15) rfl (tgt := 87) (fun c16 => ?_) (fun c16 => ?_)
              · have h := ifT c16 h
                refine g_iinc (L1 := [some (rv w 0), none, some (iv x2), some (iv x4), some (iv x5), some (iv (wr (x6 + 1))), some (iv x12)]) C dX11_worstTaken_87 rfl rfl (Nat.le_of_ble_eq_true rfl) rfl ?_
                refine g_goto C dX11_worstTaken_90 rfl (tgt := 20) ?_
                refine g_mask [true, true, true, true, true, true, false] ?_
                obtain rfl := Option.some.inj h
                exact ih3 _ _ _ ix4 ix5 (iwr _) (lpL hk3)
              · have h := ifF c16 h
                refine g_mask [true, true, true, false, false, true, true] ?_
                exact hJ80_17  h
  exact hL3 FU _ _ _ (by decide) (by decide) (by decide) hb3
theorem dX11_falls_0 : decode cX11_falls 0 = .ok (.aload_n 0, 1) := by decide +kernel
theorem dX11_falls_1 : decode cX11_falls 1 = .ok (.getfield 63, 3) := by decide +kernel
theorem dX11_falls_4 : decode cX11_falls 4 = .ok (.getfield 198, 3) := by decide +kernel
theorem dX11_falls_7 : decode cX11_falls 7 = .ok (.ifCond .eq 13, 3) := by decide +kernel
theorem dX11_falls_10 : decode cX11_falls 10 = .ok (.iload_n 1, 1) := by decide +kernel
theorem dX11_falls_11 : decode cX11_falls 11 = .ok (.iconst 1, 1) := by decide +kernel
theorem dX11_falls_12 : decode cX11_falls 12 = .ok (.if_icmp .lt 8, 3) := by decide +kernel
theorem dX11_falls_15 : decode cX11_falls 15 = .ok (.iload_n 1, 1) := by decide +kernel
theorem dX11_falls_16 : decode cX11_falls 16 = .ok (.iconst 3, 1) := by decide +kernel
theorem dX11_falls_17 : decode cX11_falls 17 = .ok (.if_icmp .le 5, 3) := by decide +kernel
theorem dX11_falls_20 : decode cX11_falls 20 = .ok (.iconst (-1), 1) := by decide +kernel
theorem dX11_falls_21 : decode cX11_falls 21 = .ok (.ireturn, 1) := by decide +kernel
theorem dX11_falls_22 : decode cX11_falls 22 = .ok (.aload_n 0, 1) := by decide +kernel
theorem dX11_falls_23 : decode cX11_falls 23 = .ok (.getfield 63, 3) := by decide +kernel
theorem dX11_falls_26 : decode cX11_falls 26 = .ok (.aload_n 0, 1) := by decide +kernel
theorem dX11_falls_27 : decode cX11_falls 27 = .ok (.iload_n 1, 1) := by decide +kernel
theorem dX11_falls_28 : decode cX11_falls 28 = .ok (.invokevirtual 226, 3) := by decide +kernel
theorem dX11_falls_31 : decode cX11_falls 31 = .ok (.invokevirtual 229, 3) := by decide +kernel
theorem dX11_falls_34 : decode cX11_falls 34 = .ok (.invokestatic 232, 3) := by decide +kernel
theorem dX11_falls_37 : decode cX11_falls 37 = .ok (.ireturn, 1) := by decide +kernel
abbrev rm_X11_falls : Room := { frames := 2, cells := 0, slots := 0, locals := 50 }
set_option maxRecDepth 100000 in
set_option maxHeartbeats 4000000 in
theorem ct_X11_falls {w : Wd} {l : Launch} {a1 : Int} {σ : St} {y : Int} (ia1 : InI a1) (h : m_X11_falls a1 σ = some y) : Ct w l yX11_falls (Cond.code yX11_falls cX11_falls 2 (some .int) :: TB) rm_X11_falls [rv w 0, iv a1] σ (some (iv y)) (InI y) σ := by
  refine Ct.of2 [some (rv w 0), some (iv a1)] 0 rfl pn_RX11 (Nat.le_of_ble_eq_true rfl) ?_
  intro p e s m args below meth c C hr hlk
  unfold m_X11_falls at h
  refine g_aload_n C dX11_falls_0 rfl ?_
  refine g_getR (j := 7) C dX11_falls_1 rfl (Nat.le_of_ble_eq_true rfl) (Nat.le_of_ble_eq_true rfl) fl_11_63 rfl rfl (r := 129) rfl ?_
  refine g_getZ (j := 0) C dX11_falls_4 rfl (Nat.le_of_ble_eq_true rfl) (Nat.le_of_ble_eq_true rfl) fl_11_198 rfl rfl (fun i1 => ?_)
  refine g_if_eq C dX11_falls_7 (zI i1) rfl (tgt := 20) (fun c2 => ?_) (fun c2 => ?_)
  · have h := ifT c2 h
    refine g_iconst C dX11_falls_20 ?_
    exact g_iretU C dX11_falls_21 hr hlk h (by decide)
  · have h := ifF c2 h
    refine g_iload_n C dX11_falls_10 rfl ?_
    refine g_iconst C dX11_falls_11 ?_
    refine g_icmp_lt C dX11_falls_12 ia1 (by decide) rfl (tgt := 20) (fun c3 => ?_) (fun c3 => ?_)
    · have h := ifT c3 h
      refine g_iconst C dX11_falls_20 ?_
      exact g_iretU C dX11_falls_21 hr hlk h (by decide)
    · have h := ifF c3 h
      refine g_iload_n C dX11_falls_15 rfl ?_
      refine g_iconst C dX11_falls_16 ?_
      refine g_icmp_le C dX11_falls_17 ia1 (by decide) rfl (tgt := 22) (fun c4 => ?_) (fun c4 => ?_)
      · have h := ifT c4 h
        refine g_aload_n C dX11_falls_22 rfl ?_
        refine g_getR (j := 7) C dX11_falls_23 rfl (Nat.le_of_ble_eq_true rfl) (Nat.le_of_ble_eq_true rfl) fl_11_63 rfl rfl (r := 129) rfl ?_
        refine g_aload_n C dX11_falls_26 rfl ?_
        refine g_iload_n C dX11_falls_27 rfl ?_
        obtain ⟨x5, qx5, h⟩ := bnd h
        refine g_callV1 (As := [iv a1]) C dX11_falls_28 mi_X11_worstTaken ml_11_226 (ct_X11_worstTaken ia1 qx5) rfl rfl ⟨rfl, rfl⟩ ⟨Nat.le_of_ble_eq_true rfl, Nat.le_of_ble_eq_true rfl⟩ ⟨Nat.zero_le _, Nat.zero_le _⟩ rfl (Nat.le_of_ble_eq_true rfl) (fun ix5 => ?_)
        obtain ⟨x6, qx6, h⟩ := bnd h
        refine g_callV1 (As := [iv x5]) C dX11_falls_31 mi_X8_whoFalls ml_11_229 (ct_X8_whoFalls ix5 qx6) rfl rfl ⟨rfl, rfl⟩ ⟨Nat.le_of_ble_eq_true rfl, Nat.le_of_ble_eq_true rfl⟩ ⟨Nat.zero_le _, Nat.zero_le _⟩ rfl (Nat.le_of_ble_eq_true rfl) (fun ix6 => ?_)
        obtain ⟨x7, qx7, h⟩ := bnd h
        refine g_callS1 (As := [iv x6]) C dX11_falls_34 mi_J6_bitCount_0f7a4 ml_11_232 (ct_J6_bitCount_0f7a4 ix6 qx7) rfl ⟨rfl, rfl⟩ ⟨Nat.le_of_ble_eq_true rfl, Nat.le_of_ble_eq_true rfl⟩ ⟨Nat.zero_le _, Nat.zero_le _⟩ rfl (Nat.le_of_ble_eq_true rfl) (fun ix7 => ?_)
        exact g_iretU C dX11_falls_37 hr hlk h ix7
      · have h := ifF c4 h
        refine g_iconst C dX11_falls_20 ?_
        exact g_iretU C dX11_falls_21 hr hlk h (by decide)
theorem dX11_fallen_0 : decode cX11_fallen 0 = .ok (.aload_n 0, 1) := by decide +kernel
theorem dX11_fallen_1 : decode cX11_fallen 1 = .ok (.getfield 63, 3) := by decide +kernel
theorem dX11_fallen_4 : decode cX11_fallen 4 = .ok (.getfield 198, 3) := by decide +kernel
theorem dX11_fallen_7 : decode cX11_fallen 7 = .ok (.ifCond .eq 13, 3) := by decide +kernel
theorem dX11_fallen_10 : decode cX11_fallen 10 = .ok (.iload_n 1, 1) := by decide +kernel
theorem dX11_fallen_11 : decode cX11_fallen 11 = .ok (.iconst 1, 1) := by decide +kernel
theorem dX11_fallen_12 : decode cX11_fallen 12 = .ok (.if_icmp .lt 8, 3) := by decide +kernel
theorem dX11_fallen_15 : decode cX11_fallen 15 = .ok (.iload_n 1, 1) := by decide +kernel
theorem dX11_fallen_16 : decode cX11_fallen 16 = .ok (.iconst 3, 1) := by decide +kernel
theorem dX11_fallen_17 : decode cX11_fallen 17 = .ok (.if_icmp .le 5, 3) := by decide +kernel
theorem dX11_fallen_20 : decode cX11_fallen 20 = .ok (.iconst (-1), 1) := by decide +kernel
theorem dX11_fallen_21 : decode cX11_fallen 21 = .ok (.ireturn, 1) := by decide +kernel
theorem dX11_fallen_22 : decode cX11_fallen 22 = .ok (.aload_n 0, 1) := by decide +kernel
theorem dX11_fallen_23 : decode cX11_fallen 23 = .ok (.iload_n 1, 1) := by decide +kernel
theorem dX11_fallen_24 : decode cX11_fallen 24 = .ok (.invokevirtual 226, 3) := by decide +kernel
theorem dX11_fallen_27 : decode cX11_fallen 27 = .ok (.ireturn, 1) := by decide +kernel
abbrev rm_X11_fallen : Room := { frames := 2, cells := 0, slots := 0, locals := 50 }
set_option maxRecDepth 100000 in
set_option maxHeartbeats 4000000 in
theorem ct_X11_fallen {w : Wd} {l : Launch} {a1 : Int} {σ : St} {y : Int} (ia1 : InI a1) (h : m_X11_fallen a1 σ = some y) : Ct w l yX11_fallen (Cond.code yX11_fallen cX11_fallen 2 (some .int) :: TB) rm_X11_fallen [rv w 0, iv a1] σ (some (iv y)) (InI y) σ := by
  refine Ct.of2 [some (rv w 0), some (iv a1)] 0 rfl pn_RX11 (Nat.le_of_ble_eq_true rfl) ?_
  intro p e s m args below meth c C hr hlk
  unfold m_X11_fallen at h
  refine g_aload_n C dX11_fallen_0 rfl ?_
  refine g_getR (j := 7) C dX11_fallen_1 rfl (Nat.le_of_ble_eq_true rfl) (Nat.le_of_ble_eq_true rfl) fl_11_63 rfl rfl (r := 129) rfl ?_
  refine g_getZ (j := 0) C dX11_fallen_4 rfl (Nat.le_of_ble_eq_true rfl) (Nat.le_of_ble_eq_true rfl) fl_11_198 rfl rfl (fun i1 => ?_)
  refine g_if_eq C dX11_fallen_7 (zI i1) rfl (tgt := 20) (fun c2 => ?_) (fun c2 => ?_)
  · have h := ifT c2 h
    refine g_iconst C dX11_fallen_20 ?_
    exact g_iretU C dX11_fallen_21 hr hlk h (by decide)
  · have h := ifF c2 h
    refine g_iload_n C dX11_fallen_10 rfl ?_
    refine g_iconst C dX11_fallen_11 ?_
    refine g_icmp_lt C dX11_fallen_12 ia1 (by decide) rfl (tgt := 20) (fun c3 => ?_) (fun c3 => ?_)
    · have h := ifT c3 h
      refine g_iconst C dX11_fallen_20 ?_
      exact g_iretU C dX11_fallen_21 hr hlk h (by decide)
    · have h := ifF c3 h
      refine g_iload_n C dX11_fallen_15 rfl ?_
      refine g_iconst C dX11_fallen_16 ?_
      refine g_icmp_le C dX11_fallen_17 ia1 (by decide) rfl (tgt := 22) (fun c4 => ?_) (fun c4 => ?_)
      · have h := ifT c4 h
        refine g_aload_n C dX11_fallen_22 rfl ?_
        refine g_iload_n C dX11_fallen_23 rfl ?_
        obtain ⟨x5, qx5, h⟩ := bnd h
        refine g_callV1 (As := [iv a1]) C dX11_fallen_24 mi_X11_worstTaken ml_11_226 (ct_X11_worstTaken ia1 qx5) rfl rfl ⟨rfl, rfl⟩ ⟨Nat.le_of_ble_eq_true rfl, Nat.le_of_ble_eq_true rfl⟩ ⟨Nat.zero_le _, Nat.zero_le _⟩ rfl (Nat.le_of_ble_eq_true rfl) (fun ix5 => ?_)
        exact g_iretU C dX11_fallen_27 hr hlk h ix5
      · have h := ifF c4 h
        refine g_iconst C dX11_fallen_20 ?_
        exact g_iretU C dX11_fallen_21 hr hlk h (by decide)
theorem dX11_canBe_0 : decode cX11_canBe 0 = .ok (.aload_n 0, 1) := by decide +kernel
theorem dX11_canBe_1 : decode cX11_canBe 1 = .ok (.iload_n 1, 1) := by decide +kernel
theorem dX11_canBe_2 : decode cX11_canBe 2 = .ok (.invokevirtual 135, 3) := by decide +kernel
theorem dX11_canBe_5 : decode cX11_canBe 5 = .ok (.ifCond .eq 30, 3) := by decide +kernel
theorem dX11_canBe_8 : decode cX11_canBe 8 = .ok (.aload_n 0, 1) := by decide +kernel
theorem dX11_canBe_9 : decode cX11_canBe 9 = .ok (.getfield 29, 3) := by decide +kernel
theorem dX11_canBe_12 : decode cX11_canBe 12 = .ok (.iload_n 2, 1) := by decide +kernel
theorem dX11_canBe_13 : decode cX11_canBe 13 = .ok (.invokevirtual 118, 3) := by decide +kernel
theorem dX11_canBe_16 : decode cX11_canBe 16 = .ok (.ifCond .eq 19, 3) := by decide +kernel
theorem dX11_canBe_19 : decode cX11_canBe 19 = .ok (.iload_n 3, 1) := by decide +kernel
theorem dX11_canBe_20 : decode cX11_canBe 20 = .ok (.invokestatic 152, 3) := by decide +kernel
theorem dX11_canBe_23 : decode cX11_canBe 23 = .ok (.ifCond .eq 12, 3) := by decide +kernel
theorem dX11_canBe_26 : decode cX11_canBe 26 = .ok (.aload_n 0, 1) := by decide +kernel
theorem dX11_canBe_27 : decode cX11_canBe 27 = .ok (.iload 4, 2) := by decide +kernel
theorem dX11_canBe_29 : decode cX11_canBe 29 = .ok (.invokevirtual 166, 3) := by decide +kernel
theorem dX11_canBe_32 : decode cX11_canBe 32 = .ok (.ifCond .ne 5, 3) := by decide +kernel
theorem dX11_canBe_35 : decode cX11_canBe 35 = .ok (.iconst (-1), 1) := by decide +kernel
theorem dX11_canBe_36 : decode cX11_canBe 36 = .ok (.ireturn, 1) := by decide +kernel
theorem dX11_canBe_37 : decode cX11_canBe 37 = .ok (.aload_n 0, 1) := by decide +kernel
theorem dX11_canBe_38 : decode cX11_canBe 38 = .ok (.getfield 50, 3) := by decide +kernel
theorem dX11_canBe_41 : decode cX11_canBe 41 = .ok (.iload 4, 2) := by decide +kernel
theorem dX11_canBe_43 : decode cX11_canBe 43 = .ok (.invokevirtual 169, 3) := by decide +kernel
theorem dX11_canBe_46 : decode cX11_canBe 46 = .ok (.aload_n 0, 1) := by decide +kernel
theorem dX11_canBe_47 : decode cX11_canBe 47 = .ok (.getfield 67, 3) := by decide +kernel
theorem dX11_canBe_50 : decode cX11_canBe 50 = .ok (.iload_n 1, 1) := by decide +kernel
theorem dX11_canBe_51 : decode cX11_canBe 51 = .ok (.invokevirtual 237, 3) := by decide +kernel
theorem dX11_canBe_54 : decode cX11_canBe 54 = .ok (.aload_n 0, 1) := by decide +kernel
theorem dX11_canBe_55 : decode cX11_canBe 55 = .ok (.getfield 67, 3) := by decide +kernel
theorem dX11_canBe_58 : decode cX11_canBe 58 = .ok (.getfield 240, 3) := by decide +kernel
theorem dX11_canBe_61 : decode cX11_canBe 61 = .ok (.iload_n 1, 1) := by decide +kernel
theorem dX11_canBe_62 : decode cX11_canBe 62 = .ok (.aaload, 1) := by decide +kernel
theorem dX11_canBe_63 : decode cX11_canBe 63 = .ok (.iload_n 3, 1) := by decide +kernel
theorem dX11_canBe_64 : decode cX11_canBe 64 = .ok (.iaload, 1) := by decide +kernel
theorem dX11_canBe_65 : decode cX11_canBe 65 = .ok (.iload_n 2, 1) := by decide +kernel
theorem dX11_canBe_66 : decode cX11_canBe 66 = .ok (.ishr, 1) := by decide +kernel
theorem dX11_canBe_67 : decode cX11_canBe 67 = .ok (.iconst 1, 1) := by decide +kernel
theorem dX11_canBe_68 : decode cX11_canBe 68 = .ok (.iand, 1) := by decide +kernel
theorem dX11_canBe_69 : decode cX11_canBe 69 = .ok (.ireturn, 1) := by decide +kernel
abbrev rm_X11_canBe : Room := { frames := 4, cells := 0, slots := 0, locals := 89 }
set_option maxRecDepth 100000 in
set_option maxHeartbeats 4000000 in
theorem ct_X11_canBe {w : Wd} {l : Launch} {a1 : Int} {a2 : Int} {a3 : Int} {a4 : Int} {σ : St} {y : Int} {σ' : St} (ia1 : InI a1) (ia2 : InI a2) (ia3 : InI a3) (ia4 : InI a4) (h : m_X11_canBe a1 a2 a3 a4 σ = some (y, σ')) : Ct w l yX11_canBe (Cond.code yX11_canBe cX11_canBe 5 (some .int) :: TB) rm_X11_canBe [rv w 0, iv a1, iv a2, iv a3, iv a4] σ (some (iv y)) (InI y) σ' := by
  refine Ct.of2 [some (rv w 0), some (iv a1), some (iv a2), some (iv a3), some (iv a4)] 0 rfl pn_RX11 (Nat.le_of_ble_eq_true rfl) ?_
  intro p e s m args below meth c C hr hlk
  unfold m_X11_canBe at h
  refine g_aload_n C dX11_canBe_0 rfl ?_
  refine g_iload_n C dX11_canBe_1 rfl ?_
  obtain ⟨x1, qx1, h⟩ := bnd h
  refine g_callV1 (As := [iv a1]) C dX11_canBe_2 mi_X11_isAgent ml_11_135 (ct_X11_isAgent ia1 qx1) rfl rfl ⟨rfl, rfl⟩ ⟨Nat.le_of_ble_eq_true rfl, Nat.le_of_ble_eq_true rfl⟩ ⟨Nat.zero_le _, Nat.zero_le _⟩ rfl (Nat.le_of_ble_eq_true rfl) (fun ix1 => ?_)
  refine g_if_eq C dX11_canBe_5 (zI ix1) rfl (tgt := 35) (fun c2 => ?_) (fun c2 => ?_)
  · have h := ifT c2 h
    refine g_iconst C dX11_canBe_35 ?_
    exact g_iretP C dX11_canBe_36 hr hlk h (by decide)
  · have h := ifF c2 h
    refine g_aload_n C dX11_canBe_8 rfl ?_
    refine g_getR (j := 0) C dX11_canBe_9 rfl (Nat.le_of_ble_eq_true rfl) (Nat.le_of_ble_eq_true rfl) fl_11_29 rfl rfl (r := 1) rfl ?_
    refine g_iload_n C dX11_canBe_12 rfl ?_
    obtain ⟨x3, qx3, h⟩ := bnd h
    refine g_callV1 (As := [iv a2]) C dX11_canBe_13 mi_X10_hasSpot ml_11_118 (ct_X10_hasSpot ia2 qx3) rfl rfl ⟨rfl, rfl⟩ ⟨Nat.le_of_ble_eq_true rfl, Nat.le_of_ble_eq_true rfl⟩ ⟨Nat.zero_le _, Nat.zero_le _⟩ rfl (Nat.le_of_ble_eq_true rfl) (fun ix3 => ?_)
    refine g_if_eq C dX11_canBe_16 (zI ix3) rfl (tgt := 35) (fun c4 => ?_) (fun c4 => ?_)
    · have h := ifT c4 h
      refine g_iconst C dX11_canBe_35 ?_
      exact g_iretP C dX11_canBe_36 hr hlk h (by decide)
    · have h := ifF c4 h
      refine g_iload_n C dX11_canBe_19 rfl ?_
      obtain ⟨x5, qx5, h⟩ := bnd h
      refine g_callS1 (As := [iv a3]) C dX11_canBe_20 mi_X11_isTick ml_11_152 (ct_X11_isTick ia3 qx5) rfl ⟨rfl, rfl⟩ ⟨Nat.le_of_ble_eq_true rfl, Nat.le_of_ble_eq_true rfl⟩ ⟨Nat.zero_le _, Nat.zero_le _⟩ rfl (Nat.le_of_ble_eq_true rfl) (fun ix5 => ?_)
      refine g_if_eq C dX11_canBe_23 (zI ix5) rfl (tgt := 35) (fun c6 => ?_) (fun c6 => ?_)
      · have h := ifT c6 h
        refine g_iconst C dX11_canBe_35 ?_
        exact g_iretP C dX11_canBe_36 hr hlk h (by decide)
      · have h := ifF c6 h
        refine g_aload_n C dX11_canBe_26 rfl ?_
        refine g_iload C dX11_canBe_27 rfl ?_
        obtain ⟨x7, qx7, h⟩ := bnd h
        refine g_callV1 (As := [iv a4]) C dX11_canBe_29 mi_X11_isKnowledge ml_11_166 (ct_X11_isKnowledge ia4 qx7) rfl rfl ⟨rfl, rfl⟩ ⟨Nat.le_of_ble_eq_true rfl, Nat.le_of_ble_eq_true rfl⟩ ⟨Nat.zero_le _, Nat.zero_le _⟩ rfl (Nat.le_of_ble_eq_true rfl) (fun ix7 => ?_)
        refine g_if_ne C dX11_canBe_32 (zI ix7) rfl (tgt := 37) (fun c8 => ?_) (fun c8 => ?_)
        · have h := ifF c8 h
          refine g_aload_n C dX11_canBe_37 rfl ?_
          refine g_getR (j := 4) C dX11_canBe_38 rfl (Nat.le_of_ble_eq_true rfl) (Nat.le_of_ble_eq_true rfl) fl_11_50 rfl rfl (r := 30) rfl ?_
          refine g_iload C dX11_canBe_41 rfl ?_
          obtain ⟨σ9, qσ9, h⟩ := bnd h
          refine g_callV0 (As := [iv a4]) C dX11_canBe_43 mi_X1_look ml_11_169 (ct_X1_look ia4 qσ9) rfl rfl ⟨rfl, rfl⟩ ⟨Nat.le_of_ble_eq_true rfl, Nat.le_of_ble_eq_true rfl⟩ ⟨Nat.zero_le _, Nat.zero_le _⟩ rfl (Nat.le_of_ble_eq_true rfl) (fun _ => ?_)
          refine g_aload_n C dX11_canBe_46 rfl ?_
          refine g_getR (j := 8) C dX11_canBe_47 rfl (Nat.le_of_ble_eq_true rfl) (Nat.le_of_ble_eq_true rfl) fl_11_67 rfl rfl (r := 95) rfl ?_
          refine g_iload_n C dX11_canBe_50 rfl ?_
          obtain ⟨σ10, qσ10, h⟩ := bnd h
          refine g_callV0 (As := [iv a1]) C dX11_canBe_51 mi_X6_reckon ml_11_237 (ct_X6_reckon ia1 qσ10) rfl rfl ⟨rfl, rfl⟩ ⟨Nat.le_of_ble_eq_true rfl, Nat.le_of_ble_eq_true rfl⟩ ⟨Nat.zero_le _, Nat.zero_le _⟩ rfl (Nat.le_of_ble_eq_true rfl) (fun _ => ?_)
          refine g_aload_n C dX11_canBe_54 rfl ?_
          refine g_getR (j := 8) C dX11_canBe_55 rfl (Nat.le_of_ble_eq_true rfl) (Nat.le_of_ble_eq_true rfl) fl_11_67 rfl rfl (r := 95) rfl ?_
          refine g_getR (j := 0) C dX11_canBe_58 rfl (Nat.le_of_ble_eq_true rfl) (Nat.le_of_ble_eq_true rfl) fl_11_240 rfl rfl (r := 96) rfl ?_
          refine g_iload_n C dX11_canBe_61 rfl ?_
          obtain ⟨k11, qk11, h⟩ := bnd h
          refine g_aalI C dX11_canBe_62 rfl rfl qk11 ia1 ?_
          refine g_iload_n C dX11_canBe_63 rfl ?_
          obtain ⟨x12, qx12, h⟩ := bnd h
          refine g_iald C dX11_canBe_64 (rrB_96 qk11).1 (rrB_96 qk11).2 qx12 ia3 (fun ix12 => ?_)
          refine g_iload_n C dX11_canBe_65 rfl ?_
          refine g_ishr C dX11_canBe_66 ?_
          refine g_iconst C dX11_canBe_67 ?_
          refine g_iand C dX11_canBe_68 ?_
          exact g_iretP C dX11_canBe_69 hr hlk h (iand _ _)
        · have h := ifT c8 h
          refine g_iconst C dX11_canBe_35 ?_
          exact g_iretP C dX11_canBe_36 hr hlk h (by decide)
theorem dX11_fits_0 : decode cX11_fits 0 = .ok (.aload_n 0, 1) := by decide +kernel
theorem dX11_fits_1 : decode cX11_fits 1 = .ok (.iload_n 1, 1) := by decide +kernel
theorem dX11_fits_2 : decode cX11_fits 2 = .ok (.invokevirtual 135, 3) := by decide +kernel
theorem dX11_fits_5 : decode cX11_fits 5 = .ok (.ifCond .eq 11, 3) := by decide +kernel
theorem dX11_fits_8 : decode cX11_fits 8 = .ok (.aload_n 0, 1) := by decide +kernel
theorem dX11_fits_9 : decode cX11_fits 9 = .ok (.iload_n 2, 1) := by decide +kernel
theorem dX11_fits_10 : decode cX11_fits 10 = .ok (.invokevirtual 166, 3) := by decide +kernel
theorem dX11_fits_13 : decode cX11_fits 13 = .ok (.ifCond .ne 5, 3) := by decide +kernel
theorem dX11_fits_16 : decode cX11_fits 16 = .ok (.iconst (-1), 1) := by decide +kernel
theorem dX11_fits_17 : decode cX11_fits 17 = .ok (.ireturn, 1) := by decide +kernel
theorem dX11_fits_18 : decode cX11_fits 18 = .ok (.aload_n 0, 1) := by decide +kernel
theorem dX11_fits_19 : decode cX11_fits 19 = .ok (.getfield 50, 3) := by decide +kernel
theorem dX11_fits_22 : decode cX11_fits 22 = .ok (.iload_n 2, 1) := by decide +kernel
theorem dX11_fits_23 : decode cX11_fits 23 = .ok (.invokevirtual 169, 3) := by decide +kernel
theorem dX11_fits_26 : decode cX11_fits 26 = .ok (.aload_n 0, 1) := by decide +kernel
theorem dX11_fits_27 : decode cX11_fits 27 = .ok (.getfield 67, 3) := by decide +kernel
theorem dX11_fits_30 : decode cX11_fits 30 = .ok (.iload_n 1, 1) := by decide +kernel
theorem dX11_fits_31 : decode cX11_fits 31 = .ok (.invokevirtual 237, 3) := by decide +kernel
theorem dX11_fits_34 : decode cX11_fits 34 = .ok (.aload_n 0, 1) := by decide +kernel
theorem dX11_fits_35 : decode cX11_fits 35 = .ok (.getfield 67, 3) := by decide +kernel
theorem dX11_fits_38 : decode cX11_fits 38 = .ok (.getfield 240, 3) := by decide +kernel
theorem dX11_fits_41 : decode cX11_fits 41 = .ok (.iload_n 1, 1) := by decide +kernel
theorem dX11_fits_42 : decode cX11_fits 42 = .ok (.aaload, 1) := by decide +kernel
theorem dX11_fits_43 : decode cX11_fits 43 = .ok (.iconst 0, 1) := by decide +kernel
theorem dX11_fits_44 : decode cX11_fits 44 = .ok (.iaload, 1) := by decide +kernel
theorem dX11_fits_45 : decode cX11_fits 45 = .ok (.ifCond .eq 7, 3) := by decide +kernel
theorem dX11_fits_48 : decode cX11_fits 48 = .ok (.iconst 1, 1) := by decide +kernel
theorem dX11_fits_49 : decode cX11_fits 49 = .ok (.goto 4, 3) := by decide +kernel
theorem dX11_fits_52 : decode cX11_fits 52 = .ok (.iconst 0, 1) := by decide +kernel
theorem dX11_fits_53 : decode cX11_fits 53 = .ok (.ireturn, 1) := by decide +kernel
abbrev rm_X11_fits : Room := { frames := 4, cells := 0, slots := 0, locals := 89 }
set_option maxRecDepth 100000 in
set_option maxHeartbeats 4000000 in
theorem ct_X11_fits {w : Wd} {l : Launch} {a1 : Int} {a2 : Int} {σ : St} {y : Int} {σ' : St} (ia1 : InI a1) (ia2 : InI a2) (h : m_X11_fits a1 a2 σ = some (y, σ')) : Ct w l yX11_fits (Cond.code yX11_fits cX11_fits 3 (some .int) :: TB) rm_X11_fits [rv w 0, iv a1, iv a2] σ (some (iv y)) (InI y) σ' := by
  refine Ct.of2 [some (rv w 0), some (iv a1), some (iv a2)] 0 rfl pn_RX11 (Nat.le_of_ble_eq_true rfl) ?_
  intro p e s m args below meth c C hr hlk
  unfold m_X11_fits at h
  refine g_aload_n C dX11_fits_0 rfl ?_
  refine g_iload_n C dX11_fits_1 rfl ?_
  obtain ⟨x1, qx1, h⟩ := bnd h
  refine g_callV1 (As := [iv a1]) C dX11_fits_2 mi_X11_isAgent ml_11_135 (ct_X11_isAgent ia1 qx1) rfl rfl ⟨rfl, rfl⟩ ⟨Nat.le_of_ble_eq_true rfl, Nat.le_of_ble_eq_true rfl⟩ ⟨Nat.zero_le _, Nat.zero_le _⟩ rfl (Nat.le_of_ble_eq_true rfl) (fun ix1 => ?_)
  refine g_if_eq C dX11_fits_5 (zI ix1) rfl (tgt := 16) (fun c2 => ?_) (fun c2 => ?_)
  · have h := ifT c2 h
    refine g_iconst C dX11_fits_16 ?_
    exact g_iretP C dX11_fits_17 hr hlk h (by decide)
  · have h := ifF c2 h
    refine g_aload_n C dX11_fits_8 rfl ?_
    refine g_iload_n C dX11_fits_9 rfl ?_
    obtain ⟨x3, qx3, h⟩ := bnd h
    refine g_callV1 (As := [iv a2]) C dX11_fits_10 mi_X11_isKnowledge ml_11_166 (ct_X11_isKnowledge ia2 qx3) rfl rfl ⟨rfl, rfl⟩ ⟨Nat.le_of_ble_eq_true rfl, Nat.le_of_ble_eq_true rfl⟩ ⟨Nat.zero_le _, Nat.zero_le _⟩ rfl (Nat.le_of_ble_eq_true rfl) (fun ix3 => ?_)
    refine g_if_ne C dX11_fits_13 (zI ix3) rfl (tgt := 18) (fun c4 => ?_) (fun c4 => ?_)
    · have h := ifF c4 h
      refine g_aload_n C dX11_fits_18 rfl ?_
      refine g_getR (j := 4) C dX11_fits_19 rfl (Nat.le_of_ble_eq_true rfl) (Nat.le_of_ble_eq_true rfl) fl_11_50 rfl rfl (r := 30) rfl ?_
      refine g_iload_n C dX11_fits_22 rfl ?_
      obtain ⟨σ5, qσ5, h⟩ := bnd h
      refine g_callV0 (As := [iv a2]) C dX11_fits_23 mi_X1_look ml_11_169 (ct_X1_look ia2 qσ5) rfl rfl ⟨rfl, rfl⟩ ⟨Nat.le_of_ble_eq_true rfl, Nat.le_of_ble_eq_true rfl⟩ ⟨Nat.zero_le _, Nat.zero_le _⟩ rfl (Nat.le_of_ble_eq_true rfl) (fun _ => ?_)
      refine g_aload_n C dX11_fits_26 rfl ?_
      refine g_getR (j := 8) C dX11_fits_27 rfl (Nat.le_of_ble_eq_true rfl) (Nat.le_of_ble_eq_true rfl) fl_11_67 rfl rfl (r := 95) rfl ?_
      refine g_iload_n C dX11_fits_30 rfl ?_
      obtain ⟨σ6, qσ6, h⟩ := bnd h
      refine g_callV0 (As := [iv a1]) C dX11_fits_31 mi_X6_reckon ml_11_237 (ct_X6_reckon ia1 qσ6) rfl rfl ⟨rfl, rfl⟩ ⟨Nat.le_of_ble_eq_true rfl, Nat.le_of_ble_eq_true rfl⟩ ⟨Nat.zero_le _, Nat.zero_le _⟩ rfl (Nat.le_of_ble_eq_true rfl) (fun _ => ?_)
      refine g_aload_n C dX11_fits_34 rfl ?_
      refine g_getR (j := 8) C dX11_fits_35 rfl (Nat.le_of_ble_eq_true rfl) (Nat.le_of_ble_eq_true rfl) fl_11_67 rfl rfl (r := 95) rfl ?_
      refine g_getR (j := 0) C dX11_fits_38 rfl (Nat.le_of_ble_eq_true rfl) (Nat.le_of_ble_eq_true rfl) fl_11_240 rfl rfl (r := 96) rfl ?_
      refine g_iload_n C dX11_fits_41 rfl ?_
      obtain ⟨k7, qk7, h⟩ := bnd h
      refine g_aalI C dX11_fits_42 rfl rfl qk7 ia1 ?_
      refine g_iconst C dX11_fits_43 ?_
      obtain ⟨x8, qx8, h⟩ := bnd h
      refine g_iald C dX11_fits_44 (rrB_96 qk7).1 (rrB_96 qk7).2 qx8 (by decide) (fun ix8 => ?_)
      refine g_if_eq C dX11_fits_45 ix8 rfl (tgt := 52) (fun c9 => ?_) (fun c9 => ?_)
      · have h := ifT c9 h
        refine g_iconst C dX11_fits_52 ?_
        exact g_iretP C dX11_fits_53 hr hlk h (by decide)
      · have h := ifF c9 h
        refine g_iconst C dX11_fits_48 ?_
        refine g_goto C dX11_fits_49 rfl (tgt := 53) ?_
        exact g_iretP C dX11_fits_53 hr hlk h (by decide)
    · have h := ifT c4 h
      refine g_iconst C dX11_fits_16 ?_
      exact g_iretP C dX11_fits_17 hr hlk h (by decide)
theorem dX11_isSet_0 : decode cX11_isSet 0 = .ok (.iload_n 1, 1) := by decide +kernel
theorem dX11_isSet_1 : decode cX11_isSet 1 = .ok (.ifCond .lt 17, 3) := by decide +kernel
theorem dX11_isSet_4 : decode cX11_isSet 4 = .ok (.iload_n 1, 1) := by decide +kernel
theorem dX11_isSet_5 : decode cX11_isSet 5 = .ok (.iconst 1, 1) := by decide +kernel
theorem dX11_isSet_6 : decode cX11_isSet 6 = .ok (.aload_n 0, 1) := by decide +kernel
theorem dX11_isSet_7 : decode cX11_isSet 7 = .ok (.getfield 126, 3) := by decide +kernel
theorem dX11_isSet_10 : decode cX11_isSet 10 = .ok (.ishl, 1) := by decide +kernel
theorem dX11_isSet_11 : decode cX11_isSet 11 = .ok (.if_icmp .ge 7, 3) := by decide +kernel
theorem dX11_isSet_14 : decode cX11_isSet 14 = .ok (.iconst 1, 1) := by decide +kernel
theorem dX11_isSet_15 : decode cX11_isSet 15 = .ok (.goto 4, 3) := by decide +kernel
theorem dX11_isSet_18 : decode cX11_isSet 18 = .ok (.iconst 0, 1) := by decide +kernel
theorem dX11_isSet_19 : decode cX11_isSet 19 = .ok (.ireturn, 1) := by decide +kernel
abbrev rm_X11_isSet : Room := { frames := 0, cells := 0, slots := 0, locals := 0 }
set_option maxRecDepth 100000 in
set_option maxHeartbeats 4000000 in
theorem ct_X11_isSet {w : Wd} {l : Launch} {a1 : Int} {σ : St} {y : Int} (ia1 : InI a1) (h : m_X11_isSet a1 σ = some y) : Ct w l yX11_isSet (Cond.code yX11_isSet cX11_isSet 2 (some .boolean) :: TB) rm_X11_isSet [rv w 0, iv a1] σ (some (iv y)) (InZ y) σ := by
  refine Ct.of2 [some (rv w 0), some (iv a1)] 0 rfl pn_RX11 (Nat.le_of_ble_eq_true rfl) ?_
  intro p e s m args below meth c C hr hlk
  unfold m_X11_isSet at h
  refine g_iload_n C dX11_isSet_0 rfl ?_
  refine g_if_lt C dX11_isSet_1 ia1 rfl (tgt := 18) (fun c1 => ?_) (fun c1 => ?_)
  · have h := ifT c1 h
    refine g_iconst C dX11_isSet_18 ?_
    exact g_zretU C dX11_isSet_19 hr hlk h (Or.inl rfl)
  · have h := ifF c1 h
    refine g_iload_n C dX11_isSet_4 rfl ?_
    refine g_iconst C dX11_isSet_5 ?_
    refine g_aload_n C dX11_isSet_6 rfl ?_
    refine g_getI (j := 6) C dX11_isSet_7 rfl (Nat.le_of_ble_eq_true rfl) (Nat.le_of_ble_eq_true rfl) fl_11_126 rfl rfl (fun i2 => ?_)
    refine g_ishl C dX11_isSet_10 ?_
    refine g_icmp_ge C dX11_isSet_11 ia1 (ishl _ _) rfl (tgt := 18) (fun c3 => ?_) (fun c3 => ?_)
    · have h := ifT c3 h
      refine g_iconst C dX11_isSet_18 ?_
      exact g_zretU C dX11_isSet_19 hr hlk h (Or.inl rfl)
    · have h := ifF c3 h
      refine g_iconst C dX11_isSet_14 ?_
      refine g_goto C dX11_isSet_15 rfl (tgt := 19) ?_
      exact g_zretU C dX11_isSet_19 hr hlk h (Or.inr rfl)
theorem dX11_reckonRows_0 : decode cX11_reckonRows 0 = .ok (.aload_n 0, 1) := by decide +kernel
theorem dX11_reckonRows_1 : decode cX11_reckonRows 1 = .ok (.getfield 50, 3) := by decide +kernel
theorem dX11_reckonRows_4 : decode cX11_reckonRows 4 = .ok (.iload_n 1, 1) := by decide +kernel
theorem dX11_reckonRows_5 : decode cX11_reckonRows 5 = .ok (.invokevirtual 169, 3) := by decide +kernel
theorem dX11_reckonRows_8 : decode cX11_reckonRows 8 = .ok (.iconst 0, 1) := by decide +kernel
theorem dX11_reckonRows_9 : decode cX11_reckonRows 9 = .ok (.istore_n 2, 1) := by decide +kernel
theorem dX11_reckonRows_10 : decode cX11_reckonRows 10 = .ok (.iload_n 2, 1) := by decide +kernel
theorem dX11_reckonRows_11 : decode cX11_reckonRows 11 = .ok (.aload_n 0, 1) := by decide +kernel
theorem dX11_reckonRows_12 : decode cX11_reckonRows 12 = .ok (.getfield 126, 3) := by decide +kernel
theorem dX11_reckonRows_15 : decode cX11_reckonRows 15 = .ok (.if_icmp .ge 17, 3) := by decide +kernel
theorem dX11_reckonRows_18 : decode cX11_reckonRows 18 = .ok (.aload_n 0, 1) := by decide +kernel
theorem dX11_reckonRows_19 : decode cX11_reckonRows 19 = .ok (.getfield 67, 3) := by decide +kernel
theorem dX11_reckonRows_22 : decode cX11_reckonRows 22 = .ok (.iload_n 2, 1) := by decide +kernel
theorem dX11_reckonRows_23 : decode cX11_reckonRows 23 = .ok (.invokevirtual 237, 3) := by decide +kernel
theorem dX11_reckonRows_26 : decode cX11_reckonRows 26 = .ok (.iinc 2 1, 3) := by decide +kernel
theorem dX11_reckonRows_29 : decode cX11_reckonRows 29 = .ok (.goto (-19), 3) := by decide +kernel
theorem dX11_reckonRows_32 : decode cX11_reckonRows 32 = .ok (.return_, 1) := by decide +kernel
abbrev rm_X11_reckonRows : Room := { frames := 4, cells := 0, slots := 0, locals := 89 }
set_option maxRecDepth 100000 in
set_option maxHeartbeats 4000000 in
theorem ct_X11_reckonRows {w : Wd} {l : Launch} {a1 : Int} {σ : St} {σ' : St} (ia1 : InI a1) (h : m_X11_reckonRows a1 σ = some σ') : Ct w l yX11_reckonRows (Cond.code yX11_reckonRows cX11_reckonRows 3 none :: TB) rm_X11_reckonRows [rv w 0, iv a1] σ none True σ' := by
  refine Ct.of2 [some (rv w 0), some (iv a1), none] 1 rfl pn_RX11 (Nat.le_of_ble_eq_true rfl) ?_
  intro p e s m args below meth c C hr hlk
  unfold m_X11_reckonRows at h
  refine g_aload_n C dX11_reckonRows_0 rfl ?_
  refine g_getR (j := 4) C dX11_reckonRows_1 rfl (Nat.le_of_ble_eq_true rfl) (Nat.le_of_ble_eq_true rfl) fl_11_50 rfl rfl (r := 30) rfl ?_
  refine g_iload_n C dX11_reckonRows_4 rfl ?_
  obtain ⟨σ1, qσ1, h⟩ := bnd h
  refine g_callV0 (As := [iv a1]) C dX11_reckonRows_5 mi_X1_look ml_11_169 (ct_X1_look ia1 qσ1) rfl rfl ⟨rfl, rfl⟩ ⟨Nat.le_of_ble_eq_true rfl, Nat.le_of_ble_eq_true rfl⟩ ⟨Nat.zero_le _, Nat.zero_le _⟩ rfl (Nat.le_of_ble_eq_true rfl) (fun _ => ?_)
  refine g_iconst C dX11_reckonRows_8 ?_
  refine g_istore_n (L1 := [some (rv w 0), some (iv a1), some (iv 0)]) C dX11_reckonRows_9 rfl (Nat.le_of_ble_eq_true rfl) rfl ?_
  refine g_mask [true, false, true] ?_
  obtain ⟨b2, hb2, hF2⟩ := bnd h
  have hX2 : ∀ (σ8 : St) , σ8 = b2 → GM w p l e rm_X11_reckonRows s m args below meth c none True σ' 3 32 [none, none, none] [] σ8 := by
    intro σ8 q
    subst q
    have h := hF2
    exact g_vretP C dX11_reckonRows_32 hr hlk h
  have hL2 : ∀ (n : Nat) (x3 : Int) (σ4 : St) , InI x3 → lpN (fun a => m_X11_reckonRows_L10 a.1 a.2) n (x3, σ4) = some b2 → GM w p l e rm_X11_reckonRows s m args below meth c none True σ' 3 10 [some (rv w 0), none, some (iv x3)] [] σ4 := by
    intro n
    induction n with
    | zero => intro x3 σ4 ix3 q; cases q
    | succ n ih2 =>
      intro x3 σ4 ix3 q
      obtain ⟨o2, h, hk2⟩ := lp_step q
      replace h : m_X11_reckonRows_L10 x3 σ4 = some o2 := h
      unfold m_X11_reckonRows_L10 at h
      refine g_iload_n C dX11_reckonRows_10 rfl ?_
      refine g_aload_n C dX11_reckonRows_11 rfl ?_
      refine g_getI (j := 6) C dX11_reckonRows_12 rfl (Nat.le_of_ble_eq_true rfl) (Nat.le_of_ble_eq_true rfl) fl_11_126 rfl rfl (fun i5 => ?_)
      refine g_icmp_ge C dX11_reckonRows_15 ix3 i5 rfl (tgt := 32) (fun c6 => ?_) (fun c6 => ?_)
      · have h := ifT c6 h
        refine g_mask [false, true, false] ?_
        obtain rfl := Option.some.inj h
        exact hX2 σ4 (lpR hk2).symm
      · have h := ifF c6 h
        refine g_aload_n C dX11_reckonRows_18 rfl ?_
        refine g_getR (j := 8) C dX11_reckonRows_19 rfl (Nat.le_of_ble_eq_true rfl) (Nat.le_of_ble_eq_true rfl) fl_11_67 rfl rfl (r := 95) rfl ?_
        refine g_iload_n C dX11_reckonRows_22 rfl ?_
        obtain ⟨σ7, qσ7, h⟩ := bnd h
        refine g_callV0 (As := [iv x3]) C dX11_reckonRows_23 mi_X6_reckon ml_11_237 (ct_X6_reckon ix3 qσ7) rfl rfl ⟨rfl, rfl⟩ ⟨Nat.le_of_ble_eq_true rfl, Nat.le_of_ble_eq_true rfl⟩ ⟨Nat.zero_le _, Nat.zero_le _⟩ rfl (Nat.le_of_ble_eq_true rfl) (fun _ => ?_)
        refine g_iinc (L1 := [some (rv w 0), none, some (iv (wr (x3 + 1)))]) C dX11_reckonRows_26 rfl rfl (Nat.le_of_ble_eq_true rfl) rfl ?_
        refine g_goto C dX11_reckonRows_29 rfl (tgt := 10) ?_
        obtain rfl := Option.some.inj h
        exact ih2 _ _ (iwr _) (lpL hk2)
  exact hL2 FU _ _ (by decide) hb2
theorem dX11_could_0 : decode cX11_could 0 = .ok (.aload_n 0, 1) := by decide +kernel
theorem dX11_could_1 : decode cX11_could 1 = .ok (.iload_n 1, 1) := by decide +kernel
theorem dX11_could_2 : decode cX11_could 2 = .ok (.invokevirtual 243, 3) := by decide +kernel
theorem dX11_could_5 : decode cX11_could 5 = .ok (.ifCond .eq 31, 3) := by decide +kernel
theorem dX11_could_8 : decode cX11_could 8 = .ok (.iload_n 2, 1) := by decide +kernel
theorem dX11_could_9 : decode cX11_could 9 = .ok (.invokestatic 152, 3) := by decide +kernel
theorem dX11_could_12 : decode cX11_could 12 = .ok (.ifCond .eq 24, 3) := by decide +kernel
theorem dX11_could_15 : decode cX11_could 15 = .ok (.iload_n 3, 1) := by decide +kernel
theorem dX11_could_16 : decode cX11_could 16 = .ok (.invokestatic 152, 3) := by decide +kernel
theorem dX11_could_19 : decode cX11_could 19 = .ok (.ifCond .eq 17, 3) := by decide +kernel
theorem dX11_could_22 : decode cX11_could 22 = .ok (.iload_n 3, 1) := by decide +kernel
theorem dX11_could_23 : decode cX11_could 23 = .ok (.iload_n 2, 1) := by decide +kernel
theorem dX11_could_24 : decode cX11_could 24 = .ok (.if_icmp .lt 12, 3) := by decide +kernel
theorem dX11_could_27 : decode cX11_could 27 = .ok (.aload_n 0, 1) := by decide +kernel
theorem dX11_could_28 : decode cX11_could 28 = .ok (.iload 5, 2) := by decide +kernel
theorem dX11_could_30 : decode cX11_could 30 = .ok (.invokevirtual 166, 3) := by decide +kernel
theorem dX11_could_33 : decode cX11_could 33 = .ok (.ifCond .ne 5, 3) := by decide +kernel
theorem dX11_could_36 : decode cX11_could 36 = .ok (.iconst (-1), 1) := by decide +kernel
theorem dX11_could_37 : decode cX11_could 37 = .ok (.ireturn, 1) := by decide +kernel
theorem dX11_could_38 : decode cX11_could 38 = .ok (.aload_n 0, 1) := by decide +kernel
theorem dX11_could_39 : decode cX11_could 39 = .ok (.iload 5, 2) := by decide +kernel
theorem dX11_could_41 : decode cX11_could 41 = .ok (.invokevirtual 246, 3) := by decide +kernel
theorem dX11_could_44 : decode cX11_could 44 = .ok (.aload_n 0, 1) := by decide +kernel
theorem dX11_could_45 : decode cX11_could 45 = .ok (.getfield 76, 3) := by decide +kernel
theorem dX11_could_48 : decode cX11_could 48 = .ok (.iload_n 1, 1) := by decide +kernel
theorem dX11_could_49 : decode cX11_could 49 = .ok (.iload_n 2, 1) := by decide +kernel
theorem dX11_could_50 : decode cX11_could 50 = .ok (.iload 4, 2) := by decide +kernel
theorem dX11_could_52 : decode cX11_could 52 = .ok (.aload_n 0, 1) := by decide +kernel
theorem dX11_could_53 : decode cX11_could 53 = .ok (.getfield 126, 3) := by decide +kernel
theorem dX11_could_56 : decode cX11_could 56 = .ok (.invokevirtual 249, 3) := by decide +kernel
theorem dX11_could_59 : decode cX11_could 59 = .ok (.aload_n 0, 1) := by decide +kernel
theorem dX11_could_60 : decode cX11_could 60 = .ok (.getfield 76, 3) := by decide +kernel
theorem dX11_could_63 : decode cX11_could 63 = .ok (.iload_n 3, 1) := by decide +kernel
theorem dX11_could_64 : decode cX11_could 64 = .ok (.invokevirtual 253, 3) := by decide +kernel
theorem dX11_could_67 : decode cX11_could 67 = .ok (.ireturn, 1) := by decide +kernel
abbrev rm_X11_could : Room := { frames := 5, cells := 0, slots := 0, locals := 111 }
set_option maxRecDepth 100000 in
set_option maxHeartbeats 4000000 in
theorem ct_X11_could {w : Wd} {l : Launch} {a1 : Int} {a2 : Int} {a3 : Int} {a4 : Int} {a5 : Int} {σ : St} {y : Int} {σ' : St} (ia1 : InI a1) (ia2 : InI a2) (ia3 : InI a3) (ia4 : InZ a4) (ia5 : InI a5) (h : m_X11_could a1 a2 a3 a4 a5 σ = some (y, σ')) : Ct w l yX11_could (Cond.code yX11_could cX11_could 6 (some .int) :: TB) rm_X11_could [rv w 0, iv a1, iv a2, iv a3, iv a4, iv a5] σ (some (iv y)) (InI y) σ' := by
  refine Ct.of2 [some (rv w 0), some (iv a1), some (iv a2), some (iv a3), some (iv a4), some (iv a5)] 0 rfl pn_RX11 (Nat.le_of_ble_eq_true rfl) ?_
  intro p e s m args below meth c C hr hlk
  unfold m_X11_could at h
  refine g_aload_n C dX11_could_0 rfl ?_
  refine g_iload_n C dX11_could_1 rfl ?_
  obtain ⟨x1, qx1, h⟩ := bnd h
  refine g_callV1 (As := [iv a1]) C dX11_could_2 mi_X11_isSet ml_11_243 (ct_X11_isSet ia1 qx1) rfl rfl ⟨rfl, rfl⟩ ⟨Nat.le_of_ble_eq_true rfl, Nat.le_of_ble_eq_true rfl⟩ ⟨Nat.zero_le _, Nat.zero_le _⟩ rfl (Nat.le_of_ble_eq_true rfl) (fun ix1 => ?_)
  refine g_if_eq C dX11_could_5 (zI ix1) rfl (tgt := 36) (fun c2 => ?_) (fun c2 => ?_)
  · have h := ifT c2 h
    refine g_iconst C dX11_could_36 ?_
    exact g_iretP C dX11_could_37 hr hlk h (by decide)
  · have h := ifF c2 h
    refine g_iload_n C dX11_could_8 rfl ?_
    obtain ⟨x3, qx3, h⟩ := bnd h
    refine g_callS1 (As := [iv a2]) C dX11_could_9 mi_X11_isTick ml_11_152 (ct_X11_isTick ia2 qx3) rfl ⟨rfl, rfl⟩ ⟨Nat.le_of_ble_eq_true rfl, Nat.le_of_ble_eq_true rfl⟩ ⟨Nat.zero_le _, Nat.zero_le _⟩ rfl (Nat.le_of_ble_eq_true rfl) (fun ix3 => ?_)
    refine g_if_eq C dX11_could_12 (zI ix3) rfl (tgt := 36) (fun c4 => ?_) (fun c4 => ?_)
    · have h := ifT c4 h
      refine g_iconst C dX11_could_36 ?_
      exact g_iretP C dX11_could_37 hr hlk h (by decide)
    · have h := ifF c4 h
      refine g_iload_n C dX11_could_15 rfl ?_
      obtain ⟨x5, qx5, h⟩ := bnd h
      refine g_callS1 (As := [iv a3]) C dX11_could_16 mi_X11_isTick ml_11_152 (ct_X11_isTick ia3 qx5) rfl ⟨rfl, rfl⟩ ⟨Nat.le_of_ble_eq_true rfl, Nat.le_of_ble_eq_true rfl⟩ ⟨Nat.zero_le _, Nat.zero_le _⟩ rfl (Nat.le_of_ble_eq_true rfl) (fun ix5 => ?_)
      refine g_if_eq C dX11_could_19 (zI ix5) rfl (tgt := 36) (fun c6 => ?_) (fun c6 => ?_)
      · have h := ifT c6 h
        refine g_iconst C dX11_could_36 ?_
        exact g_iretP C dX11_could_37 hr hlk h (by decide)
      · have h := ifF c6 h
        refine g_iload_n C dX11_could_22 rfl ?_
        refine g_iload_n C dX11_could_23 rfl ?_
        refine g_icmp_lt C dX11_could_24 ia3 ia2 rfl (tgt := 36) (fun c7 => ?_) (fun c7 => ?_)
        · have h := ifT c7 h
          refine g_iconst C dX11_could_36 ?_
          exact g_iretP C dX11_could_37 hr hlk h (by decide)
        · have h := ifF c7 h
          refine g_aload_n C dX11_could_27 rfl ?_
          refine g_iload C dX11_could_28 rfl ?_
          obtain ⟨x8, qx8, h⟩ := bnd h
          refine g_callV1 (As := [iv a5]) C dX11_could_30 mi_X11_isKnowledge ml_11_166 (ct_X11_isKnowledge ia5 qx8) rfl rfl ⟨rfl, rfl⟩ ⟨Nat.le_of_ble_eq_true rfl, Nat.le_of_ble_eq_true rfl⟩ ⟨Nat.zero_le _, Nat.zero_le _⟩ rfl (Nat.le_of_ble_eq_true rfl) (fun ix8 => ?_)
          refine g_if_ne C dX11_could_33 (zI ix8) rfl (tgt := 38) (fun c9 => ?_) (fun c9 => ?_)
          · have h := ifF c9 h
            refine g_aload_n C dX11_could_38 rfl ?_
            refine g_iload C dX11_could_39 rfl ?_
            obtain ⟨σ10, qσ10, h⟩ := bnd h
            refine g_callV0 (As := [iv a5]) C dX11_could_41 mi_X11_reckonRows ml_11_246 (ct_X11_reckonRows ia5 qσ10) rfl rfl ⟨rfl, rfl⟩ ⟨Nat.le_of_ble_eq_true rfl, Nat.le_of_ble_eq_true rfl⟩ ⟨Nat.zero_le _, Nat.zero_le _⟩ rfl (Nat.le_of_ble_eq_true rfl) (fun _ => ?_)
            refine g_aload_n C dX11_could_44 rfl ?_
            refine g_getR (j := 9) C dX11_could_45 rfl (Nat.le_of_ble_eq_true rfl) (Nat.le_of_ble_eq_true rfl) fl_11_76 rfl rfl (r := 153) rfl ?_
            refine g_iload_n C dX11_could_48 rfl ?_
            refine g_iload_n C dX11_could_49 rfl ?_
            refine g_iload C dX11_could_50 rfl ?_
            refine g_aload_n C dX11_could_52 rfl ?_
            refine g_getI (j := 6) C dX11_could_53 rfl (Nat.le_of_ble_eq_true rfl) (Nat.le_of_ble_eq_true rfl) fl_11_126 rfl rfl (fun i11 => ?_)
            obtain ⟨σ12, qσ12, h⟩ := bnd h
            refine g_callV0 (As := [iv a1, iv a2, iv a4, iv (σ10 0 6)]) C dX11_could_56 mi_X7_spread ml_11_249 (ct_X7_spread ia1 ia2 ia4 i11 qσ12) rfl rfl ⟨rfl, rfl⟩ ⟨Nat.le_of_ble_eq_true rfl, Nat.le_of_ble_eq_true rfl⟩ ⟨Nat.zero_le _, Nat.zero_le _⟩ rfl (Nat.le_of_ble_eq_true rfl) (fun _ => ?_)
            refine g_aload_n C dX11_could_59 rfl ?_
            refine g_getR (j := 9) C dX11_could_60 rfl (Nat.le_of_ble_eq_true rfl) (Nat.le_of_ble_eq_true rfl) fl_11_76 rfl rfl (r := 153) rfl ?_
            refine g_iload_n C dX11_could_63 rfl ?_
            obtain ⟨x13, qx13, h⟩ := bnd h
            refine g_callV1 (As := [iv a3]) C dX11_could_64 mi_X7_knowersBy ml_11_253 (ct_X7_knowersBy ia3 qx13) rfl rfl ⟨rfl, rfl⟩ ⟨Nat.le_of_ble_eq_true rfl, Nat.le_of_ble_eq_true rfl⟩ ⟨Nat.zero_le _, Nat.zero_le _⟩ rfl (Nat.le_of_ble_eq_true rfl) (fun ix13 => ?_)
            exact g_iretP C dX11_could_67 hr hlk h ix13
          · have h := ifT c9 h
            refine g_iconst C dX11_could_36 ?_
            exact g_iretP C dX11_could_37 hr hlk h (by decide)
theorem dX11_since_0 : decode cX11_since 0 = .ok (.aload_n 0, 1) := by decide +kernel
theorem dX11_since_1 : decode cX11_since 1 = .ok (.iload_n 1, 1) := by decide +kernel
theorem dX11_since_2 : decode cX11_since 2 = .ok (.invokevirtual 135, 3) := by decide +kernel
theorem dX11_since_5 : decode cX11_since 5 = .ok (.ifCond .eq 27, 3) := by decide +kernel
theorem dX11_since_8 : decode cX11_since 8 = .ok (.aload_n 0, 1) := by decide +kernel
theorem dX11_since_9 : decode cX11_since 9 = .ok (.iload_n 2, 1) := by decide +kernel
theorem dX11_since_10 : decode cX11_since 10 = .ok (.invokevirtual 243, 3) := by decide +kernel
theorem dX11_since_13 : decode cX11_since 13 = .ok (.ifCond .eq 19, 3) := by decide +kernel
theorem dX11_since_16 : decode cX11_since 16 = .ok (.iload_n 3, 1) := by decide +kernel
theorem dX11_since_17 : decode cX11_since 17 = .ok (.invokestatic 152, 3) := by decide +kernel
theorem dX11_since_20 : decode cX11_since 20 = .ok (.ifCond .eq 12, 3) := by decide +kernel
theorem dX11_since_23 : decode cX11_since 23 = .ok (.aload_n 0, 1) := by decide +kernel
theorem dX11_since_24 : decode cX11_since 24 = .ok (.iload 5, 2) := by decide +kernel
theorem dX11_since_26 : decode cX11_since 26 = .ok (.invokevirtual 166, 3) := by decide +kernel
theorem dX11_since_29 : decode cX11_since 29 = .ok (.ifCond .ne 5, 3) := by decide +kernel
theorem dX11_since_32 : decode cX11_since 32 = .ok (.iconst (-1), 1) := by decide +kernel
theorem dX11_since_33 : decode cX11_since 33 = .ok (.ireturn, 1) := by decide +kernel
theorem dX11_since_34 : decode cX11_since 34 = .ok (.aload_n 0, 1) := by decide +kernel
theorem dX11_since_35 : decode cX11_since 35 = .ok (.iload 5, 2) := by decide +kernel
theorem dX11_since_37 : decode cX11_since 37 = .ok (.invokevirtual 246, 3) := by decide +kernel
theorem dX11_since_40 : decode cX11_since 40 = .ok (.aload_n 0, 1) := by decide +kernel
theorem dX11_since_41 : decode cX11_since 41 = .ok (.getfield 76, 3) := by decide +kernel
theorem dX11_since_44 : decode cX11_since 44 = .ok (.iload_n 2, 1) := by decide +kernel
theorem dX11_since_45 : decode cX11_since 45 = .ok (.iload_n 3, 1) := by decide +kernel
theorem dX11_since_46 : decode cX11_since 46 = .ok (.iload 4, 2) := by decide +kernel
theorem dX11_since_48 : decode cX11_since 48 = .ok (.aload_n 0, 1) := by decide +kernel
theorem dX11_since_49 : decode cX11_since 49 = .ok (.getfield 126, 3) := by decide +kernel
theorem dX11_since_52 : decode cX11_since 52 = .ok (.invokevirtual 249, 3) := by decide +kernel
theorem dX11_since_55 : decode cX11_since 55 = .ok (.aload_n 0, 1) := by decide +kernel
theorem dX11_since_56 : decode cX11_since 56 = .ok (.getfield 76, 3) := by decide +kernel
theorem dX11_since_59 : decode cX11_since 59 = .ok (.getfield 256, 3) := by decide +kernel
theorem dX11_since_62 : decode cX11_since 62 = .ok (.iload_n 1, 1) := by decide +kernel
theorem dX11_since_63 : decode cX11_since 63 = .ok (.iaload, 1) := by decide +kernel
theorem dX11_since_64 : decode cX11_since 64 = .ok (.ireturn, 1) := by decide +kernel
abbrev rm_X11_since : Room := { frames := 5, cells := 0, slots := 0, locals := 111 }
set_option maxRecDepth 100000 in
set_option maxHeartbeats 4000000 in
theorem ct_X11_since {w : Wd} {l : Launch} {a1 : Int} {a2 : Int} {a3 : Int} {a4 : Int} {a5 : Int} {σ : St} {y : Int} {σ' : St} (ia1 : InI a1) (ia2 : InI a2) (ia3 : InI a3) (ia4 : InZ a4) (ia5 : InI a5) (h : m_X11_since a1 a2 a3 a4 a5 σ = some (y, σ')) : Ct w l yX11_since (Cond.code yX11_since cX11_since 6 (some .int) :: TB) rm_X11_since [rv w 0, iv a1, iv a2, iv a3, iv a4, iv a5] σ (some (iv y)) (InI y) σ' := by
  refine Ct.of2 [some (rv w 0), some (iv a1), some (iv a2), some (iv a3), some (iv a4), some (iv a5)] 0 rfl pn_RX11 (Nat.le_of_ble_eq_true rfl) ?_
  intro p e s m args below meth c C hr hlk
  unfold m_X11_since at h
  refine g_aload_n C dX11_since_0 rfl ?_
  refine g_iload_n C dX11_since_1 rfl ?_
  obtain ⟨x1, qx1, h⟩ := bnd h
  refine g_callV1 (As := [iv a1]) C dX11_since_2 mi_X11_isAgent ml_11_135 (ct_X11_isAgent ia1 qx1) rfl rfl ⟨rfl, rfl⟩ ⟨Nat.le_of_ble_eq_true rfl, Nat.le_of_ble_eq_true rfl⟩ ⟨Nat.zero_le _, Nat.zero_le _⟩ rfl (Nat.le_of_ble_eq_true rfl) (fun ix1 => ?_)
  refine g_if_eq C dX11_since_5 (zI ix1) rfl (tgt := 32) (fun c2 => ?_) (fun c2 => ?_)
  · have h := ifT c2 h
    refine g_iconst C dX11_since_32 ?_
    exact g_iretP C dX11_since_33 hr hlk h (by decide)
  · have h := ifF c2 h
    refine g_aload_n C dX11_since_8 rfl ?_
    refine g_iload_n C dX11_since_9 rfl ?_
    obtain ⟨x3, qx3, h⟩ := bnd h
    refine g_callV1 (As := [iv a2]) C dX11_since_10 mi_X11_isSet ml_11_243 (ct_X11_isSet ia2 qx3) rfl rfl ⟨rfl, rfl⟩ ⟨Nat.le_of_ble_eq_true rfl, Nat.le_of_ble_eq_true rfl⟩ ⟨Nat.zero_le _, Nat.zero_le _⟩ rfl (Nat.le_of_ble_eq_true rfl) (fun ix3 => ?_)
    refine g_if_eq C dX11_since_13 (zI ix3) rfl (tgt := 32) (fun c4 => ?_) (fun c4 => ?_)
    · have h := ifT c4 h
      refine g_iconst C dX11_since_32 ?_
      exact g_iretP C dX11_since_33 hr hlk h (by decide)
    · have h := ifF c4 h
      refine g_iload_n C dX11_since_16 rfl ?_
      obtain ⟨x5, qx5, h⟩ := bnd h
      refine g_callS1 (As := [iv a3]) C dX11_since_17 mi_X11_isTick ml_11_152 (ct_X11_isTick ia3 qx5) rfl ⟨rfl, rfl⟩ ⟨Nat.le_of_ble_eq_true rfl, Nat.le_of_ble_eq_true rfl⟩ ⟨Nat.zero_le _, Nat.zero_le _⟩ rfl (Nat.le_of_ble_eq_true rfl) (fun ix5 => ?_)
      refine g_if_eq C dX11_since_20 (zI ix5) rfl (tgt := 32) (fun c6 => ?_) (fun c6 => ?_)
      · have h := ifT c6 h
        refine g_iconst C dX11_since_32 ?_
        exact g_iretP C dX11_since_33 hr hlk h (by decide)
      · have h := ifF c6 h
        refine g_aload_n C dX11_since_23 rfl ?_
        refine g_iload C dX11_since_24 rfl ?_
        obtain ⟨x7, qx7, h⟩ := bnd h
        refine g_callV1 (As := [iv a5]) C dX11_since_26 mi_X11_isKnowledge ml_11_166 (ct_X11_isKnowledge ia5 qx7) rfl rfl ⟨rfl, rfl⟩ ⟨Nat.le_of_ble_eq_true rfl, Nat.le_of_ble_eq_true rfl⟩ ⟨Nat.zero_le _, Nat.zero_le _⟩ rfl (Nat.le_of_ble_eq_true rfl) (fun ix7 => ?_)
        refine g_if_ne C dX11_since_29 (zI ix7) rfl (tgt := 34) (fun c8 => ?_) (fun c8 => ?_)
        · have h := ifF c8 h
          refine g_aload_n C dX11_since_34 rfl ?_
          refine g_iload C dX11_since_35 rfl ?_
          obtain ⟨σ9, qσ9, h⟩ := bnd h
          refine g_callV0 (As := [iv a5]) C dX11_since_37 mi_X11_reckonRows ml_11_246 (ct_X11_reckonRows ia5 qσ9) rfl rfl ⟨rfl, rfl⟩ ⟨Nat.le_of_ble_eq_true rfl, Nat.le_of_ble_eq_true rfl⟩ ⟨Nat.zero_le _, Nat.zero_le _⟩ rfl (Nat.le_of_ble_eq_true rfl) (fun _ => ?_)
          refine g_aload_n C dX11_since_40 rfl ?_
          refine g_getR (j := 9) C dX11_since_41 rfl (Nat.le_of_ble_eq_true rfl) (Nat.le_of_ble_eq_true rfl) fl_11_76 rfl rfl (r := 153) rfl ?_
          refine g_iload_n C dX11_since_44 rfl ?_
          refine g_iload_n C dX11_since_45 rfl ?_
          refine g_iload C dX11_since_46 rfl ?_
          refine g_aload_n C dX11_since_48 rfl ?_
          refine g_getI (j := 6) C dX11_since_49 rfl (Nat.le_of_ble_eq_true rfl) (Nat.le_of_ble_eq_true rfl) fl_11_126 rfl rfl (fun i10 => ?_)
          obtain ⟨σ11, qσ11, h⟩ := bnd h
          refine g_callV0 (As := [iv a2, iv a3, iv a4, iv (σ9 0 6)]) C dX11_since_52 mi_X7_spread ml_11_249 (ct_X7_spread ia2 ia3 ia4 i10 qσ11) rfl rfl ⟨rfl, rfl⟩ ⟨Nat.le_of_ble_eq_true rfl, Nat.le_of_ble_eq_true rfl⟩ ⟨Nat.zero_le _, Nat.zero_le _⟩ rfl (Nat.le_of_ble_eq_true rfl) (fun _ => ?_)
          refine g_aload_n C dX11_since_55 rfl ?_
          refine g_getR (j := 9) C dX11_since_56 rfl (Nat.le_of_ble_eq_true rfl) (Nat.le_of_ble_eq_true rfl) fl_11_76 rfl rfl (r := 153) rfl ?_
          refine g_getR (j := 0) C dX11_since_59 rfl (Nat.le_of_ble_eq_true rfl) (Nat.le_of_ble_eq_true rfl) fl_11_256 rfl rfl (r := 154) rfl ?_
          refine g_iload_n C dX11_since_62 rfl ?_
          obtain ⟨x12, qx12, h⟩ := bnd h
          refine g_iald C dX11_since_63 rfl rfl qx12 ia1 (fun ix12 => ?_)
          exact g_iretP C dX11_since_64 hr hlk h ix12
        · have h := ifT c8 h
          refine g_iconst C dX11_since_32 ?_
          exact g_iretP C dX11_since_33 hr hlk h (by decide)
theorem dX11_touched_0 : decode cX11_touched 0 = .ok (.aload_n 0, 1) := by decide +kernel
theorem dX11_touched_1 : decode cX11_touched 1 = .ok (.iload_n 1, 1) := by decide +kernel
theorem dX11_touched_2 : decode cX11_touched 2 = .ok (.invokevirtual 135, 3) := by decide +kernel
theorem dX11_touched_5 : decode cX11_touched 5 = .ok (.ifCond .eq 11, 3) := by decide +kernel
theorem dX11_touched_8 : decode cX11_touched 8 = .ok (.aload_n 0, 1) := by decide +kernel
theorem dX11_touched_9 : decode cX11_touched 9 = .ok (.iload_n 2, 1) := by decide +kernel
theorem dX11_touched_10 : decode cX11_touched 10 = .ok (.invokevirtual 166, 3) := by decide +kernel
theorem dX11_touched_13 : decode cX11_touched 13 = .ok (.ifCond .ne 5, 3) := by decide +kernel
theorem dX11_touched_16 : decode cX11_touched 16 = .ok (.iconst (-1), 1) := by decide +kernel
theorem dX11_touched_17 : decode cX11_touched 17 = .ok (.ireturn, 1) := by decide +kernel
theorem dX11_touched_18 : decode cX11_touched 18 = .ok (.aload_n 0, 1) := by decide +kernel
theorem dX11_touched_19 : decode cX11_touched 19 = .ok (.iload_n 2, 1) := by decide +kernel
theorem dX11_touched_20 : decode cX11_touched 20 = .ok (.invokevirtual 246, 3) := by decide +kernel
theorem dX11_touched_23 : decode cX11_touched 23 = .ok (.aload_n 0, 1) := by decide +kernel
theorem dX11_touched_24 : decode cX11_touched 24 = .ok (.getfield 50, 3) := by decide +kernel
theorem dX11_touched_27 : decode cX11_touched 27 = .ok (.iload_n 1, 1) := by decide +kernel
theorem dX11_touched_28 : decode cX11_touched 28 = .ok (.invokevirtual 259, 3) := by decide +kernel
theorem dX11_touched_31 : decode cX11_touched 31 = .ok (.istore_n 3, 1) := by decide +kernel
theorem dX11_touched_32 : decode cX11_touched 32 = .ok (.iload_n 3, 1) := by decide +kernel
theorem dX11_touched_33 : decode cX11_touched 33 = .ok (.iconst (-1), 1) := by decide +kernel
theorem dX11_touched_34 : decode cX11_touched 34 = .ok (.if_icmp .ne 5, 3) := by decide +kernel
theorem dX11_touched_37 : decode cX11_touched 37 = .ok (.iconst (-1), 1) := by decide +kernel
theorem dX11_touched_38 : decode cX11_touched 38 = .ok (.ireturn, 1) := by decide +kernel
theorem dX11_touched_39 : decode cX11_touched 39 = .ok (.iconst 0, 1) := by decide +kernel
theorem dX11_touched_40 : decode cX11_touched 40 = .ok (.istore 4, 2) := by decide +kernel
theorem dX11_touched_42 : decode cX11_touched 42 = .ok (.iconst 0, 1) := by decide +kernel
theorem dX11_touched_43 : decode cX11_touched 43 = .ok (.istore 5, 2) := by decide +kernel
theorem dX11_touched_45 : decode cX11_touched 45 = .ok (.iload 5, 2) := by decide +kernel
theorem dX11_touched_47 : decode cX11_touched 47 = .ok (.aload_n 0, 1) := by decide +kernel
theorem dX11_touched_48 : decode cX11_touched 48 = .ok (.getfield 126, 3) := by decide +kernel
theorem dX11_touched_51 : decode cX11_touched 51 = .ok (.if_icmp .ge 38, 3) := by decide +kernel
theorem dX11_touched_54 : decode cX11_touched 54 = .ok (.iload 5, 2) := by decide +kernel
theorem dX11_touched_56 : decode cX11_touched 56 = .ok (.iload_n 1, 1) := by decide +kernel
theorem dX11_touched_57 : decode cX11_touched 57 = .ok (.if_icmp .eq 26, 3) := by decide +kernel
theorem dX11_touched_60 : decode cX11_touched 60 = .ok (.aload_n 0, 1) := by decide +kernel
theorem dX11_touched_61 : decode cX11_touched 61 = .ok (.getfield 67, 3) := by decide +kernel
theorem dX11_touched_64 : decode cX11_touched 64 = .ok (.iload_n 1, 1) := by decide +kernel
theorem dX11_touched_65 : decode cX11_touched 65 = .ok (.iload 5, 2) := by decide +kernel
theorem dX11_touched_67 : decode cX11_touched 67 = .ok (.iload_n 3, 1) := by decide +kernel
theorem dX11_touched_68 : decode cX11_touched 68 = .ok (.invokevirtual 262, 3) := by decide +kernel
theorem dX11_touched_71 : decode cX11_touched 71 = .ok (.ifCond .eq 12, 3) := by decide +kernel
theorem dX11_touched_74 : decode cX11_touched 74 = .ok (.iload 4, 2) := by decide +kernel
theorem dX11_touched_76 : decode cX11_touched 76 = .ok (.iconst 1, 1) := by decide +kernel
theorem dX11_touched_77 : decode cX11_touched 77 = .ok (.iload 5, 2) := by decide +kernel
theorem dX11_touched_79 : decode cX11_touched 79 = .ok (.ishl, 1) := by decide +kernel
theorem dX11_touched_80 : decode cX11_touched 80 = .ok (.ior, 1) := by decide +kernel
theorem dX11_touched_81 : decode cX11_touched 81 = .ok (.istore 4, 2) := by decide +kernel
theorem dX11_touched_83 : decode cX11_touched 83 = .ok (.iinc 5 1, 3) := by decide +kernel
theorem dX11_touched_86 : decode cX11_touched 86 = .ok (.goto (-41), 3) := by decide +kernel
theorem dX11_touched_89 : decode cX11_touched 89 = .ok (.iload 4, 2) := by decide +kernel
theorem dX11_touched_91 : decode cX11_touched 91 = .ok (.ireturn, 1) := by decide +kernel
abbrev rm_X11_touched : Room := { frames := 5, cells := 0, slots := 0, locals := 111 }
set_option maxRecDepth 100000 in
set_option maxHeartbeats 4000000 in
theorem ct_X11_touched {w : Wd} {l : Launch} {a1 : Int} {a2 : Int} {σ : St} {y : Int} {σ' : St} (ia1 : InI a1) (ia2 : InI a2) (h : m_X11_touched a1 a2 σ = some (y, σ')) : Ct w l yX11_touched (Cond.code yX11_touched cX11_touched 6 (some .int) :: TB) rm_X11_touched [rv w 0, iv a1, iv a2] σ (some (iv y)) (InI y) σ' := by
  refine Ct.of2 [some (rv w 0), some (iv a1), some (iv a2), none, none, none] 3 rfl pn_RX11 (Nat.le_of_ble_eq_true rfl) ?_
  intro p e s m args below meth c C hr hlk
  unfold m_X11_touched at h
  refine g_aload_n C dX11_touched_0 rfl ?_
  refine g_iload_n C dX11_touched_1 rfl ?_
  obtain ⟨x1, qx1, h⟩ := bnd h
  refine g_callV1 (As := [iv a1]) C dX11_touched_2 mi_X11_isAgent ml_11_135 (ct_X11_isAgent ia1 qx1) rfl rfl ⟨rfl, rfl⟩ ⟨Nat.le_of_ble_eq_true rfl, Nat.le_of_ble_eq_true rfl⟩ ⟨Nat.zero_le _, Nat.zero_le _⟩ rfl (Nat.le_of_ble_eq_true rfl) (fun ix1 => ?_)
  refine g_if_eq C dX11_touched_5 (zI ix1) rfl (tgt := 16) (fun c2 => ?_) (fun c2 => ?_)
  · have h := ifT c2 h
    refine g_iconst C dX11_touched_16 ?_
    exact g_iretP C dX11_touched_17 hr hlk h (by decide)
  · have h := ifF c2 h
    refine g_aload_n C dX11_touched_8 rfl ?_
    refine g_iload_n C dX11_touched_9 rfl ?_
    obtain ⟨x3, qx3, h⟩ := bnd h
    refine g_callV1 (As := [iv a2]) C dX11_touched_10 mi_X11_isKnowledge ml_11_166 (ct_X11_isKnowledge ia2 qx3) rfl rfl ⟨rfl, rfl⟩ ⟨Nat.le_of_ble_eq_true rfl, Nat.le_of_ble_eq_true rfl⟩ ⟨Nat.zero_le _, Nat.zero_le _⟩ rfl (Nat.le_of_ble_eq_true rfl) (fun ix3 => ?_)
    refine g_if_ne C dX11_touched_13 (zI ix3) rfl (tgt := 18) (fun c4 => ?_) (fun c4 => ?_)
    · have h := ifF c4 h
      refine g_aload_n C dX11_touched_18 rfl ?_
      refine g_iload_n C dX11_touched_19 rfl ?_
      obtain ⟨σ5, qσ5, h⟩ := bnd h
      refine g_callV0 (As := [iv a2]) C dX11_touched_20 mi_X11_reckonRows ml_11_246 (ct_X11_reckonRows ia2 qσ5) rfl rfl ⟨rfl, rfl⟩ ⟨Nat.le_of_ble_eq_true rfl, Nat.le_of_ble_eq_true rfl⟩ ⟨Nat.zero_le _, Nat.zero_le _⟩ rfl (Nat.le_of_ble_eq_true rfl) (fun _ => ?_)
      refine g_aload_n C dX11_touched_23 rfl ?_
      refine g_getR (j := 4) C dX11_touched_24 rfl (Nat.le_of_ble_eq_true rfl) (Nat.le_of_ble_eq_true rfl) fl_11_50 rfl rfl (r := 30) rfl ?_
      refine g_iload_n C dX11_touched_27 rfl ?_
      obtain ⟨x6, qx6, h⟩ := bnd h
      refine g_callV1 (As := [iv a1]) C dX11_touched_28 mi_X1_turnedFrom ml_11_259 (ct_X1_turnedFrom ia1 qx6) rfl rfl ⟨rfl, rfl⟩ ⟨Nat.le_of_ble_eq_true rfl, Nat.le_of_ble_eq_true rfl⟩ ⟨Nat.zero_le _, Nat.zero_le _⟩ rfl (Nat.le_of_ble_eq_true rfl) (fun ix6 => ?_)
      refine g_istore_n (L1 := [some (rv w 0), some (iv a1), some (iv a2), some (iv x6), none, none]) C dX11_touched_31 rfl (Nat.le_of_ble_eq_true rfl) rfl ?_
      refine g_iload_n C dX11_touched_32 rfl ?_
      refine g_iconst C dX11_touched_33 ?_
      refine g_icmp_ne C dX11_touched_34 ix6 (by decide) rfl (tgt := 39) (fun c7 => ?_) (fun c7 => ?_)
      · have h := ifF c7 h
        refine g_iconst C dX11_touched_39 ?_
        refine g_istore (L1 := [some (rv w 0), some (iv a1), some (iv a2), some (iv x6), some (iv 0), none]) C dX11_touched_40 rfl (Nat.le_of_ble_eq_true rfl) rfl ?_
        refine g_iconst C dX11_touched_42 ?_
        refine g_istore (L1 := [some (rv w 0), some (iv a1), some (iv a2), some (iv x6), some (iv 0), some (iv 0)]) C dX11_touched_43 rfl (Nat.le_of_ble_eq_true rfl) rfl ?_
        refine g_mask [true, true, false, true, true, true] ?_
        obtain ⟨b8, hb8, hF8⟩ := bnd h
        have hX8 : ∀ (x17 : Int) , InI x17 → x17 = b8 → GM w p l e rm_X11_touched s m args below meth c (some (iv y)) (InI y) σ' 6 89 [none, none, none, none, some (iv x17), none] [] σ5 := by
          intro x17 ix17 q
          subst q
          have h := hF8
          refine g_iload C dX11_touched_89 rfl ?_
          exact g_iretP C dX11_touched_91 hr hlk h ix17
        have hL8 : ∀ (n : Nat) (x9 : Int) (x10 : Int) , InI x9 → InI x10 → lpN (fun a => m_X11_touched_L45 σ5 a1 x6 a.1 a.2) n (x9, x10) = some b8 → GM w p l e rm_X11_touched s m args below meth c (some (iv y)) (InI y) σ' 6 45 [some (rv w 0), some (iv a1), none, some (iv x6), some (iv x9), some (iv x10)] [] σ5 := by
          intro n
          induction n with
          | zero => intro x9 x10 ix9 ix10 q; cases q
          | succ n ih8 =>
            intro x9 x10 ix9 ix10 q
            obtain ⟨o8, h, hk8⟩ := lp_step q
            replace h : m_X11_touched_L45 σ5 a1 x6 x9 x10 = some o8 := h
            unfold m_X11_touched_L45 at h
            refine g_iload C dX11_touched_45 rfl ?_
            refine g_aload_n C dX11_touched_47 rfl ?_
            refine g_getI (j := 6) C dX11_touched_48 rfl (Nat.le_of_ble_eq_true rfl) (Nat.le_of_ble_eq_true rfl) fl_11_126 rfl rfl (fun i11 => ?_)
            refine g_icmp_ge C dX11_touched_51 ix10 i11 rfl (tgt := 89) (fun c12 => ?_) (fun c12 => ?_)
            · have h := ifT c12 h
              refine g_mask [false, false, true, false, true, false] ?_
              obtain rfl := Option.some.inj h
              exact hX8 x9 ix9 (lpR hk8).symm
            · have h := ifF c12 h
              refine g_iload C dX11_touched_54 rfl ?_
              refine g_iload_n C dX11_touched_56 rfl ?_
              refine g_icmp_eq C dX11_touched_57 ix10 ia1 rfl (tgt := 83) (fun c13 => ?_) (fun c13 => ?_)
              · have h := ifT c13 h
                refine g_iinc (L1 := [some (rv w 0), some (iv a1), none, some (iv x6), some (iv x9), some (iv (wr (x10 + 1)))]) C dX11_touched_83 rfl rfl (Nat.le_of_ble_eq_true rfl) rfl ?_
                refine g_goto C dX11_touched_86 rfl (tgt := 45) ?_
                obtain rfl := Option.some.inj h
                exact ih8 _ _ ix9 (iwr _) (lpL hk8)
              · have h := ifF c13 h
                refine g_aload_n C dX11_touched_60 rfl ?_
                refine g_getR (j := 8) C dX11_touched_61 rfl (Nat.le_of_ble_eq_true rfl) (Nat.le_of_ble_eq_true rfl) fl_11_67 rfl rfl (r := 95) rfl ?_
                refine g_iload_n C dX11_touched_64 rfl ?_
                refine g_iload C dX11_touched_65 rfl ?_
                refine g_iload_n C dX11_touched_67 rfl ?_
                obtain ⟨x14, qx14, h⟩ := bnd h
                refine g_callV1 (As := [iv a1, iv x10, iv x6]) C dX11_touched_68 mi_X6_canShare ml_11_262 (ct_X6_canShare ia1 ix10 ix6 qx14) rfl rfl ⟨rfl, rfl⟩ ⟨Nat.le_of_ble_eq_true rfl, Nat.le_of_ble_eq_true rfl⟩ ⟨Nat.zero_le _, Nat.zero_le _⟩ rfl (Nat.le_of_ble_eq_true rfl) (fun ix14 => ?_)
                refine g_if_eq C dX11_touched_71 (zI ix14) rfl (tgt := 83) (fun c15 => ?_) (fun c15 => ?_)
                · have h := ifT c15 h
                  refine g_iinc (L1 := [some (rv w 0), some (iv a1), none, some (iv x6), some (iv x9), some (iv (wr (x10 + 1)))]) C dX11_touched_83 rfl rfl (Nat.le_of_ble_eq_true rfl) rfl ?_
                  refine g_goto C dX11_touched_86 rfl (tgt := 45) ?_
                  obtain rfl := Option.some.inj h
                  exact ih8 _ _ ix9 (iwr _) (lpL hk8)
                · have h := ifF c15 h
                  refine g_iload C dX11_touched_74 rfl ?_
                  refine g_iconst C dX11_touched_76 ?_
                  refine g_iload C dX11_touched_77 rfl ?_
                  refine g_ishl C dX11_touched_79 ?_
                  refine g_ior C dX11_touched_80 ?_
                  obtain ⟨x16, qx16, h⟩ := bnd h
                  have qx16 := Option.some.inj qx16
                  have ix16 : InI x16 := by rw [← qx16]; exact (ior _ _)
                  refine g_E qx16 ?_
                  refine g_istore (L1 := [some (rv w 0), some (iv a1), none, some (iv x6), some (iv x16), some (iv x10)]) C dX11_touched_81 rfl (Nat.le_of_ble_eq_true rfl) rfl ?_
                  refine g_iinc (L1 := [some (rv w 0), some (iv a1), none, some (iv x6), some (iv x16), some (iv (wr (x10 + 1)))]) C dX11_touched_83 rfl rfl (Nat.le_of_ble_eq_true rfl) rfl ?_
                  refine g_goto C dX11_touched_86 rfl (tgt := 45) ?_
                  obtain rfl := Option.some.inj h
                  exact ih8 _ _ ix16 (iwr _) (lpL hk8)
        exact hL8 FU _ _ (by decide) (by decide) hb8
      · have h := ifT c7 h
        refine g_iconst C dX11_touched_37 ?_
        exact g_iretP C dX11_touched_38 hr hlk h (by decide)
    · have h := ifT c4 h
      refine g_iconst C dX11_touched_16 ?_
      exact g_iretP C dX11_touched_17 hr hlk h (by decide)
theorem dX11_fed_0 : decode cX11_fed 0 = .ok (.aload_n 0, 1) := by decide +kernel
theorem dX11_fed_1 : decode cX11_fed 1 = .ok (.iload_n 1, 1) := by decide +kernel
theorem dX11_fed_2 : decode cX11_fed 2 = .ok (.invokevirtual 243, 3) := by decide +kernel
theorem dX11_fed_5 : decode cX11_fed 5 = .ok (.ifCond .eq 17, 3) := by decide +kernel
theorem dX11_fed_8 : decode cX11_fed 8 = .ok (.iload_n 1, 1) := by decide +kernel
theorem dX11_fed_9 : decode cX11_fed 9 = .ok (.ifCond .eq 13, 3) := by decide +kernel
theorem dX11_fed_12 : decode cX11_fed 12 = .ok (.iload_n 2, 1) := by decide +kernel
theorem dX11_fed_13 : decode cX11_fed 13 = .ok (.iconst 1, 1) := by decide +kernel
theorem dX11_fed_14 : decode cX11_fed 14 = .ok (.if_icmp .lt 8, 3) := by decide +kernel
theorem dX11_fed_17 : decode cX11_fed 17 = .ok (.iload_n 2, 1) := by decide +kernel
theorem dX11_fed_18 : decode cX11_fed 18 = .ok (.iconst 3, 1) := by decide +kernel
theorem dX11_fed_19 : decode cX11_fed 19 = .ok (.if_icmp .le 5, 3) := by decide +kernel
theorem dX11_fed_22 : decode cX11_fed 22 = .ok (.iconst (-1), 1) := by decide +kernel
theorem dX11_fed_23 : decode cX11_fed 23 = .ok (.ireturn, 1) := by decide +kernel
theorem dX11_fed_24 : decode cX11_fed 24 = .ok (.iload_n 3, 1) := by decide +kernel
theorem dX11_fed_25 : decode cX11_fed 25 = .ok (.invokestatic 152, 3) := by decide +kernel
theorem dX11_fed_28 : decode cX11_fed 28 = .ok (.ifCond .eq 26, 3) := by decide +kernel
theorem dX11_fed_31 : decode cX11_fed 31 = .ok (.iload 4, 2) := by decide +kernel
theorem dX11_fed_33 : decode cX11_fed 33 = .ok (.invokestatic 152, 3) := by decide +kernel
theorem dX11_fed_36 : decode cX11_fed 36 = .ok (.ifCond .eq 18, 3) := by decide +kernel
theorem dX11_fed_39 : decode cX11_fed 39 = .ok (.iload 4, 2) := by decide +kernel
theorem dX11_fed_41 : decode cX11_fed 41 = .ok (.iload_n 3, 1) := by decide +kernel
theorem dX11_fed_42 : decode cX11_fed 42 = .ok (.if_icmp .lt 12, 3) := by decide +kernel
theorem dX11_fed_45 : decode cX11_fed 45 = .ok (.aload_n 0, 1) := by decide +kernel
theorem dX11_fed_46 : decode cX11_fed 46 = .ok (.iload 6, 2) := by decide +kernel
theorem dX11_fed_48 : decode cX11_fed 48 = .ok (.invokevirtual 166, 3) := by decide +kernel
theorem dX11_fed_51 : decode cX11_fed 51 = .ok (.ifCond .ne 5, 3) := by decide +kernel
theorem dX11_fed_54 : decode cX11_fed 54 = .ok (.iconst (-1), 1) := by decide +kernel
theorem dX11_fed_55 : decode cX11_fed 55 = .ok (.ireturn, 1) := by decide +kernel
theorem dX11_fed_56 : decode cX11_fed 56 = .ok (.aload_n 0, 1) := by decide +kernel
theorem dX11_fed_57 : decode cX11_fed 57 = .ok (.iload 6, 2) := by decide +kernel
theorem dX11_fed_59 : decode cX11_fed 59 = .ok (.invokevirtual 246, 3) := by decide +kernel
theorem dX11_fed_62 : decode cX11_fed 62 = .ok (.iconst 0, 1) := by decide +kernel
theorem dX11_fed_63 : decode cX11_fed 63 = .ok (.istore 7, 2) := by decide +kernel
theorem dX11_fed_65 : decode cX11_fed 65 = .ok (.iload 7, 2) := by decide +kernel
theorem dX11_fed_67 : decode cX11_fed 67 = .ok (.aload_n 0, 1) := by decide +kernel
theorem dX11_fed_68 : decode cX11_fed 68 = .ok (.getfield 126, 3) := by decide +kernel
theorem dX11_fed_71 : decode cX11_fed 71 = .ok (.if_icmp .ge 55, 3) := by decide +kernel
theorem dX11_fed_74 : decode cX11_fed 74 = .ok (.iload 7, 2) := by decide +kernel
theorem dX11_fed_76 : decode cX11_fed 76 = .ok (.bipush 8, 2) := by decide +kernel
theorem dX11_fed_78 : decode cX11_fed 78 = .ok (.if_icmp .ge 48, 3) := by decide +kernel
theorem dX11_fed_81 : decode cX11_fed 81 = .ok (.aload_n 0, 1) := by decide +kernel
theorem dX11_fed_82 : decode cX11_fed 82 = .ok (.getfield 76, 3) := by decide +kernel
theorem dX11_fed_85 : decode cX11_fed 85 = .ok (.iconst 1, 1) := by decide +kernel
theorem dX11_fed_86 : decode cX11_fed 86 = .ok (.iload 7, 2) := by decide +kernel
theorem dX11_fed_88 : decode cX11_fed 88 = .ok (.ishl, 1) := by decide +kernel
theorem dX11_fed_89 : decode cX11_fed 89 = .ok (.iload_n 3, 1) := by decide +kernel
theorem dX11_fed_90 : decode cX11_fed 90 = .ok (.iload 5, 2) := by decide +kernel
theorem dX11_fed_92 : decode cX11_fed 92 = .ok (.aload_n 0, 1) := by decide +kernel
theorem dX11_fed_93 : decode cX11_fed 93 = .ok (.getfield 126, 3) := by decide +kernel
theorem dX11_fed_96 : decode cX11_fed 96 = .ok (.invokevirtual 249, 3) := by decide +kernel
theorem dX11_fed_99 : decode cX11_fed 99 = .ok (.aload_n 0, 1) := by decide +kernel
theorem dX11_fed_100 : decode cX11_fed 100 = .ok (.getfield 83, 3) := by decide +kernel
theorem dX11_fed_103 : decode cX11_fed 103 = .ok (.getfield 265, 3) := by decide +kernel
theorem dX11_fed_106 : decode cX11_fed 106 = .ok (.iload 7, 2) := by decide +kernel
theorem dX11_fed_108 : decode cX11_fed 108 = .ok (.aload_n 0, 1) := by decide +kernel
theorem dX11_fed_109 : decode cX11_fed 109 = .ok (.getfield 76, 3) := by decide +kernel
theorem dX11_fed_112 : decode cX11_fed 112 = .ok (.iload 4, 2) := by decide +kernel
theorem dX11_fed_114 : decode cX11_fed 114 = .ok (.invokevirtual 253, 3) := by decide +kernel
theorem dX11_fed_117 : decode cX11_fed 117 = .ok (.iload_n 1, 1) := by decide +kernel
theorem dX11_fed_118 : decode cX11_fed 118 = .ok (.iand, 1) := by decide +kernel
theorem dX11_fed_119 : decode cX11_fed 119 = .ok (.iastore, 1) := by decide +kernel
theorem dX11_fed_120 : decode cX11_fed 120 = .ok (.iinc 7 1, 3) := by decide +kernel
theorem dX11_fed_123 : decode cX11_fed 123 = .ok (.goto (-58), 3) := by decide +kernel
theorem dX11_fed_126 : decode cX11_fed 126 = .ok (.aload_n 0, 1) := by decide +kernel
theorem dX11_fed_127 : decode cX11_fed 127 = .ok (.getfield 83, 3) := by decide +kernel
theorem dX11_fed_130 : decode cX11_fed 130 = .ok (.iload_n 1, 1) := by decide +kernel
theorem dX11_fed_131 : decode cX11_fed 131 = .ok (.iload_n 2, 1) := by decide +kernel
theorem dX11_fed_132 : decode cX11_fed 132 = .ok (.invokevirtual 268, 3) := by decide +kernel
theorem dX11_fed_135 : decode cX11_fed 135 = .ok (.ireturn, 1) := by decide +kernel
abbrev rm_X11_fed : Room := { frames := 5, cells := 0, slots := 0, locals := 111 }
set_option maxRecDepth 100000 in
set_option maxHeartbeats 4000000 in
theorem ct_X11_fed {w : Wd} {l : Launch} {a1 : Int} {a2 : Int} {a3 : Int} {a4 : Int} {a5 : Int} {a6 : Int} {σ : St} {y : Int} {σ' : St} (ia1 : InI a1) (ia2 : InI a2) (ia3 : InI a3) (ia4 : InI a4) (ia5 : InZ a5) (ia6 : InI a6) (h : m_X11_fed a1 a2 a3 a4 a5 a6 σ = some (y, σ')) : Ct w l yX11_fed (Cond.code yX11_fed cX11_fed 8 (some .int) :: TB) rm_X11_fed [rv w 0, iv a1, iv a2, iv a3, iv a4, iv a5, iv a6] σ (some (iv y)) (InI y) σ' := by
  refine Ct.of2 [some (rv w 0), some (iv a1), some (iv a2), some (iv a3), some (iv a4), some (iv a5), some (iv a6), none] 1 rfl pn_RX11 (Nat.le_of_ble_eq_true rfl) ?_
  intro p e s m args below meth c C hr hlk
  unfold m_X11_fed at h
  refine g_aload_n C dX11_fed_0 rfl ?_
  refine g_iload_n C dX11_fed_1 rfl ?_
  obtain ⟨x1, qx1, h⟩ := bnd h
  refine g_callV1 (As := [iv a1]) C dX11_fed_2 mi_X11_isSet ml_11_243 (ct_X11_isSet ia1 qx1) rfl rfl ⟨rfl, rfl⟩ ⟨Nat.le_of_ble_eq_true rfl, Nat.le_of_ble_eq_true rfl⟩ ⟨Nat.zero_le _, Nat.zero_le _⟩ rfl (Nat.le_of_ble_eq_true rfl) (fun ix1 => ?_)
  refine g_if_eq C dX11_fed_5 (zI ix1) rfl (tgt := 22) (fun c2 => ?_) (fun c2 => ?_)
  · have h := ifT c2 h
    refine g_iconst C dX11_fed_22 ?_
    exact g_iretP C dX11_fed_23 hr hlk h (by decide)
  · have h := ifF c2 h
    refine g_iload_n C dX11_fed_8 rfl ?_
    refine g_if_eq C dX11_fed_9 ia1 rfl (tgt := 22) (fun c3 => ?_) (fun c3 => ?_)
    · have h := ifT c3 h
      refine g_iconst C dX11_fed_22 ?_
      exact g_iretP C dX11_fed_23 hr hlk h (by decide)
    · have h := ifF c3 h
      refine g_iload_n C dX11_fed_12 rfl ?_
      refine g_iconst C dX11_fed_13 ?_
      refine g_icmp_lt C dX11_fed_14 ia2 (by decide) rfl (tgt := 22) (fun c4 => ?_) (fun c4 => ?_)
      · have h := ifT c4 h
        refine g_iconst C dX11_fed_22 ?_
        exact g_iretP C dX11_fed_23 hr hlk h (by decide)
      · have h := ifF c4 h
        refine g_iload_n C dX11_fed_17 rfl ?_
        refine g_iconst C dX11_fed_18 ?_
        refine g_icmp_le C dX11_fed_19 ia2 (by decide) rfl (tgt := 24) (fun c5 => ?_) (fun c5 => ?_)
        · have h := ifT c5 h
          refine g_iload_n C dX11_fed_24 rfl ?_
          obtain ⟨x6, qx6, h⟩ := bnd h
          refine g_callS1 (As := [iv a3]) C dX11_fed_25 mi_X11_isTick ml_11_152 (ct_X11_isTick ia3 qx6) rfl ⟨rfl, rfl⟩ ⟨Nat.le_of_ble_eq_true rfl, Nat.le_of_ble_eq_true rfl⟩ ⟨Nat.zero_le _, Nat.zero_le _⟩ rfl (Nat.le_of_ble_eq_true rfl) (fun ix6 => ?_)
          refine g_if_eq C dX11_fed_28 (zI ix6) rfl (tgt := 54) (fun c7 => ?_) (fun c7 => ?_)
          · have h := ifT c7 h
            refine g_iconst C dX11_fed_54 ?_
            exact g_iretP C dX11_fed_55 hr hlk h (by decide)
          · have h := ifF c7 h
            refine g_iload C dX11_fed_31 rfl ?_
            obtain ⟨x8, qx8, h⟩ := bnd h
            refine g_callS1 (As := [iv a4]) C dX11_fed_33 mi_X11_isTick ml_11_152 (ct_X11_isTick ia4 qx8) rfl ⟨rfl, rfl⟩ ⟨Nat.le_of_ble_eq_true rfl, Nat.le_of_ble_eq_true rfl⟩ ⟨Nat.zero_le _, Nat.zero_le _⟩ rfl (Nat.le_of_ble_eq_true rfl) (fun ix8 => ?_)
            refine g_if_eq C dX11_fed_36 (zI ix8) rfl (tgt := 54) (fun c9 => ?_) (fun c9 => ?_)
            · have h := ifT c9 h
              refine g_iconst C dX11_fed_54 ?_
              exact g_iretP C dX11_fed_55 hr hlk h (by decide)
            · have h := ifF c9 h
              refine g_iload C dX11_fed_39 rfl ?_
              refine g_iload_n C dX11_fed_41 rfl ?_
              refine g_icmp_lt C dX11_fed_42 ia4 ia3 rfl (tgt := 54) (fun c10 => ?_) (fun c10 => ?_)
              · have h := ifT c10 h
                refine g_iconst C dX11_fed_54 ?_
                exact g_iretP C dX11_fed_55 hr hlk h (by decide)
              · have h := ifF c10 h
                refine g_aload_n C dX11_fed_45 rfl ?_
                refine g_iload C dX11_fed_46 rfl ?_
                obtain ⟨x11, qx11, h⟩ := bnd h
                refine g_callV1 (As := [iv a6]) C dX11_fed_48 mi_X11_isKnowledge ml_11_166 (ct_X11_isKnowledge ia6 qx11) rfl rfl ⟨rfl, rfl⟩ ⟨Nat.le_of_ble_eq_true rfl, Nat.le_of_ble_eq_true rfl⟩ ⟨Nat.zero_le _, Nat.zero_le _⟩ rfl (Nat.le_of_ble_eq_true rfl) (fun ix11 => ?_)
                refine g_if_ne C dX11_fed_51 (zI ix11) rfl (tgt := 56) (fun c12 => ?_) (fun c12 => ?_)
                · have h := ifF c12 h
                  refine g_aload_n C dX11_fed_56 rfl ?_
                  refine g_iload C dX11_fed_57 rfl ?_
                  obtain ⟨σ13, qσ13, h⟩ := bnd h
                  refine g_callV0 (As := [iv a6]) C dX11_fed_59 mi_X11_reckonRows ml_11_246 (ct_X11_reckonRows ia6 qσ13) rfl rfl ⟨rfl, rfl⟩ ⟨Nat.le_of_ble_eq_true rfl, Nat.le_of_ble_eq_true rfl⟩ ⟨Nat.zero_le _, Nat.zero_le _⟩ rfl (Nat.le_of_ble_eq_true rfl) (fun _ => ?_)
                  refine g_iconst C dX11_fed_62 ?_
                  refine g_istore (L1 := [some (rv w 0), some (iv a1), some (iv a2), some (iv a3), some (iv a4), some (iv a5), some (iv a6), some (iv 0)]) C dX11_fed_63 rfl (Nat.le_of_ble_eq_true rfl) rfl ?_
                  refine g_mask [true, true, true, true, true, true, false, true] ?_
                  obtain ⟨b14, hb14, hF14⟩ := bnd h
                  have hX14 : ∀ (σ24 : St) , σ24 = b14 → GM w p l e rm_X11_fed s m args below meth c (some (iv y)) (InI y) σ' 8 126 [some (rv w 0), some (iv a1), some (iv a2), none, none, none, none, none] [] σ24 := by
                    intro σ24 q
                    subst q
                    have h := hF14
                    refine g_aload_n C dX11_fed_126 rfl ?_
                    refine g_getR (j := 10) C dX11_fed_127 rfl (Nat.le_of_ble_eq_true rfl) (Nat.le_of_ble_eq_true rfl) fl_11_83 rfl rfl (r := 164) rfl ?_
                    refine g_iload_n C dX11_fed_130 rfl ?_
                    refine g_iload_n C dX11_fed_131 rfl ?_
                    obtain ⟨⟨x25, σ26⟩, qx25, h⟩ := bnd h
                    refine g_callV1 (As := [iv a1, iv a2]) C dX11_fed_132 mi_X2_choose ml_11_268 (ct_X2_choose ia1 ia2 qx25) rfl rfl ⟨rfl, rfl⟩ ⟨Nat.le_of_ble_eq_true rfl, Nat.le_of_ble_eq_true rfl⟩ ⟨Nat.zero_le _, Nat.zero_le _⟩ rfl (Nat.le_of_ble_eq_true rfl) (fun ix25 => ?_)
                    exact g_iretP C dX11_fed_135 hr hlk h ix25
                  have hL14 : ∀ (n : Nat) (x15 : Int) (σ16 : St) , InI x15 → lpN (fun a => m_X11_fed_L65 a3 a5 a4 a1 a.1 a.2) n (x15, σ16) = some b14 → GM w p l e rm_X11_fed s m args below meth c (some (iv y)) (InI y) σ' 8 65 [some (rv w 0), some (iv a1), some (iv a2), some (iv a3), some (iv a4), some (iv a5), none, some (iv x15)] [] σ16 := by
                    intro n
                    induction n with
                    | zero => intro x15 σ16 ix15 q; cases q
                    | succ n ih14 =>
                      intro x15 σ16 ix15 q
                      obtain ⟨o14, h, hk14⟩ := lp_step q
                      replace h : m_X11_fed_L65 a3 a5 a4 a1 x15 σ16 = some o14 := h
                      unfold m_X11_fed_L65 at h
                      refine g_iload C dX11_fed_65 rfl ?_
                      refine g_aload_n C dX11_fed_67 rfl ?_
                      refine g_getI (j := 6) C dX11_fed_68 rfl (Nat.le_of_ble_eq_true rfl) (Nat.le_of_ble_eq_true rfl) fl_11_126 rfl rfl (fun i17 => ?_)
                      refine g_icmp_ge C dX11_fed_71 ix15 i17 rfl (tgt := 126) (fun c18 => ?_) (fun c18 => ?_)
                      · have h := ifT c18 h
                        refine g_mask [true, true, true, false, false, false, true, false] ?_
                        obtain rfl := Option.some.inj h
                        exact hX14 σ16 (lpR hk14).symm
                      · have h := ifF c18 h
                        refine g_iload C dX11_fed_74 rfl ?_
                        refine g_bipush C dX11_fed_76 rfl ?_
                        refine g_icmp_ge C dX11_fed_78 ix15 (by decide) rfl (tgt := 126) (fun c19 => ?_) (fun c19 => ?_)
                        · have h := ifT c19 h
                          refine g_mask [true, true, true, false, false, false, true, false] ?_
                          obtain rfl := Option.some.inj h
                          exact hX14 σ16 (lpR hk14).symm
                        · have h := ifF c19 h
                          refine g_aload_n C dX11_fed_81 rfl ?_
                          refine g_getR (j := 9) C dX11_fed_82 rfl (Nat.le_of_ble_eq_true rfl) (Nat.le_of_ble_eq_true rfl) fl_11_76 rfl rfl (r := 153) rfl ?_
                          refine g_iconst C dX11_fed_85 ?_
                          refine g_iload C dX11_fed_86 rfl ?_
                          refine g_ishl C dX11_fed_88 ?_
                          refine g_iload_n C dX11_fed_89 rfl ?_
                          refine g_iload C dX11_fed_90 rfl ?_
                          refine g_aload_n C dX11_fed_92 rfl ?_
                          refine g_getI (j := 6) C dX11_fed_93 rfl (Nat.le_of_ble_eq_true rfl) (Nat.le_of_ble_eq_true rfl) fl_11_126 rfl rfl (fun i20 => ?_)
                          obtain ⟨σ21, qσ21, h⟩ := bnd h
                          refine g_callV0 (As := [iv (shlI 1 x15), iv a3, iv a5, iv (σ16 0 6)]) C dX11_fed_96 mi_X7_spread ml_11_249 (ct_X7_spread (ishl _ _) ia3 ia5 i20 qσ21) rfl rfl ⟨rfl, rfl⟩ ⟨Nat.le_of_ble_eq_true rfl, Nat.le_of_ble_eq_true rfl⟩ ⟨Nat.zero_le _, Nat.zero_le _⟩ rfl (Nat.le_of_ble_eq_true rfl) (fun _ => ?_)
                          refine g_aload_n C dX11_fed_99 rfl ?_
                          refine g_getR (j := 10) C dX11_fed_100 rfl (Nat.le_of_ble_eq_true rfl) (Nat.le_of_ble_eq_true rfl) fl_11_83 rfl rfl (r := 164) rfl ?_
                          refine g_getR (j := 0) C dX11_fed_103 rfl (Nat.le_of_ble_eq_true rfl) (Nat.le_of_ble_eq_true rfl) fl_11_265 rfl rfl (r := 165) rfl ?_
                          refine g_iload C dX11_fed_106 rfl ?_
                          refine g_aload_n C dX11_fed_108 rfl ?_
                          refine g_getR (j := 9) C dX11_fed_109 rfl (Nat.le_of_ble_eq_true rfl) (Nat.le_of_ble_eq_true rfl) fl_11_76 rfl rfl (r := 153) rfl ?_
                          refine g_iload C dX11_fed_112 rfl ?_
                          obtain ⟨x22, qx22, h⟩ := bnd h
                          refine g_callV1 (As := [iv a4]) C dX11_fed_114 mi_X7_knowersBy ml_11_253 (ct_X7_knowersBy ia4 qx22) rfl rfl ⟨rfl, rfl⟩ ⟨Nat.le_of_ble_eq_true rfl, Nat.le_of_ble_eq_true rfl⟩ ⟨Nat.zero_le _, Nat.zero_le _⟩ rfl (Nat.le_of_ble_eq_true rfl) (fun ix22 => ?_)
                          refine g_iload_n C dX11_fed_117 rfl ?_
                          refine g_iand C dX11_fed_118 ?_
                          obtain ⟨σ23, qσ23, h⟩ := bnd h
                          refine g_iast C dX11_fed_119 rfl rfl qσ23 ix15 (iand _ _) ?_
                          refine g_iinc (L1 := [some (rv w 0), some (iv a1), some (iv a2), some (iv a3), some (iv a4), some (iv a5), none, some (iv (wr (x15 + 1)))]) C dX11_fed_120 rfl rfl (Nat.le_of_ble_eq_true rfl) rfl ?_
                          refine g_goto C dX11_fed_123 rfl (tgt := 65) ?_
                          obtain rfl := Option.some.inj h
                          exact ih14 _ _ (iwr _) (lpL hk14)
                  exact hL14 FU _ _ (by decide) hb14
                · have h := ifT c12 h
                  refine g_iconst C dX11_fed_54 ?_
                  exact g_iretP C dX11_fed_55 hr hlk h (by decide)
        · have h := ifF c5 h
          refine g_iconst C dX11_fed_22 ?_
          exact g_iretP C dX11_fed_23 hr hlk h (by decide)
theorem dX11_word_0 : decode cX11_word 0 = .ok (.aload_n 0, 1) := by decide +kernel
theorem dX11_word_1 : decode cX11_word 1 = .ok (.iload_n 1, 1) := by decide +kernel
theorem dX11_word_2 : decode cX11_word 2 = .ok (.invokevirtual 135, 3) := by decide +kernel
theorem dX11_word_5 : decode cX11_word 5 = .ok (.ifCond .eq 15, 3) := by decide +kernel
theorem dX11_word_8 : decode cX11_word 8 = .ok (.aload_n 0, 1) := by decide +kernel
theorem dX11_word_9 : decode cX11_word 9 = .ok (.getfield 83, 3) := by decide +kernel
theorem dX11_word_12 : decode cX11_word 12 = .ok (.getfield 271, 3) := by decide +kernel
theorem dX11_word_15 : decode cX11_word 15 = .ok (.iload_n 1, 1) := by decide +kernel
theorem dX11_word_16 : decode cX11_word 16 = .ok (.iaload, 1) := by decide +kernel
theorem dX11_word_17 : decode cX11_word 17 = .ok (.goto 4, 3) := by decide +kernel
theorem dX11_word_20 : decode cX11_word 20 = .ok (.iconst (-1), 1) := by decide +kernel
theorem dX11_word_21 : decode cX11_word 21 = .ok (.ireturn, 1) := by decide +kernel
abbrev rm_X11_word : Room := { frames := 1, cells := 0, slots := 0, locals := 21 }
set_option maxRecDepth 100000 in
set_option maxHeartbeats 4000000 in
theorem ct_X11_word {w : Wd} {l : Launch} {a1 : Int} {σ : St} {y : Int} (ia1 : InI a1) (h : m_X11_word a1 σ = some y) : Ct w l yX11_word (Cond.code yX11_word cX11_word 2 (some .int) :: TB) rm_X11_word [rv w 0, iv a1] σ (some (iv y)) (InI y) σ := by
  refine Ct.of2 [some (rv w 0), some (iv a1)] 0 rfl pn_RX11 (Nat.le_of_ble_eq_true rfl) ?_
  intro p e s m args below meth c C hr hlk
  unfold m_X11_word at h
  refine g_aload_n C dX11_word_0 rfl ?_
  refine g_iload_n C dX11_word_1 rfl ?_
  obtain ⟨x1, qx1, h⟩ := bnd h
  refine g_callV1 (As := [iv a1]) C dX11_word_2 mi_X11_isAgent ml_11_135 (ct_X11_isAgent ia1 qx1) rfl rfl ⟨rfl, rfl⟩ ⟨Nat.le_of_ble_eq_true rfl, Nat.le_of_ble_eq_true rfl⟩ ⟨Nat.zero_le _, Nat.zero_le _⟩ rfl (Nat.le_of_ble_eq_true rfl) (fun ix1 => ?_)
  refine g_if_eq C dX11_word_5 (zI ix1) rfl (tgt := 20) (fun c2 => ?_) (fun c2 => ?_)
  · have h := ifT c2 h
    refine g_iconst C dX11_word_20 ?_
    exact g_iretU C dX11_word_21 hr hlk h (by decide)
  · have h := ifF c2 h
    refine g_aload_n C dX11_word_8 rfl ?_
    refine g_getR (j := 10) C dX11_word_9 rfl (Nat.le_of_ble_eq_true rfl) (Nat.le_of_ble_eq_true rfl) fl_11_83 rfl rfl (r := 164) rfl ?_
    refine g_getR (j := 1) C dX11_word_12 rfl (Nat.le_of_ble_eq_true rfl) (Nat.le_of_ble_eq_true rfl) fl_11_271 rfl rfl (r := 166) rfl ?_
    refine g_iload_n C dX11_word_15 rfl ?_
    obtain ⟨x3, qx3, h⟩ := bnd h
    refine g_iald C dX11_word_16 rfl rfl qx3 ia1 (fun ix3 => ?_)
    refine g_goto C dX11_word_17 rfl (tgt := 21) ?_
    exact g_iretU C dX11_word_21 hr hlk h ix3
theorem dX11_doubt_0 : decode cX11_doubt 0 = .ok (.iload_n 1, 1) := by decide +kernel
theorem dX11_doubt_1 : decode cX11_doubt 1 = .ok (.ifCond .lt 19, 3) := by decide +kernel
theorem dX11_doubt_4 : decode cX11_doubt 4 = .ok (.iload_n 1, 1) := by decide +kernel
theorem dX11_doubt_5 : decode cX11_doubt 5 = .ok (.aload_n 0, 1) := by decide +kernel
theorem dX11_doubt_6 : decode cX11_doubt 6 = .ok (.getfield 83, 3) := by decide +kernel
theorem dX11_doubt_9 : decode cX11_doubt 9 = .ok (.getfield 274, 3) := by decide +kernel
theorem dX11_doubt_12 : decode cX11_doubt 12 = .ok (.if_icmp .ge 8, 3) := by decide +kernel
theorem dX11_doubt_15 : decode cX11_doubt 15 = .ok (.iload_n 1, 1) := by decide +kernel
theorem dX11_doubt_16 : decode cX11_doubt 16 = .ok (.iconst 3, 1) := by decide +kernel
theorem dX11_doubt_17 : decode cX11_doubt 17 = .ok (.if_icmp .lt 5, 3) := by decide +kernel
theorem dX11_doubt_20 : decode cX11_doubt 20 = .ok (.iconst (-1), 1) := by decide +kernel
theorem dX11_doubt_21 : decode cX11_doubt 21 = .ok (.ireturn, 1) := by decide +kernel
theorem dX11_doubt_22 : decode cX11_doubt 22 = .ok (.aload_n 0, 1) := by decide +kernel
theorem dX11_doubt_23 : decode cX11_doubt 23 = .ok (.getfield 83, 3) := by decide +kernel
theorem dX11_doubt_26 : decode cX11_doubt 26 = .ok (.getfield 277, 3) := by decide +kernel
theorem dX11_doubt_29 : decode cX11_doubt 29 = .ok (.iload_n 1, 1) := by decide +kernel
theorem dX11_doubt_30 : decode cX11_doubt 30 = .ok (.iaload, 1) := by decide +kernel
theorem dX11_doubt_31 : decode cX11_doubt 31 = .ok (.ireturn, 1) := by decide +kernel
abbrev rm_X11_doubt : Room := { frames := 0, cells := 0, slots := 0, locals := 0 }
set_option maxRecDepth 100000 in
set_option maxHeartbeats 4000000 in
theorem ct_X11_doubt {w : Wd} {l : Launch} {a1 : Int} {σ : St} {y : Int} (ia1 : InI a1) (h : m_X11_doubt a1 σ = some y) : Ct w l yX11_doubt (Cond.code yX11_doubt cX11_doubt 2 (some .int) :: TB) rm_X11_doubt [rv w 0, iv a1] σ (some (iv y)) (InI y) σ := by
  refine Ct.of2 [some (rv w 0), some (iv a1)] 0 rfl pn_RX11 (Nat.le_of_ble_eq_true rfl) ?_
  intro p e s m args below meth c C hr hlk
  unfold m_X11_doubt at h
  refine g_iload_n C dX11_doubt_0 rfl ?_
  refine g_if_lt C dX11_doubt_1 ia1 rfl (tgt := 20) (fun c1 => ?_) (fun c1 => ?_)
  · have h := ifT c1 h
    refine g_iconst C dX11_doubt_20 ?_
    exact g_iretU C dX11_doubt_21 hr hlk h (by decide)
  · have h := ifF c1 h
    refine g_iload_n C dX11_doubt_4 rfl ?_
    refine g_aload_n C dX11_doubt_5 rfl ?_
    refine g_getR (j := 10) C dX11_doubt_6 rfl (Nat.le_of_ble_eq_true rfl) (Nat.le_of_ble_eq_true rfl) fl_11_83 rfl rfl (r := 164) rfl ?_
    refine g_getI (j := 3) C dX11_doubt_9 rfl (Nat.le_of_ble_eq_true rfl) (Nat.le_of_ble_eq_true rfl) fl_11_274 rfl rfl (fun i2 => ?_)
    refine g_icmp_ge C dX11_doubt_12 ia1 i2 rfl (tgt := 20) (fun c3 => ?_) (fun c3 => ?_)
    · have h := ifT c3 h
      refine g_iconst C dX11_doubt_20 ?_
      exact g_iretU C dX11_doubt_21 hr hlk h (by decide)
    · have h := ifF c3 h
      refine g_iload_n C dX11_doubt_15 rfl ?_
      refine g_iconst C dX11_doubt_16 ?_
      refine g_icmp_lt C dX11_doubt_17 ia1 (by decide) rfl (tgt := 22) (fun c4 => ?_) (fun c4 => ?_)
      · have h := ifT c4 h
        refine g_aload_n C dX11_doubt_22 rfl ?_
        refine g_getR (j := 10) C dX11_doubt_23 rfl (Nat.le_of_ble_eq_true rfl) (Nat.le_of_ble_eq_true rfl) fl_11_83 rfl rfl (r := 164) rfl ?_
        refine g_getR (j := 2) C dX11_doubt_26 rfl (Nat.le_of_ble_eq_true rfl) (Nat.le_of_ble_eq_true rfl) fl_11_277 rfl rfl (r := 167) rfl ?_
        refine g_iload_n C dX11_doubt_29 rfl ?_
        obtain ⟨x5, qx5, h⟩ := bnd h
        refine g_iald C dX11_doubt_30 rfl rfl qx5 ia1 (fun ix5 => ?_)
        exact g_iretU C dX11_doubt_31 hr hlk h ix5
      · have h := ifF c4 h
        refine g_iconst C dX11_doubt_20 ?_
        exact g_iretU C dX11_doubt_21 hr hlk h (by decide)
theorem dX11_count_0 : decode cX11_count 0 = .ok (.iload_n 1, 1) := by decide +kernel
theorem dX11_count_1 : decode cX11_count 1 = .ok (.tableswitch 84 0 5 #[39, 47, 55, 60, 68, 76], 39) := by decide +kernel
theorem dX11_count_40 : decode cX11_count 40 = .ok (.aload_n 0, 1) := by decide +kernel
theorem dX11_count_41 : decode cX11_count 41 = .ok (.getfield 29, 3) := by decide +kernel
theorem dX11_count_44 : decode cX11_count 44 = .ok (.getfield 280, 3) := by decide +kernel
theorem dX11_count_47 : decode cX11_count 47 = .ok (.ireturn, 1) := by decide +kernel
theorem dX11_count_48 : decode cX11_count 48 = .ok (.aload_n 0, 1) := by decide +kernel
theorem dX11_count_49 : decode cX11_count 49 = .ok (.getfield 29, 3) := by decide +kernel
theorem dX11_count_52 : decode cX11_count 52 = .ok (.getfield 283, 3) := by decide +kernel
theorem dX11_count_55 : decode cX11_count 55 = .ok (.ireturn, 1) := by decide +kernel
theorem dX11_count_56 : decode cX11_count 56 = .ok (.aload_n 0, 1) := by decide +kernel
theorem dX11_count_57 : decode cX11_count 57 = .ok (.getfield 126, 3) := by decide +kernel
theorem dX11_count_60 : decode cX11_count 60 = .ok (.ireturn, 1) := by decide +kernel
theorem dX11_count_61 : decode cX11_count 61 = .ok (.aload_n 0, 1) := by decide +kernel
theorem dX11_count_62 : decode cX11_count 62 = .ok (.getfield 37, 3) := by decide +kernel
theorem dX11_count_65 : decode cX11_count 65 = .ok (.getfield 138, 3) := by decide +kernel
theorem dX11_count_68 : decode cX11_count 68 = .ok (.ireturn, 1) := by decide +kernel
theorem dX11_count_69 : decode cX11_count 69 = .ok (.aload_n 0, 1) := by decide +kernel
theorem dX11_count_70 : decode cX11_count 70 = .ok (.getfield 50, 3) := by decide +kernel
theorem dX11_count_73 : decode cX11_count 73 = .ok (.getfield 155, 3) := by decide +kernel
theorem dX11_count_76 : decode cX11_count 76 = .ok (.ireturn, 1) := by decide +kernel
theorem dX11_count_77 : decode cX11_count 77 = .ok (.aload_n 0, 1) := by decide +kernel
theorem dX11_count_78 : decode cX11_count 78 = .ok (.getfield 33, 3) := by decide +kernel
theorem dX11_count_81 : decode cX11_count 81 = .ok (.getfield 87, 3) := by decide +kernel
theorem dX11_count_84 : decode cX11_count 84 = .ok (.ireturn, 1) := by decide +kernel
theorem dX11_count_85 : decode cX11_count 85 = .ok (.iconst (-1), 1) := by decide +kernel
theorem dX11_count_86 : decode cX11_count 86 = .ok (.ireturn, 1) := by decide +kernel
abbrev rm_X11_count : Room := { frames := 0, cells := 0, slots := 0, locals := 0 }
set_option maxRecDepth 100000 in
set_option maxHeartbeats 4000000 in
theorem ct_X11_count {w : Wd} {l : Launch} {a1 : Int} {σ : St} {y : Int} (ia1 : InI a1) (h : m_X11_count a1 σ = some y) : Ct w l yX11_count (Cond.code yX11_count cX11_count 2 (some .int) :: TB) rm_X11_count [rv w 0, iv a1] σ (some (iv y)) (InI y) σ := by
  refine Ct.of2 [some (rv w 0), some (iv a1)] 0 rfl pn_RX11 (Nat.le_of_ble_eq_true rfl) ?_
  intro p e s m args below meth c C hr hlk
  unfold m_X11_count at h
  refine g_iload_n C dX11_count_0 rfl ?_
  by_cases c1 : a1 = 0
  · have h := ifT c1 h
    refine g_tabI C dX11_count_1 ia1 (by rw [c1]; decide) (by rw [c1]; decide) (by rw [c1] <;> rfl) rfl (tgt := 40) ?_
    refine g_aload_n C dX11_count_40 rfl ?_
    refine g_getR (j := 0) C dX11_count_41 rfl (Nat.le_of_ble_eq_true rfl) (Nat.le_of_ble_eq_true rfl) fl_11_29 rfl rfl (r := 1) rfl ?_
    refine g_getI (j := 4) C dX11_count_44 rfl (Nat.le_of_ble_eq_true rfl) (Nat.le_of_ble_eq_true rfl) fl_11_280 rfl rfl (fun i2 => ?_)
    exact g_iretU C dX11_count_47 hr hlk h i2
  have h := ifF c1 h
  by_cases c3 : a1 = 1
  · have h := ifT c3 h
    refine g_tabI C dX11_count_1 ia1 (by rw [c3]; decide) (by rw [c3]; decide) (by rw [c3] <;> rfl) rfl (tgt := 48) ?_
    refine g_aload_n C dX11_count_48 rfl ?_
    refine g_getR (j := 0) C dX11_count_49 rfl (Nat.le_of_ble_eq_true rfl) (Nat.le_of_ble_eq_true rfl) fl_11_29 rfl rfl (r := 1) rfl ?_
    refine g_getI (j := 5) C dX11_count_52 rfl (Nat.le_of_ble_eq_true rfl) (Nat.le_of_ble_eq_true rfl) fl_11_283 rfl rfl (fun i4 => ?_)
    exact g_iretU C dX11_count_55 hr hlk h i4
  have h := ifF c3 h
  by_cases c5 : a1 = 2
  · have h := ifT c5 h
    refine g_tabI C dX11_count_1 ia1 (by rw [c5]; decide) (by rw [c5]; decide) (by rw [c5] <;> rfl) rfl (tgt := 56) ?_
    refine g_aload_n C dX11_count_56 rfl ?_
    refine g_getI (j := 6) C dX11_count_57 rfl (Nat.le_of_ble_eq_true rfl) (Nat.le_of_ble_eq_true rfl) fl_11_126 rfl rfl (fun i6 => ?_)
    exact g_iretU C dX11_count_60 hr hlk h i6
  have h := ifF c5 h
  by_cases c7 : a1 = 3
  · have h := ifT c7 h
    refine g_tabI C dX11_count_1 ia1 (by rw [c7]; decide) (by rw [c7]; decide) (by rw [c7] <;> rfl) rfl (tgt := 61) ?_
    refine g_aload_n C dX11_count_61 rfl ?_
    refine g_getR (j := 2) C dX11_count_62 rfl (Nat.le_of_ble_eq_true rfl) (Nat.le_of_ble_eq_true rfl) fl_11_37 rfl rfl (r := 22) rfl ?_
    refine g_getI (j := 8) C dX11_count_65 rfl (Nat.le_of_ble_eq_true rfl) (Nat.le_of_ble_eq_true rfl) fl_11_138 rfl rfl (fun i8 => ?_)
    exact g_iretU C dX11_count_68 hr hlk h i8
  have h := ifF c7 h
  by_cases c9 : a1 = 4
  · have h := ifT c9 h
    refine g_tabI C dX11_count_1 ia1 (by rw [c9]; decide) (by rw [c9]; decide) (by rw [c9] <;> rfl) rfl (tgt := 69) ?_
    refine g_aload_n C dX11_count_69 rfl ?_
    refine g_getR (j := 4) C dX11_count_70 rfl (Nat.le_of_ble_eq_true rfl) (Nat.le_of_ble_eq_true rfl) fl_11_50 rfl rfl (r := 30) rfl ?_
    refine g_getI (j := 5) C dX11_count_73 rfl (Nat.le_of_ble_eq_true rfl) (Nat.le_of_ble_eq_true rfl) fl_11_155 rfl rfl (fun i10 => ?_)
    exact g_iretU C dX11_count_76 hr hlk h i10
  have h := ifF c9 h
  by_cases c11 : a1 = 5
  · have h := ifT c11 h
    refine g_tabI C dX11_count_1 ia1 (by rw [c11]; decide) (by rw [c11]; decide) (by rw [c11] <;> rfl) rfl (tgt := 77) ?_
    refine g_aload_n C dX11_count_77 rfl ?_
    refine g_getR (j := 1) C dX11_count_78 rfl (Nat.le_of_ble_eq_true rfl) (Nat.le_of_ble_eq_true rfl) fl_11_33 rfl rfl (r := 16) rfl ?_
    refine g_getI (j := 0) C dX11_count_81 rfl (Nat.le_of_ble_eq_true rfl) (Nat.le_of_ble_eq_true rfl) fl_11_87 rfl rfl (fun i12 => ?_)
    exact g_iretU C dX11_count_84 hr hlk h i12
  have h := ifF c11 h
  refine g_tabO C dX11_count_1 ia1 (by omega) rfl (tgt := 85) ?_
  refine g_iconst C dX11_count_85 ?_
  exact g_iretU C dX11_count_86 hr hlk h (by decide)
