theorem dX12_place_0 : decode cX12_place 0 = .ok (.aload_n 0, 1) := by decide +kernel
theorem dX12_place_1 : decode cX12_place 1 = .ok (.iconst 0, 1) := by decide +kernel
theorem dX12_place_2 : decode cX12_place 2 = .ok (.putfield 1, 3) := by decide +kernel
theorem dX12_place_5 : decode cX12_place 5 = .ok (.aload_n 0, 1) := by decide +kernel
theorem dX12_place_6 : decode cX12_place 6 = .ok (.getfield 37, 3) := by decide +kernel
theorem dX12_place_9 : decode cX12_place 9 = .ok (.ireturn, 1) := by decide +kernel
abbrev rm_X12_place : Room := { frames := 0, cells := 0, slots := 0, locals := 0 }
set_option maxRecDepth 100000 in
set_option maxHeartbeats 4000000 in
theorem ct_X12_place {w : Wd} {l : Launch} {σ : St} {y : Int} {σ' : St} (h : m_X12_place σ = some (y, σ')) : Ct w l yX12_place (Cond.code yX12_place cX12_place 1 (some .int) :: TB) rm_X12_place [rv w 170] σ (some (iv y)) (InI y) σ' := by
  refine Ct.of2 [some (rv w 170)] 0 rfl pn_RX12 (Nat.le_of_ble_eq_true rfl) ?_
  intro p e s m args below meth c C hr hlk
  unfold m_X12_place at h
  refine g_aload_n C dX12_place_0 rfl ?_
  refine g_iconst C dX12_place_1 ?_
  obtain ⟨σ1, qσ1, h⟩ := bnd h
  refine g_putI (j := 0) C dX12_place_2 rfl (Nat.le_of_ble_eq_true rfl) (Nat.le_of_ble_eq_true rfl) fl_12_1 rfl rfl rfl rfl qσ1 (by decide) ?_
  refine g_aload_n C dX12_place_5 rfl ?_
  refine g_getI (j := 16) C dX12_place_6 rfl (Nat.le_of_ble_eq_true rfl) (Nat.le_of_ble_eq_true rfl) fl_12_37 rfl rfl (fun i2 => ?_)
  exact g_iretP C dX12_place_9 hr hlk h i2
theorem dX12_isSpot_0 : decode cX12_isSpot 0 = .ok (.iload_n 1, 1) := by decide +kernel
theorem dX12_isSpot_1 : decode cX12_isSpot 1 = .ok (.ifCond .lt 15, 3) := by decide +kernel
theorem dX12_isSpot_4 : decode cX12_isSpot 4 = .ok (.iload_n 1, 1) := by decide +kernel
theorem dX12_isSpot_5 : decode cX12_isSpot 5 = .ok (.aload_n 0, 1) := by decide +kernel
theorem dX12_isSpot_6 : decode cX12_isSpot 6 = .ok (.getfield 330, 3) := by decide +kernel
theorem dX12_isSpot_9 : decode cX12_isSpot 9 = .ok (.if_icmp .ge 7, 3) := by decide +kernel
theorem dX12_isSpot_12 : decode cX12_isSpot 12 = .ok (.iconst 1, 1) := by decide +kernel
theorem dX12_isSpot_13 : decode cX12_isSpot 13 = .ok (.goto 4, 3) := by decide +kernel
theorem dX12_isSpot_16 : decode cX12_isSpot 16 = .ok (.iconst 0, 1) := by decide +kernel
theorem dX12_isSpot_17 : decode cX12_isSpot 17 = .ok (.ireturn, 1) := by decide +kernel
abbrev rm_X12_isSpot : Room := { frames := 0, cells := 0, slots := 0, locals := 0 }
set_option maxRecDepth 100000 in
set_option maxHeartbeats 4000000 in
theorem ct_X12_isSpot {w : Wd} {l : Launch} {a1 : Int} {σ : St} {y : Int} (ia1 : InI a1) (h : m_X12_isSpot a1 σ = some y) : Ct w l yX12_isSpot (Cond.code yX12_isSpot cX12_isSpot 2 (some .boolean) :: TB) rm_X12_isSpot [rv w 170, iv a1] σ (some (iv y)) (InZ y) σ := by
  refine Ct.of2 [some (rv w 170), some (iv a1)] 0 rfl pn_RX12 (Nat.le_of_ble_eq_true rfl) ?_
  intro p e s m args below meth c C hr hlk
  unfold m_X12_isSpot at h
  refine g_iload_n C dX12_isSpot_0 rfl ?_
  refine g_if_lt C dX12_isSpot_1 ia1 rfl (tgt := 16) (fun c1 => ?_) (fun c1 => ?_)
  · have h := ifT c1 h
    refine g_iconst C dX12_isSpot_16 ?_
    exact g_zretU C dX12_isSpot_17 hr hlk h (Or.inl rfl)
  · have h := ifF c1 h
    refine g_iload_n C dX12_isSpot_4 rfl ?_
    refine g_aload_n C dX12_isSpot_5 rfl ?_
    refine g_getI (j := 30) C dX12_isSpot_6 rfl (Nat.le_of_ble_eq_true rfl) (Nat.le_of_ble_eq_true rfl) fl_12_330 rfl rfl (fun i2 => ?_)
    refine g_icmp_ge C dX12_isSpot_9 ia1 i2 rfl (tgt := 16) (fun c3 => ?_) (fun c3 => ?_)
    · have h := ifT c3 h
      refine g_iconst C dX12_isSpot_16 ?_
      exact g_zretU C dX12_isSpot_17 hr hlk h (Or.inl rfl)
    · have h := ifF c3 h
      refine g_iconst C dX12_isSpot_12 ?_
      refine g_goto C dX12_isSpot_13 rfl (tgt := 17) ?_
      exact g_zretU C dX12_isSpot_17 hr hlk h (Or.inr rfl)
theorem dX12_isAgent_0 : decode cX12_isAgent 0 = .ok (.iload_n 1, 1) := by decide +kernel
theorem dX12_isAgent_1 : decode cX12_isAgent 1 = .ok (.ifCond .lt 15, 3) := by decide +kernel
theorem dX12_isAgent_4 : decode cX12_isAgent 4 = .ok (.iload_n 1, 1) := by decide +kernel
theorem dX12_isAgent_5 : decode cX12_isAgent 5 = .ok (.aload_n 0, 1) := by decide +kernel
theorem dX12_isAgent_6 : decode cX12_isAgent 6 = .ok (.getfield 333, 3) := by decide +kernel
theorem dX12_isAgent_9 : decode cX12_isAgent 9 = .ok (.if_icmp .ge 7, 3) := by decide +kernel
theorem dX12_isAgent_12 : decode cX12_isAgent 12 = .ok (.iconst 1, 1) := by decide +kernel
theorem dX12_isAgent_13 : decode cX12_isAgent 13 = .ok (.goto 4, 3) := by decide +kernel
theorem dX12_isAgent_16 : decode cX12_isAgent 16 = .ok (.iconst 0, 1) := by decide +kernel
theorem dX12_isAgent_17 : decode cX12_isAgent 17 = .ok (.ireturn, 1) := by decide +kernel
abbrev rm_X12_isAgent : Room := { frames := 0, cells := 0, slots := 0, locals := 0 }
set_option maxRecDepth 100000 in
set_option maxHeartbeats 4000000 in
theorem ct_X12_isAgent {w : Wd} {l : Launch} {a1 : Int} {σ : St} {y : Int} (ia1 : InI a1) (h : m_X12_isAgent a1 σ = some y) : Ct w l yX12_isAgent (Cond.code yX12_isAgent cX12_isAgent 2 (some .boolean) :: TB) rm_X12_isAgent [rv w 170, iv a1] σ (some (iv y)) (InZ y) σ := by
  refine Ct.of2 [some (rv w 170), some (iv a1)] 0 rfl pn_RX12 (Nat.le_of_ble_eq_true rfl) ?_
  intro p e s m args below meth c C hr hlk
  unfold m_X12_isAgent at h
  refine g_iload_n C dX12_isAgent_0 rfl ?_
  refine g_if_lt C dX12_isAgent_1 ia1 rfl (tgt := 16) (fun c1 => ?_) (fun c1 => ?_)
  · have h := ifT c1 h
    refine g_iconst C dX12_isAgent_16 ?_
    exact g_zretU C dX12_isAgent_17 hr hlk h (Or.inl rfl)
  · have h := ifF c1 h
    refine g_iload_n C dX12_isAgent_4 rfl ?_
    refine g_aload_n C dX12_isAgent_5 rfl ?_
    refine g_getI (j := 35) C dX12_isAgent_6 rfl (Nat.le_of_ble_eq_true rfl) (Nat.le_of_ble_eq_true rfl) fl_12_333 rfl rfl (fun i2 => ?_)
    refine g_icmp_ge C dX12_isAgent_9 ia1 i2 rfl (tgt := 16) (fun c3 => ?_) (fun c3 => ?_)
    · have h := ifT c3 h
      refine g_iconst C dX12_isAgent_16 ?_
      exact g_zretU C dX12_isAgent_17 hr hlk h (Or.inl rfl)
    · have h := ifF c3 h
      refine g_iconst C dX12_isAgent_12 ?_
      refine g_goto C dX12_isAgent_13 rfl (tgt := 17) ?_
      exact g_zretU C dX12_isAgent_17 hr hlk h (Or.inr rfl)
theorem dX12_isTick_0 : decode cX12_isTick 0 = .ok (.iload_n 0, 1) := by decide +kernel
theorem dX12_isTick_1 : decode cX12_isTick 1 = .ok (.ifCond .lt 13, 3) := by decide +kernel
theorem dX12_isTick_4 : decode cX12_isTick 4 = .ok (.iload_n 0, 1) := by decide +kernel
theorem dX12_isTick_5 : decode cX12_isTick 5 = .ok (.bipush 96, 2) := by decide +kernel
theorem dX12_isTick_7 : decode cX12_isTick 7 = .ok (.if_icmp .ge 7, 3) := by decide +kernel
theorem dX12_isTick_10 : decode cX12_isTick 10 = .ok (.iconst 1, 1) := by decide +kernel
theorem dX12_isTick_11 : decode cX12_isTick 11 = .ok (.goto 4, 3) := by decide +kernel
theorem dX12_isTick_14 : decode cX12_isTick 14 = .ok (.iconst 0, 1) := by decide +kernel
theorem dX12_isTick_15 : decode cX12_isTick 15 = .ok (.ireturn, 1) := by decide +kernel
abbrev rm_X12_isTick : Room := { frames := 0, cells := 0, slots := 0, locals := 0 }
set_option maxRecDepth 100000 in
set_option maxHeartbeats 4000000 in
theorem ct_X12_isTick {w : Wd} {l : Launch} {a1 : Int} {σ : St} {y : Int} (ia1 : InI a1) (h : m_X12_isTick a1 σ = some y) : Ct w l yX12_isTick (Cond.code yX12_isTick cX12_isTick 1 (some .boolean) :: TB) rm_X12_isTick [iv a1] σ (some (iv y)) (InZ y) σ := by
  refine Ct.of2 [some (iv a1)] 0 rfl pn_RX12 (Nat.le_of_ble_eq_true rfl) ?_
  intro p e s m args below meth c C hr hlk
  unfold m_X12_isTick at h
  refine g_iload_n C dX12_isTick_0 rfl ?_
  refine g_if_lt C dX12_isTick_1 ia1 rfl (tgt := 14) (fun c1 => ?_) (fun c1 => ?_)
  · have h := ifT c1 h
    refine g_iconst C dX12_isTick_14 ?_
    exact g_zretU C dX12_isTick_15 hr hlk h (Or.inl rfl)
  · have h := ifF c1 h
    refine g_iload_n C dX12_isTick_4 rfl ?_
    refine g_bipush C dX12_isTick_5 rfl ?_
    refine g_icmp_ge C dX12_isTick_7 ia1 (by decide) rfl (tgt := 14) (fun c2 => ?_) (fun c2 => ?_)
    · have h := ifT c2 h
      refine g_iconst C dX12_isTick_14 ?_
      exact g_zretU C dX12_isTick_15 hr hlk h (Or.inl rfl)
    · have h := ifF c2 h
      refine g_iconst C dX12_isTick_10 ?_
      refine g_goto C dX12_isTick_11 rfl (tgt := 15) ?_
      exact g_zretU C dX12_isTick_15 hr hlk h (Or.inr rfl)
theorem dX12_spot_0 : decode cX12_spot 0 = .ok (.aload_n 0, 1) := by decide +kernel
theorem dX12_spot_1 : decode cX12_spot 1 = .ok (.iconst 0, 1) := by decide +kernel
theorem dX12_spot_2 : decode cX12_spot 2 = .ok (.putfield 1, 3) := by decide +kernel
theorem dX12_spot_5 : decode cX12_spot 5 = .ok (.aload_n 0, 1) := by decide +kernel
theorem dX12_spot_6 : decode cX12_spot 6 = .ok (.getfield 330, 3) := by decide +kernel
theorem dX12_spot_9 : decode cX12_spot 9 = .ok (.bipush 10, 2) := by decide +kernel
theorem dX12_spot_11 : decode cX12_spot 11 = .ok (.if_icmp .ne 5, 3) := by decide +kernel
theorem dX12_spot_14 : decode cX12_spot 14 = .ok (.iconst (-1), 1) := by decide +kernel
theorem dX12_spot_15 : decode cX12_spot 15 = .ok (.ireturn, 1) := by decide +kernel
theorem dX12_spot_16 : decode cX12_spot 16 = .ok (.aload_n 0, 1) := by decide +kernel
theorem dX12_spot_17 : decode cX12_spot 17 = .ok (.dup, 1) := by decide +kernel
theorem dX12_spot_18 : decode cX12_spot 18 = .ok (.getfield 330, 3) := by decide +kernel
theorem dX12_spot_21 : decode cX12_spot 21 = .ok (.iconst 1, 1) := by decide +kernel
theorem dX12_spot_22 : decode cX12_spot 22 = .ok (.iadd, 1) := by decide +kernel
theorem dX12_spot_23 : decode cX12_spot 23 = .ok (.putfield 330, 3) := by decide +kernel
theorem dX12_spot_26 : decode cX12_spot 26 = .ok (.aload_n 0, 1) := by decide +kernel
theorem dX12_spot_27 : decode cX12_spot 27 = .ok (.iconst (-1), 1) := by decide +kernel
theorem dX12_spot_28 : decode cX12_spot 28 = .ok (.putfield 173, 3) := by decide +kernel
theorem dX12_spot_31 : decode cX12_spot 31 = .ok (.aload_n 0, 1) := by decide +kernel
theorem dX12_spot_32 : decode cX12_spot 32 = .ok (.getfield 330, 3) := by decide +kernel
theorem dX12_spot_35 : decode cX12_spot 35 = .ok (.iconst 1, 1) := by decide +kernel
theorem dX12_spot_36 : decode cX12_spot 36 = .ok (.isub, 1) := by decide +kernel
theorem dX12_spot_37 : decode cX12_spot 37 = .ok (.ireturn, 1) := by decide +kernel
abbrev rm_X12_spot : Room := { frames := 0, cells := 0, slots := 0, locals := 0 }
set_option maxRecDepth 100000 in
set_option maxHeartbeats 4000000 in
theorem ct_X12_spot {w : Wd} {l : Launch} {σ : St} {y : Int} {σ' : St} (h : m_X12_spot σ = some (y, σ')) : Ct w l yX12_spot (Cond.code yX12_spot cX12_spot 1 (some .int) :: TB) rm_X12_spot [rv w 170] σ (some (iv y)) (InI y) σ' := by
  refine Ct.of2 [some (rv w 170)] 0 rfl pn_RX12 (Nat.le_of_ble_eq_true rfl) ?_
  intro p e s m args below meth c C hr hlk
  unfold m_X12_spot at h
  refine g_aload_n C dX12_spot_0 rfl ?_
  refine g_iconst C dX12_spot_1 ?_
  obtain ⟨σ1, qσ1, h⟩ := bnd h
  refine g_putI (j := 0) C dX12_spot_2 rfl (Nat.le_of_ble_eq_true rfl) (Nat.le_of_ble_eq_true rfl) fl_12_1 rfl rfl rfl rfl qσ1 (by decide) ?_
  refine g_aload_n C dX12_spot_5 rfl ?_
  refine g_getI (j := 30) C dX12_spot_6 rfl (Nat.le_of_ble_eq_true rfl) (Nat.le_of_ble_eq_true rfl) fl_12_330 rfl rfl (fun i2 => ?_)
  refine g_bipush C dX12_spot_9 rfl ?_
  refine g_icmp_ne C dX12_spot_11 i2 (by decide) rfl (tgt := 16) (fun c3 => ?_) (fun c3 => ?_)
  · have h := ifF c3 h
    refine g_aload_n C dX12_spot_16 rfl ?_
    refine g_dup C dX12_spot_17 rfl ?_
    refine g_getI (j := 30) C dX12_spot_18 rfl (Nat.le_of_ble_eq_true rfl) (Nat.le_of_ble_eq_true rfl) fl_12_330 rfl rfl (fun i4 => ?_)
    refine g_iconst C dX12_spot_21 ?_
    refine g_iadd C dX12_spot_22 ?_
    obtain ⟨σ5, qσ5, h⟩ := bnd h
    refine g_putI (j := 30) C dX12_spot_23 rfl (Nat.le_of_ble_eq_true rfl) (Nat.le_of_ble_eq_true rfl) fl_12_330 rfl rfl rfl rfl qσ5 (iwr _) ?_
    refine g_aload_n C dX12_spot_26 rfl ?_
    refine g_iconst C dX12_spot_27 ?_
    obtain ⟨σ6, qσ6, h⟩ := bnd h
    refine g_putI (j := 74) C dX12_spot_28 rfl (Nat.le_of_ble_eq_true rfl) (Nat.le_of_ble_eq_true rfl) fl_12_173 rfl rfl rfl rfl qσ6 (by decide) ?_
    refine g_aload_n C dX12_spot_31 rfl ?_
    refine g_getI (j := 30) C dX12_spot_32 rfl (Nat.le_of_ble_eq_true rfl) (Nat.le_of_ble_eq_true rfl) fl_12_330 rfl rfl (fun i7 => ?_)
    refine g_iconst C dX12_spot_35 ?_
    refine g_isub C dX12_spot_36 ?_
    exact g_iretP C dX12_spot_37 hr hlk h (iwr _)
  · have h := ifT c3 h
    refine g_iconst C dX12_spot_14 ?_
    exact g_iretP C dX12_spot_15 hr hlk h (by decide)
theorem dX12_way_0 : decode cX12_way 0 = .ok (.aload_n 0, 1) := by decide +kernel
theorem dX12_way_1 : decode cX12_way 1 = .ok (.iconst 0, 1) := by decide +kernel
theorem dX12_way_2 : decode cX12_way 2 = .ok (.putfield 1, 3) := by decide +kernel
theorem dX12_way_5 : decode cX12_way 5 = .ok (.aload_n 0, 1) := by decide +kernel
theorem dX12_way_6 : decode cX12_way 6 = .ok (.getfield 336, 3) := by decide +kernel
theorem dX12_way_9 : decode cX12_way 9 = .ok (.bipush 24, 2) := by decide +kernel
theorem dX12_way_11 : decode cX12_way 11 = .ok (.if_icmp .eq 35, 3) := by decide +kernel
theorem dX12_way_14 : decode cX12_way 14 = .ok (.aload_n 0, 1) := by decide +kernel
theorem dX12_way_15 : decode cX12_way 15 = .ok (.iload_n 1, 1) := by decide +kernel
theorem dX12_way_16 : decode cX12_way 16 = .ok (.invokevirtual 339, 3) := by decide +kernel
theorem dX12_way_19 : decode cX12_way 19 = .ok (.ifCond .eq 27, 3) := by decide +kernel
theorem dX12_way_22 : decode cX12_way 22 = .ok (.aload_n 0, 1) := by decide +kernel
theorem dX12_way_23 : decode cX12_way 23 = .ok (.iload_n 2, 1) := by decide +kernel
theorem dX12_way_24 : decode cX12_way 24 = .ok (.invokevirtual 339, 3) := by decide +kernel
theorem dX12_way_27 : decode cX12_way 27 = .ok (.ifCond .eq 19, 3) := by decide +kernel
theorem dX12_way_30 : decode cX12_way 30 = .ok (.iload_n 1, 1) := by decide +kernel
theorem dX12_way_31 : decode cX12_way 31 = .ok (.iload_n 2, 1) := by decide +kernel
theorem dX12_way_32 : decode cX12_way 32 = .ok (.if_icmp .eq 14, 3) := by decide +kernel
theorem dX12_way_35 : decode cX12_way 35 = .ok (.iload_n 3, 1) := by decide +kernel
theorem dX12_way_36 : decode cX12_way 36 = .ok (.iconst 1, 1) := by decide +kernel
theorem dX12_way_37 : decode cX12_way 37 = .ok (.if_icmp .lt 9, 3) := by decide +kernel
theorem dX12_way_40 : decode cX12_way 40 = .ok (.iload_n 3, 1) := by decide +kernel
theorem dX12_way_41 : decode cX12_way 41 = .ok (.bipush 9, 2) := by decide +kernel
theorem dX12_way_43 : decode cX12_way 43 = .ok (.if_icmp .le 5, 3) := by decide +kernel
theorem dX12_way_46 : decode cX12_way 46 = .ok (.iconst (-1), 1) := by decide +kernel
theorem dX12_way_47 : decode cX12_way 47 = .ok (.ireturn, 1) := by decide +kernel
theorem dX12_way_48 : decode cX12_way 48 = .ok (.aload_n 0, 1) := by decide +kernel
theorem dX12_way_49 : decode cX12_way 49 = .ok (.getfield 67, 3) := by decide +kernel
theorem dX12_way_52 : decode cX12_way 52 = .ok (.aload_n 0, 1) := by decide +kernel
theorem dX12_way_53 : decode cX12_way 53 = .ok (.getfield 336, 3) := by decide +kernel
theorem dX12_way_56 : decode cX12_way 56 = .ok (.iload_n 1, 1) := by decide +kernel
theorem dX12_way_57 : decode cX12_way 57 = .ok (.iastore, 1) := by decide +kernel
theorem dX12_way_58 : decode cX12_way 58 = .ok (.aload_n 0, 1) := by decide +kernel
theorem dX12_way_59 : decode cX12_way 59 = .ok (.getfield 70, 3) := by decide +kernel
theorem dX12_way_62 : decode cX12_way 62 = .ok (.aload_n 0, 1) := by decide +kernel
theorem dX12_way_63 : decode cX12_way 63 = .ok (.getfield 336, 3) := by decide +kernel
theorem dX12_way_66 : decode cX12_way 66 = .ok (.iload_n 2, 1) := by decide +kernel
theorem dX12_way_67 : decode cX12_way 67 = .ok (.iastore, 1) := by decide +kernel
theorem dX12_way_68 : decode cX12_way 68 = .ok (.aload_n 0, 1) := by decide +kernel
theorem dX12_way_69 : decode cX12_way 69 = .ok (.getfield 73, 3) := by decide +kernel
theorem dX12_way_72 : decode cX12_way 72 = .ok (.aload_n 0, 1) := by decide +kernel
theorem dX12_way_73 : decode cX12_way 73 = .ok (.getfield 336, 3) := by decide +kernel
theorem dX12_way_76 : decode cX12_way 76 = .ok (.iload_n 3, 1) := by decide +kernel
theorem dX12_way_77 : decode cX12_way 77 = .ok (.iastore, 1) := by decide +kernel
theorem dX12_way_78 : decode cX12_way 78 = .ok (.aload_n 0, 1) := by decide +kernel
theorem dX12_way_79 : decode cX12_way 79 = .ok (.dup, 1) := by decide +kernel
theorem dX12_way_80 : decode cX12_way 80 = .ok (.getfield 336, 3) := by decide +kernel
theorem dX12_way_83 : decode cX12_way 83 = .ok (.iconst 1, 1) := by decide +kernel
theorem dX12_way_84 : decode cX12_way 84 = .ok (.iadd, 1) := by decide +kernel
theorem dX12_way_85 : decode cX12_way 85 = .ok (.putfield 336, 3) := by decide +kernel
theorem dX12_way_88 : decode cX12_way 88 = .ok (.aload_n 0, 1) := by decide +kernel
theorem dX12_way_89 : decode cX12_way 89 = .ok (.iconst (-1), 1) := by decide +kernel
theorem dX12_way_90 : decode cX12_way 90 = .ok (.putfield 173, 3) := by decide +kernel
theorem dX12_way_93 : decode cX12_way 93 = .ok (.aload_n 0, 1) := by decide +kernel
theorem dX12_way_94 : decode cX12_way 94 = .ok (.getfield 336, 3) := by decide +kernel
theorem dX12_way_97 : decode cX12_way 97 = .ok (.iconst 1, 1) := by decide +kernel
theorem dX12_way_98 : decode cX12_way 98 = .ok (.isub, 1) := by decide +kernel
theorem dX12_way_99 : decode cX12_way 99 = .ok (.ireturn, 1) := by decide +kernel
abbrev rm_X12_way : Room := { frames := 1, cells := 0, slots := 0, locals := 21 }
set_option maxRecDepth 100000 in
set_option maxHeartbeats 4000000 in
theorem ct_X12_way {w : Wd} {l : Launch} {a1 : Int} {a2 : Int} {a3 : Int} {σ : St} {y : Int} {σ' : St} (ia1 : InI a1) (ia2 : InI a2) (ia3 : InI a3) (h : m_X12_way a1 a2 a3 σ = some (y, σ')) : Ct w l yX12_way (Cond.code yX12_way cX12_way 4 (some .int) :: TB) rm_X12_way [rv w 170, iv a1, iv a2, iv a3] σ (some (iv y)) (InI y) σ' := by
  refine Ct.of2 [some (rv w 170), some (iv a1), some (iv a2), some (iv a3)] 0 rfl pn_RX12 (Nat.le_of_ble_eq_true rfl) ?_
  intro p e s m args below meth c C hr hlk
  unfold m_X12_way at h
  refine g_aload_n C dX12_way_0 rfl ?_
  refine g_iconst C dX12_way_1 ?_
  obtain ⟨σ1, qσ1, h⟩ := bnd h
  refine g_putI (j := 0) C dX12_way_2 rfl (Nat.le_of_ble_eq_true rfl) (Nat.le_of_ble_eq_true rfl) fl_12_1 rfl rfl rfl rfl qσ1 (by decide) ?_
  refine g_aload_n C dX12_way_5 rfl ?_
  refine g_getI (j := 31) C dX12_way_6 rfl (Nat.le_of_ble_eq_true rfl) (Nat.le_of_ble_eq_true rfl) fl_12_336 rfl rfl (fun i2 => ?_)
  refine g_bipush C dX12_way_9 rfl ?_
  refine g_icmp_eq C dX12_way_11 i2 (by decide) rfl (tgt := 46) (fun c3 => ?_) (fun c3 => ?_)
  · have h := ifT c3 h
    refine g_iconst C dX12_way_46 ?_
    exact g_iretP C dX12_way_47 hr hlk h (by decide)
  · have h := ifF c3 h
    refine g_aload_n C dX12_way_14 rfl ?_
    refine g_iload_n C dX12_way_15 rfl ?_
    obtain ⟨x4, qx4, h⟩ := bnd h
    refine g_callV1 (As := [iv a1]) C dX12_way_16 mi_X12_isSpot ml_12_339 (ct_X12_isSpot ia1 qx4) rfl rfl ⟨rfl, rfl⟩ ⟨Nat.le_of_ble_eq_true rfl, Nat.le_of_ble_eq_true rfl⟩ ⟨Nat.zero_le _, Nat.zero_le _⟩ rfl (Nat.le_of_ble_eq_true rfl) (fun ix4 => ?_)
    refine g_if_eq C dX12_way_19 (zI ix4) rfl (tgt := 46) (fun c5 => ?_) (fun c5 => ?_)
    · have h := ifT c5 h
      refine g_iconst C dX12_way_46 ?_
      exact g_iretP C dX12_way_47 hr hlk h (by decide)
    · have h := ifF c5 h
      refine g_aload_n C dX12_way_22 rfl ?_
      refine g_iload_n C dX12_way_23 rfl ?_
      obtain ⟨x6, qx6, h⟩ := bnd h
      refine g_callV1 (As := [iv a2]) C dX12_way_24 mi_X12_isSpot ml_12_339 (ct_X12_isSpot ia2 qx6) rfl rfl ⟨rfl, rfl⟩ ⟨Nat.le_of_ble_eq_true rfl, Nat.le_of_ble_eq_true rfl⟩ ⟨Nat.zero_le _, Nat.zero_le _⟩ rfl (Nat.le_of_ble_eq_true rfl) (fun ix6 => ?_)
      refine g_if_eq C dX12_way_27 (zI ix6) rfl (tgt := 46) (fun c7 => ?_) (fun c7 => ?_)
      · have h := ifT c7 h
        refine g_iconst C dX12_way_46 ?_
        exact g_iretP C dX12_way_47 hr hlk h (by decide)
      · have h := ifF c7 h
        refine g_iload_n C dX12_way_30 rfl ?_
        refine g_iload_n C dX12_way_31 rfl ?_
        refine g_icmp_eq C dX12_way_32 ia1 ia2 rfl (tgt := 46) (fun c8 => ?_) (fun c8 => ?_)
        · have h := ifT c8 h
          refine g_iconst C dX12_way_46 ?_
          exact g_iretP C dX12_way_47 hr hlk h (by decide)
        · have h := ifF c8 h
          refine g_iload_n C dX12_way_35 rfl ?_
          refine g_iconst C dX12_way_36 ?_
          refine g_icmp_lt C dX12_way_37 ia3 (by decide) rfl (tgt := 46) (fun c9 => ?_) (fun c9 => ?_)
          · have h := ifT c9 h
            refine g_iconst C dX12_way_46 ?_
            exact g_iretP C dX12_way_47 hr hlk h (by decide)
          · have h := ifF c9 h
            refine g_iload_n C dX12_way_40 rfl ?_
            refine g_bipush C dX12_way_41 rfl ?_
            refine g_icmp_le C dX12_way_43 ia3 (by decide) rfl (tgt := 48) (fun c10 => ?_) (fun c10 => ?_)
            · have h := ifT c10 h
              refine g_aload_n C dX12_way_48 rfl ?_
              refine g_getR (j := 32) C dX12_way_49 rfl (Nat.le_of_ble_eq_true rfl) (Nat.le_of_ble_eq_true rfl) fl_12_67 rfl rfl (r := 187) rfl ?_
              refine g_aload_n C dX12_way_52 rfl ?_
              refine g_getI (j := 31) C dX12_way_53 rfl (Nat.le_of_ble_eq_true rfl) (Nat.le_of_ble_eq_true rfl) fl_12_336 rfl rfl (fun i11 => ?_)
              refine g_iload_n C dX12_way_56 rfl ?_
              obtain ⟨σ12, qσ12, h⟩ := bnd h
              refine g_iast C dX12_way_57 rfl rfl qσ12 i11 ia1 ?_
              refine g_aload_n C dX12_way_58 rfl ?_
              refine g_getR (j := 33) C dX12_way_59 rfl (Nat.le_of_ble_eq_true rfl) (Nat.le_of_ble_eq_true rfl) fl_12_70 rfl rfl (r := 188) rfl ?_
              refine g_aload_n C dX12_way_62 rfl ?_
              refine g_getI (j := 31) C dX12_way_63 rfl (Nat.le_of_ble_eq_true rfl) (Nat.le_of_ble_eq_true rfl) fl_12_336 rfl rfl (fun i13 => ?_)
              refine g_iload_n C dX12_way_66 rfl ?_
              obtain ⟨σ14, qσ14, h⟩ := bnd h
              refine g_iast C dX12_way_67 rfl rfl qσ14 i13 ia2 ?_
              refine g_aload_n C dX12_way_68 rfl ?_
              refine g_getR (j := 34) C dX12_way_69 rfl (Nat.le_of_ble_eq_true rfl) (Nat.le_of_ble_eq_true rfl) fl_12_73 rfl rfl (r := 189) rfl ?_
              refine g_aload_n C dX12_way_72 rfl ?_
              refine g_getI (j := 31) C dX12_way_73 rfl (Nat.le_of_ble_eq_true rfl) (Nat.le_of_ble_eq_true rfl) fl_12_336 rfl rfl (fun i15 => ?_)
              refine g_iload_n C dX12_way_76 rfl ?_
              obtain ⟨σ16, qσ16, h⟩ := bnd h
              refine g_iast C dX12_way_77 rfl rfl qσ16 i15 ia3 ?_
              refine g_aload_n C dX12_way_78 rfl ?_
              refine g_dup C dX12_way_79 rfl ?_
              refine g_getI (j := 31) C dX12_way_80 rfl (Nat.le_of_ble_eq_true rfl) (Nat.le_of_ble_eq_true rfl) fl_12_336 rfl rfl (fun i17 => ?_)
              refine g_iconst C dX12_way_83 ?_
              refine g_iadd C dX12_way_84 ?_
              obtain ⟨σ18, qσ18, h⟩ := bnd h
              refine g_putI (j := 31) C dX12_way_85 rfl (Nat.le_of_ble_eq_true rfl) (Nat.le_of_ble_eq_true rfl) fl_12_336 rfl rfl rfl rfl qσ18 (iwr _) ?_
              refine g_aload_n C dX12_way_88 rfl ?_
              refine g_iconst C dX12_way_89 ?_
              obtain ⟨σ19, qσ19, h⟩ := bnd h
              refine g_putI (j := 74) C dX12_way_90 rfl (Nat.le_of_ble_eq_true rfl) (Nat.le_of_ble_eq_true rfl) fl_12_173 rfl rfl rfl rfl qσ19 (by decide) ?_
              refine g_aload_n C dX12_way_93 rfl ?_
              refine g_getI (j := 31) C dX12_way_94 rfl (Nat.le_of_ble_eq_true rfl) (Nat.le_of_ble_eq_true rfl) fl_12_336 rfl rfl (fun i20 => ?_)
              refine g_iconst C dX12_way_97 ?_
              refine g_isub C dX12_way_98 ?_
              exact g_iretP C dX12_way_99 hr hlk h (iwr _)
            · have h := ifF c10 h
              refine g_iconst C dX12_way_46 ?_
              exact g_iretP C dX12_way_47 hr hlk h (by decide)
theorem dX12_agent_0 : decode cX12_agent 0 = .ok (.aload_n 0, 1) := by decide +kernel
theorem dX12_agent_1 : decode cX12_agent 1 = .ok (.iconst 0, 1) := by decide +kernel
theorem dX12_agent_2 : decode cX12_agent 2 = .ok (.putfield 1, 3) := by decide +kernel
theorem dX12_agent_5 : decode cX12_agent 5 = .ok (.aload_n 0, 1) := by decide +kernel
theorem dX12_agent_6 : decode cX12_agent 6 = .ok (.getfield 333, 3) := by decide +kernel
theorem dX12_agent_9 : decode cX12_agent 9 = .ok (.bipush 8, 2) := by decide +kernel
theorem dX12_agent_11 : decode cX12_agent 11 = .ok (.if_icmp .eq 22, 3) := by decide +kernel
theorem dX12_agent_14 : decode cX12_agent 14 = .ok (.aload_n 0, 1) := by decide +kernel
theorem dX12_agent_15 : decode cX12_agent 15 = .ok (.iload_n 1, 1) := by decide +kernel
theorem dX12_agent_16 : decode cX12_agent 16 = .ok (.invokevirtual 339, 3) := by decide +kernel
theorem dX12_agent_19 : decode cX12_agent 19 = .ok (.ifCond .eq 14, 3) := by decide +kernel
theorem dX12_agent_22 : decode cX12_agent 22 = .ok (.iload_n 2, 1) := by decide +kernel
theorem dX12_agent_23 : decode cX12_agent 23 = .ok (.ifCond .lt 10, 3) := by decide +kernel
theorem dX12_agent_26 : decode cX12_agent 26 = .ok (.iload_n 2, 1) := by decide +kernel
theorem dX12_agent_27 : decode cX12_agent 27 = .ok (.sipush 255, 3) := by decide +kernel
theorem dX12_agent_30 : decode cX12_agent 30 = .ok (.if_icmp .le 5, 3) := by decide +kernel
theorem dX12_agent_33 : decode cX12_agent 33 = .ok (.iconst (-1), 1) := by decide +kernel
theorem dX12_agent_34 : decode cX12_agent 34 = .ok (.ireturn, 1) := by decide +kernel
theorem dX12_agent_35 : decode cX12_agent 35 = .ok (.aload_n 0, 1) := by decide +kernel
theorem dX12_agent_36 : decode cX12_agent 36 = .ok (.getfield 76, 3) := by decide +kernel
theorem dX12_agent_39 : decode cX12_agent 39 = .ok (.aload_n 0, 1) := by decide +kernel
theorem dX12_agent_40 : decode cX12_agent 40 = .ok (.getfield 333, 3) := by decide +kernel
theorem dX12_agent_43 : decode cX12_agent 43 = .ok (.iload_n 1, 1) := by decide +kernel
theorem dX12_agent_44 : decode cX12_agent 44 = .ok (.iastore, 1) := by decide +kernel
theorem dX12_agent_45 : decode cX12_agent 45 = .ok (.aload_n 0, 1) := by decide +kernel
theorem dX12_agent_46 : decode cX12_agent 46 = .ok (.getfield 79, 3) := by decide +kernel
theorem dX12_agent_49 : decode cX12_agent 49 = .ok (.aload_n 0, 1) := by decide +kernel
theorem dX12_agent_50 : decode cX12_agent 50 = .ok (.getfield 333, 3) := by decide +kernel
theorem dX12_agent_53 : decode cX12_agent 53 = .ok (.iload_n 2, 1) := by decide +kernel
theorem dX12_agent_54 : decode cX12_agent 54 = .ok (.iastore, 1) := by decide +kernel
theorem dX12_agent_55 : decode cX12_agent 55 = .ok (.aload_n 0, 1) := by decide +kernel
theorem dX12_agent_56 : decode cX12_agent 56 = .ok (.getfield 82, 3) := by decide +kernel
theorem dX12_agent_59 : decode cX12_agent 59 = .ok (.aload_n 0, 1) := by decide +kernel
theorem dX12_agent_60 : decode cX12_agent 60 = .ok (.getfield 333, 3) := by decide +kernel
theorem dX12_agent_63 : decode cX12_agent 63 = .ok (.iconst (-1), 1) := by decide +kernel
theorem dX12_agent_64 : decode cX12_agent 64 = .ok (.iastore, 1) := by decide +kernel
theorem dX12_agent_65 : decode cX12_agent 65 = .ok (.aload_n 0, 1) := by decide +kernel
theorem dX12_agent_66 : decode cX12_agent 66 = .ok (.dup, 1) := by decide +kernel
theorem dX12_agent_67 : decode cX12_agent 67 = .ok (.getfield 333, 3) := by decide +kernel
theorem dX12_agent_70 : decode cX12_agent 70 = .ok (.iconst 1, 1) := by decide +kernel
theorem dX12_agent_71 : decode cX12_agent 71 = .ok (.iadd, 1) := by decide +kernel
theorem dX12_agent_72 : decode cX12_agent 72 = .ok (.putfield 333, 3) := by decide +kernel
theorem dX12_agent_75 : decode cX12_agent 75 = .ok (.aload_n 0, 1) := by decide +kernel
theorem dX12_agent_76 : decode cX12_agent 76 = .ok (.iconst (-1), 1) := by decide +kernel
theorem dX12_agent_77 : decode cX12_agent 77 = .ok (.putfield 173, 3) := by decide +kernel
theorem dX12_agent_80 : decode cX12_agent 80 = .ok (.aload_n 0, 1) := by decide +kernel
theorem dX12_agent_81 : decode cX12_agent 81 = .ok (.getfield 333, 3) := by decide +kernel
theorem dX12_agent_84 : decode cX12_agent 84 = .ok (.iconst 1, 1) := by decide +kernel
theorem dX12_agent_85 : decode cX12_agent 85 = .ok (.isub, 1) := by decide +kernel
theorem dX12_agent_86 : decode cX12_agent 86 = .ok (.ireturn, 1) := by decide +kernel
abbrev rm_X12_agent : Room := { frames := 1, cells := 0, slots := 0, locals := 21 }
set_option maxRecDepth 100000 in
set_option maxHeartbeats 4000000 in
theorem ct_X12_agent {w : Wd} {l : Launch} {a1 : Int} {a2 : Int} {σ : St} {y : Int} {σ' : St} (ia1 : InI a1) (ia2 : InI a2) (h : m_X12_agent a1 a2 σ = some (y, σ')) : Ct w l yX12_agent (Cond.code yX12_agent cX12_agent 3 (some .int) :: TB) rm_X12_agent [rv w 170, iv a1, iv a2] σ (some (iv y)) (InI y) σ' := by
  refine Ct.of2 [some (rv w 170), some (iv a1), some (iv a2)] 0 rfl pn_RX12 (Nat.le_of_ble_eq_true rfl) ?_
  intro p e s m args below meth c C hr hlk
  unfold m_X12_agent at h
  refine g_aload_n C dX12_agent_0 rfl ?_
  refine g_iconst C dX12_agent_1 ?_
  obtain ⟨σ1, qσ1, h⟩ := bnd h
  refine g_putI (j := 0) C dX12_agent_2 rfl (Nat.le_of_ble_eq_true rfl) (Nat.le_of_ble_eq_true rfl) fl_12_1 rfl rfl rfl rfl qσ1 (by decide) ?_
  refine g_aload_n C dX12_agent_5 rfl ?_
  refine g_getI (j := 35) C dX12_agent_6 rfl (Nat.le_of_ble_eq_true rfl) (Nat.le_of_ble_eq_true rfl) fl_12_333 rfl rfl (fun i2 => ?_)
  refine g_bipush C dX12_agent_9 rfl ?_
  refine g_icmp_eq C dX12_agent_11 i2 (by decide) rfl (tgt := 33) (fun c3 => ?_) (fun c3 => ?_)
  · have h := ifT c3 h
    refine g_iconst C dX12_agent_33 ?_
    exact g_iretP C dX12_agent_34 hr hlk h (by decide)
  · have h := ifF c3 h
    refine g_aload_n C dX12_agent_14 rfl ?_
    refine g_iload_n C dX12_agent_15 rfl ?_
    obtain ⟨x4, qx4, h⟩ := bnd h
    refine g_callV1 (As := [iv a1]) C dX12_agent_16 mi_X12_isSpot ml_12_339 (ct_X12_isSpot ia1 qx4) rfl rfl ⟨rfl, rfl⟩ ⟨Nat.le_of_ble_eq_true rfl, Nat.le_of_ble_eq_true rfl⟩ ⟨Nat.zero_le _, Nat.zero_le _⟩ rfl (Nat.le_of_ble_eq_true rfl) (fun ix4 => ?_)
    refine g_if_eq C dX12_agent_19 (zI ix4) rfl (tgt := 33) (fun c5 => ?_) (fun c5 => ?_)
    · have h := ifT c5 h
      refine g_iconst C dX12_agent_33 ?_
      exact g_iretP C dX12_agent_34 hr hlk h (by decide)
    · have h := ifF c5 h
      refine g_iload_n C dX12_agent_22 rfl ?_
      refine g_if_lt C dX12_agent_23 ia2 rfl (tgt := 33) (fun c6 => ?_) (fun c6 => ?_)
      · have h := ifT c6 h
        refine g_iconst C dX12_agent_33 ?_
        exact g_iretP C dX12_agent_34 hr hlk h (by decide)
      · have h := ifF c6 h
        refine g_iload_n C dX12_agent_26 rfl ?_
        refine g_sipush C dX12_agent_27 rfl ?_
        refine g_icmp_le C dX12_agent_30 ia2 (by decide) rfl (tgt := 35) (fun c7 => ?_) (fun c7 => ?_)
        · have h := ifT c7 h
          refine g_aload_n C dX12_agent_35 rfl ?_
          refine g_getR (j := 36) C dX12_agent_36 rfl (Nat.le_of_ble_eq_true rfl) (Nat.le_of_ble_eq_true rfl) fl_12_76 rfl rfl (r := 190) rfl ?_
          refine g_aload_n C dX12_agent_39 rfl ?_
          refine g_getI (j := 35) C dX12_agent_40 rfl (Nat.le_of_ble_eq_true rfl) (Nat.le_of_ble_eq_true rfl) fl_12_333 rfl rfl (fun i8 => ?_)
          refine g_iload_n C dX12_agent_43 rfl ?_
          obtain ⟨σ9, qσ9, h⟩ := bnd h
          refine g_iast C dX12_agent_44 rfl rfl qσ9 i8 ia1 ?_
          refine g_aload_n C dX12_agent_45 rfl ?_
          refine g_getR (j := 37) C dX12_agent_46 rfl (Nat.le_of_ble_eq_true rfl) (Nat.le_of_ble_eq_true rfl) fl_12_79 rfl rfl (r := 191) rfl ?_
          refine g_aload_n C dX12_agent_49 rfl ?_
          refine g_getI (j := 35) C dX12_agent_50 rfl (Nat.le_of_ble_eq_true rfl) (Nat.le_of_ble_eq_true rfl) fl_12_333 rfl rfl (fun i10 => ?_)
          refine g_iload_n C dX12_agent_53 rfl ?_
          obtain ⟨σ11, qσ11, h⟩ := bnd h
          refine g_iast C dX12_agent_54 rfl rfl qσ11 i10 ia2 ?_
          refine g_aload_n C dX12_agent_55 rfl ?_
          refine g_getR (j := 38) C dX12_agent_56 rfl (Nat.le_of_ble_eq_true rfl) (Nat.le_of_ble_eq_true rfl) fl_12_82 rfl rfl (r := 192) rfl ?_
          refine g_aload_n C dX12_agent_59 rfl ?_
          refine g_getI (j := 35) C dX12_agent_60 rfl (Nat.le_of_ble_eq_true rfl) (Nat.le_of_ble_eq_true rfl) fl_12_333 rfl rfl (fun i12 => ?_)
          refine g_iconst C dX12_agent_63 ?_
          obtain ⟨σ13, qσ13, h⟩ := bnd h
          refine g_iast C dX12_agent_64 rfl rfl qσ13 i12 (by decide) ?_
          refine g_aload_n C dX12_agent_65 rfl ?_
          refine g_dup C dX12_agent_66 rfl ?_
          refine g_getI (j := 35) C dX12_agent_67 rfl (Nat.le_of_ble_eq_true rfl) (Nat.le_of_ble_eq_true rfl) fl_12_333 rfl rfl (fun i14 => ?_)
          refine g_iconst C dX12_agent_70 ?_
          refine g_iadd C dX12_agent_71 ?_
          obtain ⟨σ15, qσ15, h⟩ := bnd h
          refine g_putI (j := 35) C dX12_agent_72 rfl (Nat.le_of_ble_eq_true rfl) (Nat.le_of_ble_eq_true rfl) fl_12_333 rfl rfl rfl rfl qσ15 (iwr _) ?_
          refine g_aload_n C dX12_agent_75 rfl ?_
          refine g_iconst C dX12_agent_76 ?_
          obtain ⟨σ16, qσ16, h⟩ := bnd h
          refine g_putI (j := 74) C dX12_agent_77 rfl (Nat.le_of_ble_eq_true rfl) (Nat.le_of_ble_eq_true rfl) fl_12_173 rfl rfl rfl rfl qσ16 (by decide) ?_
          refine g_aload_n C dX12_agent_80 rfl ?_
          refine g_getI (j := 35) C dX12_agent_81 rfl (Nat.le_of_ble_eq_true rfl) (Nat.le_of_ble_eq_true rfl) fl_12_333 rfl rfl (fun i17 => ?_)
          refine g_iconst C dX12_agent_84 ?_
          refine g_isub C dX12_agent_85 ?_
          exact g_iretP C dX12_agent_86 hr hlk h (iwr _)
        · have h := ifF c7 h
          refine g_iconst C dX12_agent_33 ?_
          exact g_iretP C dX12_agent_34 hr hlk h (by decide)
theorem dX12_give_0 : decode cX12_give 0 = .ok (.aload_n 0, 1) := by decide +kernel
theorem dX12_give_1 : decode cX12_give 1 = .ok (.iconst 0, 1) := by decide +kernel
theorem dX12_give_2 : decode cX12_give 2 = .ok (.putfield 1, 3) := by decide +kernel
theorem dX12_give_5 : decode cX12_give 5 = .ok (.aload_n 0, 1) := by decide +kernel
theorem dX12_give_6 : decode cX12_give 6 = .ok (.iload_n 1, 1) := by decide +kernel
theorem dX12_give_7 : decode cX12_give 7 = .ok (.invokevirtual 342, 3) := by decide +kernel
theorem dX12_give_10 : decode cX12_give 10 = .ok (.ifCond .eq 21, 3) := by decide +kernel
theorem dX12_give_13 : decode cX12_give 13 = .ok (.iload_n 2, 1) := by decide +kernel
theorem dX12_give_14 : decode cX12_give 14 = .ok (.iconst (-1), 1) := by decide +kernel
theorem dX12_give_15 : decode cX12_give 15 = .ok (.if_icmp .lt 16, 3) := by decide +kernel
theorem dX12_give_18 : decode cX12_give 18 = .ok (.iload_n 2, 1) := by decide +kernel
theorem dX12_give_19 : decode cX12_give 19 = .ok (.aload_n 0, 1) := by decide +kernel
theorem dX12_give_20 : decode cX12_give 20 = .ok (.getfield 40, 3) := by decide +kernel
theorem dX12_give_23 : decode cX12_give 23 = .ok (.aload_n 0, 1) := by decide +kernel
theorem dX12_give_24 : decode cX12_give 24 = .ok (.getfield 283, 3) := by decide +kernel
theorem dX12_give_27 : decode cX12_give 27 = .ok (.iaload, 1) := by decide +kernel
theorem dX12_give_28 : decode cX12_give 28 = .ok (.if_icmp .lt 5, 3) := by decide +kernel
theorem dX12_give_31 : decode cX12_give 31 = .ok (.iconst 0, 1) := by decide +kernel
theorem dX12_give_32 : decode cX12_give 32 = .ok (.ireturn, 1) := by decide +kernel
theorem dX12_give_33 : decode cX12_give 33 = .ok (.aload_n 0, 1) := by decide +kernel
theorem dX12_give_34 : decode cX12_give 34 = .ok (.getfield 82, 3) := by decide +kernel
theorem dX12_give_37 : decode cX12_give 37 = .ok (.iload_n 1, 1) := by decide +kernel
theorem dX12_give_38 : decode cX12_give 38 = .ok (.iload_n 2, 1) := by decide +kernel
theorem dX12_give_39 : decode cX12_give 39 = .ok (.iastore, 1) := by decide +kernel
theorem dX12_give_40 : decode cX12_give 40 = .ok (.iconst 1, 1) := by decide +kernel
theorem dX12_give_41 : decode cX12_give 41 = .ok (.ireturn, 1) := by decide +kernel
abbrev rm_X12_give : Room := { frames := 1, cells := 0, slots := 0, locals := 21 }
set_option maxRecDepth 100000 in
set_option maxHeartbeats 4000000 in
theorem ct_X12_give {w : Wd} {l : Launch} {a1 : Int} {a2 : Int} {σ : St} {y : Int} {σ' : St} (ia1 : InI a1) (ia2 : InI a2) (h : m_X12_give a1 a2 σ = some (y, σ')) : Ct w l yX12_give (Cond.code yX12_give cX12_give 3 (some .boolean) :: TB) rm_X12_give [rv w 170, iv a1, iv a2] σ (some (iv y)) (InZ y) σ' := by
  refine Ct.of2 [some (rv w 170), some (iv a1), some (iv a2)] 0 rfl pn_RX12 (Nat.le_of_ble_eq_true rfl) ?_
  intro p e s m args below meth c C hr hlk
  unfold m_X12_give at h
  refine g_aload_n C dX12_give_0 rfl ?_
  refine g_iconst C dX12_give_1 ?_
  obtain ⟨σ1, qσ1, h⟩ := bnd h
  refine g_putI (j := 0) C dX12_give_2 rfl (Nat.le_of_ble_eq_true rfl) (Nat.le_of_ble_eq_true rfl) fl_12_1 rfl rfl rfl rfl qσ1 (by decide) ?_
  refine g_aload_n C dX12_give_5 rfl ?_
  refine g_iload_n C dX12_give_6 rfl ?_
  obtain ⟨x2, qx2, h⟩ := bnd h
  refine g_callV1 (As := [iv a1]) C dX12_give_7 mi_X12_isAgent ml_12_342 (ct_X12_isAgent ia1 qx2) rfl rfl ⟨rfl, rfl⟩ ⟨Nat.le_of_ble_eq_true rfl, Nat.le_of_ble_eq_true rfl⟩ ⟨Nat.zero_le _, Nat.zero_le _⟩ rfl (Nat.le_of_ble_eq_true rfl) (fun ix2 => ?_)
  refine g_if_eq C dX12_give_10 (zI ix2) rfl (tgt := 31) (fun c3 => ?_) (fun c3 => ?_)
  · have h := ifT c3 h
    refine g_iconst C dX12_give_31 ?_
    exact g_zretP C dX12_give_32 hr hlk h (Or.inl rfl)
  · have h := ifF c3 h
    refine g_iload_n C dX12_give_13 rfl ?_
    refine g_iconst C dX12_give_14 ?_
    refine g_icmp_lt C dX12_give_15 ia2 (by decide) rfl (tgt := 31) (fun c4 => ?_) (fun c4 => ?_)
    · have h := ifT c4 h
      refine g_iconst C dX12_give_31 ?_
      exact g_zretP C dX12_give_32 hr hlk h (Or.inl rfl)
    · have h := ifF c4 h
      refine g_iload_n C dX12_give_18 rfl ?_
      refine g_aload_n C dX12_give_19 rfl ?_
      refine g_getR (j := 19) C dX12_give_20 rfl (Nat.le_of_ble_eq_true rfl) (Nat.le_of_ble_eq_true rfl) fl_12_40 rfl rfl (r := 178) rfl ?_
      refine g_aload_n C dX12_give_23 rfl ?_
      refine g_getI (j := 17) C dX12_give_24 rfl (Nat.le_of_ble_eq_true rfl) (Nat.le_of_ble_eq_true rfl) fl_12_283 rfl rfl (fun i5 => ?_)
      obtain ⟨x6, qx6, h⟩ := bnd h
      refine g_iald C dX12_give_27 rfl rfl qx6 i5 (fun ix6 => ?_)
      refine g_icmp_lt C dX12_give_28 ia2 ix6 rfl (tgt := 33) (fun c7 => ?_) (fun c7 => ?_)
      · have h := ifT c7 h
        refine g_aload_n C dX12_give_33 rfl ?_
        refine g_getR (j := 38) C dX12_give_34 rfl (Nat.le_of_ble_eq_true rfl) (Nat.le_of_ble_eq_true rfl) fl_12_82 rfl rfl (r := 192) rfl ?_
        refine g_iload_n C dX12_give_37 rfl ?_
        refine g_iload_n C dX12_give_38 rfl ?_
        obtain ⟨σ8, qσ8, h⟩ := bnd h
        refine g_iast C dX12_give_39 rfl rfl qσ8 ia1 ia2 ?_
        refine g_iconst C dX12_give_40 ?_
        exact g_zretP C dX12_give_41 hr hlk h (Or.inr rfl)
      · have h := ifF c7 h
        refine g_iconst C dX12_give_31 ?_
        exact g_zretP C dX12_give_32 hr hlk h (Or.inl rfl)
theorem dX12_measures_0 : decode cX12_measures 0 = .ok (.iconst 0, 1) := by decide +kernel
theorem dX12_measures_1 : decode cX12_measures 1 = .ok (.istore_n 1, 1) := by decide +kernel
theorem dX12_measures_2 : decode cX12_measures 2 = .ok (.iload_n 1, 1) := by decide +kernel
theorem dX12_measures_3 : decode cX12_measures 3 = .ok (.bipush 100, 2) := by decide +kernel
theorem dX12_measures_5 : decode cX12_measures 5 = .ok (.if_icmp .ge 18, 3) := by decide +kernel
theorem dX12_measures_8 : decode cX12_measures 8 = .ok (.aload_n 0, 1) := by decide +kernel
theorem dX12_measures_9 : decode cX12_measures 9 = .ok (.getfield 85, 3) := by decide +kernel
theorem dX12_measures_12 : decode cX12_measures 12 = .ok (.iload_n 1, 1) := by decide +kernel
theorem dX12_measures_13 : decode cX12_measures 13 = .ok (.sipush 1000, 3) := by decide +kernel
theorem dX12_measures_16 : decode cX12_measures 16 = .ok (.iastore, 1) := by decide +kernel
theorem dX12_measures_17 : decode cX12_measures 17 = .ok (.iinc 1 1, 3) := by decide +kernel
theorem dX12_measures_20 : decode cX12_measures 20 = .ok (.goto (-18), 3) := by decide +kernel
theorem dX12_measures_23 : decode cX12_measures 23 = .ok (.iconst 0, 1) := by decide +kernel
theorem dX12_measures_24 : decode cX12_measures 24 = .ok (.istore_n 1, 1) := by decide +kernel
theorem dX12_measures_25 : decode cX12_measures 25 = .ok (.iload_n 1, 1) := by decide +kernel
theorem dX12_measures_26 : decode cX12_measures 26 = .ok (.aload_n 0, 1) := by decide +kernel
theorem dX12_measures_27 : decode cX12_measures 27 = .ok (.getfield 336, 3) := by decide +kernel
theorem dX12_measures_30 : decode cX12_measures 30 = .ok (.if_icmp .ge 93, 3) := by decide +kernel
theorem dX12_measures_33 : decode cX12_measures 33 = .ok (.aload_n 0, 1) := by decide +kernel
theorem dX12_measures_34 : decode cX12_measures 34 = .ok (.getfield 73, 3) := by decide +kernel
theorem dX12_measures_37 : decode cX12_measures 37 = .ok (.iload_n 1, 1) := by decide +kernel
theorem dX12_measures_38 : decode cX12_measures 38 = .ok (.iaload, 1) := by decide +kernel
theorem dX12_measures_39 : decode cX12_measures 39 = .ok (.aload_n 0, 1) := by decide +kernel
theorem dX12_measures_40 : decode cX12_measures 40 = .ok (.getfield 85, 3) := by decide +kernel
theorem dX12_measures_43 : decode cX12_measures 43 = .ok (.bipush 10, 2) := by decide +kernel
theorem dX12_measures_45 : decode cX12_measures 45 = .ok (.aload_n 0, 1) := by decide +kernel
theorem dX12_measures_46 : decode cX12_measures 46 = .ok (.getfield 67, 3) := by decide +kernel
theorem dX12_measures_49 : decode cX12_measures 49 = .ok (.iload_n 1, 1) := by decide +kernel
theorem dX12_measures_50 : decode cX12_measures 50 = .ok (.iaload, 1) := by decide +kernel
theorem dX12_measures_51 : decode cX12_measures 51 = .ok (.imul, 1) := by decide +kernel
theorem dX12_measures_52 : decode cX12_measures 52 = .ok (.aload_n 0, 1) := by decide +kernel
theorem dX12_measures_53 : decode cX12_measures 53 = .ok (.getfield 70, 3) := by decide +kernel
theorem dX12_measures_56 : decode cX12_measures 56 = .ok (.iload_n 1, 1) := by decide +kernel
theorem dX12_measures_57 : decode cX12_measures 57 = .ok (.iaload, 1) := by decide +kernel
theorem dX12_measures_58 : decode cX12_measures 58 = .ok (.iadd, 1) := by decide +kernel
theorem dX12_measures_59 : decode cX12_measures 59 = .ok (.iaload, 1) := by decide +kernel
theorem dX12_measures_60 : decode cX12_measures 60 = .ok (.if_icmp .ge 57, 3) := by decide +kernel
theorem dX12_measures_63 : decode cX12_measures 63 = .ok (.aload_n 0, 1) := by decide +kernel
theorem dX12_measures_64 : decode cX12_measures 64 = .ok (.getfield 85, 3) := by decide +kernel
theorem dX12_measures_67 : decode cX12_measures 67 = .ok (.bipush 10, 2) := by decide +kernel
theorem dX12_measures_69 : decode cX12_measures 69 = .ok (.aload_n 0, 1) := by decide +kernel
theorem dX12_measures_70 : decode cX12_measures 70 = .ok (.getfield 67, 3) := by decide +kernel
theorem dX12_measures_73 : decode cX12_measures 73 = .ok (.iload_n 1, 1) := by decide +kernel
theorem dX12_measures_74 : decode cX12_measures 74 = .ok (.iaload, 1) := by decide +kernel
theorem dX12_measures_75 : decode cX12_measures 75 = .ok (.imul, 1) := by decide +kernel
theorem dX12_measures_76 : decode cX12_measures 76 = .ok (.aload_n 0, 1) := by decide +kernel
theorem dX12_measures_77 : decode cX12_measures 77 = .ok (.getfield 70, 3) := by decide +kernel
theorem dX12_measures_80 : decode cX12_measures 80 = .ok (.iload_n 1, 1) := by decide +kernel
theorem dX12_measures_81 : decode cX12_measures 81 = .ok (.iaload, 1) := by decide +kernel
theorem dX12_measures_82 : decode cX12_measures 82 = .ok (.iadd, 1) := by decide +kernel
theorem dX12_measures_83 : decode cX12_measures 83 = .ok (.aload_n 0, 1) := by decide +kernel
theorem dX12_measures_84 : decode cX12_measures 84 = .ok (.getfield 73, 3) := by decide +kernel
theorem dX12_measures_87 : decode cX12_measures 87 = .ok (.iload_n 1, 1) := by decide +kernel
theorem dX12_measures_88 : decode cX12_measures 88 = .ok (.iaload, 1) := by decide +kernel
theorem dX12_measures_89 : decode cX12_measures 89 = .ok (.iastore, 1) := by decide +kernel
theorem dX12_measures_90 : decode cX12_measures 90 = .ok (.aload_n 0, 1) := by decide +kernel
theorem dX12_measures_91 : decode cX12_measures 91 = .ok (.getfield 85, 3) := by decide +kernel
theorem dX12_measures_94 : decode cX12_measures 94 = .ok (.bipush 10, 2) := by decide +kernel
theorem dX12_measures_96 : decode cX12_measures 96 = .ok (.aload_n 0, 1) := by decide +kernel
theorem dX12_measures_97 : decode cX12_measures 97 = .ok (.getfield 70, 3) := by decide +kernel
theorem dX12_measures_100 : decode cX12_measures 100 = .ok (.iload_n 1, 1) := by decide +kernel
theorem dX12_measures_101 : decode cX12_measures 101 = .ok (.iaload, 1) := by decide +kernel
theorem dX12_measures_102 : decode cX12_measures 102 = .ok (.imul, 1) := by decide +kernel
theorem dX12_measures_103 : decode cX12_measures 103 = .ok (.aload_n 0, 1) := by decide +kernel
theorem dX12_measures_104 : decode cX12_measures 104 = .ok (.getfield 67, 3) := by decide +kernel
theorem dX12_measures_107 : decode cX12_measures 107 = .ok (.iload_n 1, 1) := by decide +kernel
theorem dX12_measures_108 : decode cX12_measures 108 = .ok (.iaload, 1) := by decide +kernel
theorem dX12_measures_109 : decode cX12_measures 109 = .ok (.iadd, 1) := by decide +kernel
theorem dX12_measures_110 : decode cX12_measures 110 = .ok (.aload_n 0, 1) := by decide +kernel
theorem dX12_measures_111 : decode cX12_measures 111 = .ok (.getfield 73, 3) := by decide +kernel
theorem dX12_measures_114 : decode cX12_measures 114 = .ok (.iload_n 1, 1) := by decide +kernel
theorem dX12_measures_115 : decode cX12_measures 115 = .ok (.iaload, 1) := by decide +kernel
theorem dX12_measures_116 : decode cX12_measures 116 = .ok (.iastore, 1) := by decide +kernel
theorem dX12_measures_117 : decode cX12_measures 117 = .ok (.iinc 1 1, 3) := by decide +kernel
theorem dX12_measures_120 : decode cX12_measures 120 = .ok (.goto (-95), 3) := by decide +kernel
theorem dX12_measures_123 : decode cX12_measures 123 = .ok (.iconst 0, 1) := by decide +kernel
theorem dX12_measures_124 : decode cX12_measures 124 = .ok (.istore_n 1, 1) := by decide +kernel
theorem dX12_measures_125 : decode cX12_measures 125 = .ok (.iload_n 1, 1) := by decide +kernel
theorem dX12_measures_126 : decode cX12_measures 126 = .ok (.bipush 100, 2) := by decide +kernel
theorem dX12_measures_128 : decode cX12_measures 128 = .ok (.if_icmp .ge 32, 3) := by decide +kernel
theorem dX12_measures_131 : decode cX12_measures 131 = .ok (.aload_n 0, 1) := by decide +kernel
theorem dX12_measures_132 : decode cX12_measures 132 = .ok (.getfield 88, 3) := by decide +kernel
theorem dX12_measures_135 : decode cX12_measures 135 = .ok (.iload_n 1, 1) := by decide +kernel
theorem dX12_measures_136 : decode cX12_measures 136 = .ok (.iload_n 1, 1) := by decide +kernel
theorem dX12_measures_137 : decode cX12_measures 137 = .ok (.bipush 11, 2) := by decide +kernel
theorem dX12_measures_139 : decode cX12_measures 139 = .ok (.irem, 1) := by decide +kernel
theorem dX12_measures_140 : decode cX12_measures 140 = .ok (.ifCond .ne 7, 3) := by decide +kernel
theorem dX12_measures_143 : decode cX12_measures 143 = .ok (.iconst 0, 1) := by decide +kernel
theorem dX12_measures_144 : decode cX12_measures 144 = .ok (.goto 9, 3) := by decide +kernel
theorem dX12_measures_147 : decode cX12_measures 147 = .ok (.aload_n 0, 1) := by decide +kernel
theorem dX12_measures_148 : decode cX12_measures 148 = .ok (.getfield 85, 3) := by decide +kernel
theorem dX12_measures_151 : decode cX12_measures 151 = .ok (.iload_n 1, 1) := by decide +kernel
theorem dX12_measures_152 : decode cX12_measures 152 = .ok (.iaload, 1) := by decide +kernel
theorem dX12_measures_153 : decode cX12_measures 153 = .ok (.iastore, 1) := by decide +kernel
theorem dX12_measures_154 : decode cX12_measures 154 = .ok (.iinc 1 1, 3) := by decide +kernel
theorem dX12_measures_157 : decode cX12_measures 157 = .ok (.goto (-32), 3) := by decide +kernel
theorem dX12_measures_160 : decode cX12_measures 160 = .ok (.iconst 0, 1) := by decide +kernel
theorem dX12_measures_161 : decode cX12_measures 161 = .ok (.istore_n 1, 1) := by decide +kernel
theorem dX12_measures_162 : decode cX12_measures 162 = .ok (.iload_n 1, 1) := by decide +kernel
theorem dX12_measures_163 : decode cX12_measures 163 = .ok (.bipush 10, 2) := by decide +kernel
theorem dX12_measures_165 : decode cX12_measures 165 = .ok (.if_icmp .ge 108, 3) := by decide +kernel
theorem dX12_measures_168 : decode cX12_measures 168 = .ok (.iconst 0, 1) := by decide +kernel
theorem dX12_measures_169 : decode cX12_measures 169 = .ok (.istore_n 2, 1) := by decide +kernel
theorem dX12_measures_170 : decode cX12_measures 170 = .ok (.iload_n 2, 1) := by decide +kernel
theorem dX12_measures_171 : decode cX12_measures 171 = .ok (.bipush 10, 2) := by decide +kernel
theorem dX12_measures_173 : decode cX12_measures 173 = .ok (.if_icmp .ge 94, 3) := by decide +kernel
theorem dX12_measures_176 : decode cX12_measures 176 = .ok (.iconst 0, 1) := by decide +kernel
theorem dX12_measures_177 : decode cX12_measures 177 = .ok (.istore_n 3, 1) := by decide +kernel
theorem dX12_measures_178 : decode cX12_measures 178 = .ok (.iload_n 3, 1) := by decide +kernel
theorem dX12_measures_179 : decode cX12_measures 179 = .ok (.bipush 10, 2) := by decide +kernel
theorem dX12_measures_181 : decode cX12_measures 181 = .ok (.if_icmp .ge 80, 3) := by decide +kernel
theorem dX12_measures_184 : decode cX12_measures 184 = .ok (.aload_n 0, 1) := by decide +kernel
theorem dX12_measures_185 : decode cX12_measures 185 = .ok (.getfield 88, 3) := by decide +kernel
theorem dX12_measures_188 : decode cX12_measures 188 = .ok (.bipush 10, 2) := by decide +kernel
theorem dX12_measures_190 : decode cX12_measures 190 = .ok (.iload_n 2, 1) := by decide +kernel
theorem dX12_measures_191 : decode cX12_measures 191 = .ok (.imul, 1) := by decide +kernel
theorem dX12_measures_192 : decode cX12_measures 192 = .ok (.iload_n 1, 1) := by decide +kernel
theorem dX12_measures_193 : decode cX12_measures 193 = .ok (.iadd, 1) := by decide +kernel
theorem dX12_measures_194 : decode cX12_measures 194 = .ok (.iaload, 1) := by decide +kernel
theorem dX12_measures_195 : decode cX12_measures 195 = .ok (.aload_n 0, 1) := by decide +kernel
theorem dX12_measures_196 : decode cX12_measures 196 = .ok (.getfield 88, 3) := by decide +kernel
theorem dX12_measures_199 : decode cX12_measures 199 = .ok (.bipush 10, 2) := by decide +kernel
theorem dX12_measures_201 : decode cX12_measures 201 = .ok (.iload_n 1, 1) := by decide +kernel
theorem dX12_measures_202 : decode cX12_measures 202 = .ok (.imul, 1) := by decide +kernel
theorem dX12_measures_203 : decode cX12_measures 203 = .ok (.iload_n 3, 1) := by decide +kernel
theorem dX12_measures_204 : decode cX12_measures 204 = .ok (.iadd, 1) := by decide +kernel
theorem dX12_measures_205 : decode cX12_measures 205 = .ok (.iaload, 1) := by decide +kernel
theorem dX12_measures_206 : decode cX12_measures 206 = .ok (.iadd, 1) := by decide +kernel
theorem dX12_measures_207 : decode cX12_measures 207 = .ok (.aload_n 0, 1) := by decide +kernel
theorem dX12_measures_208 : decode cX12_measures 208 = .ok (.getfield 88, 3) := by decide +kernel
theorem dX12_measures_211 : decode cX12_measures 211 = .ok (.bipush 10, 2) := by decide +kernel
theorem dX12_measures_213 : decode cX12_measures 213 = .ok (.iload_n 2, 1) := by decide +kernel
theorem dX12_measures_214 : decode cX12_measures 214 = .ok (.imul, 1) := by decide +kernel
theorem dX12_measures_215 : decode cX12_measures 215 = .ok (.iload_n 3, 1) := by decide +kernel
theorem dX12_measures_216 : decode cX12_measures 216 = .ok (.iadd, 1) := by decide +kernel
theorem dX12_measures_217 : decode cX12_measures 217 = .ok (.iaload, 1) := by decide +kernel
theorem dX12_measures_218 : decode cX12_measures 218 = .ok (.if_icmp .ge 37, 3) := by decide +kernel
theorem dX12_measures_221 : decode cX12_measures 221 = .ok (.aload_n 0, 1) := by decide +kernel
theorem dX12_measures_222 : decode cX12_measures 222 = .ok (.getfield 88, 3) := by decide +kernel
theorem dX12_measures_225 : decode cX12_measures 225 = .ok (.bipush 10, 2) := by decide +kernel
theorem dX12_measures_227 : decode cX12_measures 227 = .ok (.iload_n 2, 1) := by decide +kernel
theorem dX12_measures_228 : decode cX12_measures 228 = .ok (.imul, 1) := by decide +kernel
theorem dX12_measures_229 : decode cX12_measures 229 = .ok (.iload_n 3, 1) := by decide +kernel
theorem dX12_measures_230 : decode cX12_measures 230 = .ok (.iadd, 1) := by decide +kernel
theorem dX12_measures_231 : decode cX12_measures 231 = .ok (.aload_n 0, 1) := by decide +kernel
theorem dX12_measures_232 : decode cX12_measures 232 = .ok (.getfield 88, 3) := by decide +kernel
theorem dX12_measures_235 : decode cX12_measures 235 = .ok (.bipush 10, 2) := by decide +kernel
theorem dX12_measures_237 : decode cX12_measures 237 = .ok (.iload_n 2, 1) := by decide +kernel
theorem dX12_measures_238 : decode cX12_measures 238 = .ok (.imul, 1) := by decide +kernel
theorem dX12_measures_239 : decode cX12_measures 239 = .ok (.iload_n 1, 1) := by decide +kernel
theorem dX12_measures_240 : decode cX12_measures 240 = .ok (.iadd, 1) := by decide +kernel
theorem dX12_measures_241 : decode cX12_measures 241 = .ok (.iaload, 1) := by decide +kernel
theorem dX12_measures_242 : decode cX12_measures 242 = .ok (.aload_n 0, 1) := by decide +kernel
theorem dX12_measures_243 : decode cX12_measures 243 = .ok (.getfield 88, 3) := by decide +kernel
theorem dX12_measures_246 : decode cX12_measures 246 = .ok (.bipush 10, 2) := by decide +kernel
theorem dX12_measures_248 : decode cX12_measures 248 = .ok (.iload_n 1, 1) := by decide +kernel
theorem dX12_measures_249 : decode cX12_measures 249 = .ok (.imul, 1) := by decide +kernel
theorem dX12_measures_250 : decode cX12_measures 250 = .ok (.iload_n 3, 1) := by decide +kernel
theorem dX12_measures_251 : decode cX12_measures 251 = .ok (.iadd, 1) := by decide +kernel
theorem dX12_measures_252 : decode cX12_measures 252 = .ok (.iaload, 1) := by decide +kernel
theorem dX12_measures_253 : decode cX12_measures 253 = .ok (.iadd, 1) := by decide +kernel
theorem dX12_measures_254 : decode cX12_measures 254 = .ok (.iastore, 1) := by decide +kernel
theorem dX12_measures_255 : decode cX12_measures 255 = .ok (.iinc 3 1, 3) := by decide +kernel
theorem dX12_measures_258 : decode cX12_measures 258 = .ok (.goto (-80), 3) := by decide +kernel
theorem dX12_measures_261 : decode cX12_measures 261 = .ok (.iinc 2 1, 3) := by decide +kernel
theorem dX12_measures_264 : decode cX12_measures 264 = .ok (.goto (-94), 3) := by decide +kernel
theorem dX12_measures_267 : decode cX12_measures 267 = .ok (.iinc 1 1, 3) := by decide +kernel
theorem dX12_measures_270 : decode cX12_measures 270 = .ok (.goto (-108), 3) := by decide +kernel
theorem dX12_measures_273 : decode cX12_measures 273 = .ok (.return_, 1) := by decide +kernel
abbrev rm_X12_measures : Room := { frames := 0, cells := 0, slots := 0, locals := 0 }
set_option maxRecDepth 100000 in
set_option maxHeartbeats 4000000 in
theorem ct_X12_measures {w : Wd} {l : Launch} {σ : St} {σ' : St} (h : m_X12_measures σ = some σ') : Ct w l yX12_measures (Cond.code yX12_measures cX12_measures 4 none :: TB) rm_X12_measures [rv w 170] σ none True σ' := by
  refine Ct.of2 [some (rv w 170), none, none, none] 3 rfl pn_RX12 (Nat.le_of_ble_eq_true rfl) ?_
  intro p e s m args below meth c C hr hlk
  unfold m_X12_measures at h
  refine g_iconst C dX12_measures_0 ?_
  refine g_istore_n (L1 := [some (rv w 170), some (iv 0), none, none]) C dX12_measures_1 rfl (Nat.le_of_ble_eq_true rfl) rfl ?_
  obtain ⟨b1, hb1, hF1⟩ := bnd h
  have hX1 : ∀ (σ6 : St) , σ6 = b1 → GM w p l e rm_X12_measures s m args below meth c none True σ' 4 23 [some (rv w 170), none, none, none] [] σ6 := by
    intro σ6 q
    subst q
    have h := hF1
    refine g_iconst C dX12_measures_23 ?_
    refine g_istore_n (L1 := [some (rv w 170), some (iv 0), none, none]) C dX12_measures_24 rfl (Nat.le_of_ble_eq_true rfl) rfl ?_
    obtain ⟨b7, hb7, hF7⟩ := bnd h
    have hX7 : ∀ (σ25 : St) , σ25 = b7 → GM w p l e rm_X12_measures s m args below meth c none True σ' 4 123 [some (rv w 170), none, none, none] [] σ25 := by
      intro σ25 q
      subst q
      have h := hF7
      refine g_iconst C dX12_measures_123 ?_
      refine g_istore_n (L1 := [some (rv w 170), some (iv 0), none, none]) C dX12_measures_124 rfl (Nat.le_of_ble_eq_true rfl) rfl ?_
      obtain ⟨b26, hb26, hF26⟩ := bnd h
      have hX26 : ∀ (σ35 : St) , σ35 = b26 → GM w p l e rm_X12_measures s m args below meth c none True σ' 4 160 [some (rv w 170), none, none, none] [] σ35 := by
        intro σ35 q
        subst q
        have h := hF26
        refine g_iconst C dX12_measures_160 ?_
        refine g_istore_n (L1 := [some (rv w 170), some (iv 0), none, none]) C dX12_measures_161 rfl (Nat.le_of_ble_eq_true rfl) rfl ?_
        obtain ⟨b36, hb36, hF36⟩ := bnd h
        have hX36 : ∀ (σ57 : St) , σ57 = b36 → GM w p l e rm_X12_measures s m args below meth c none True σ' 4 273 [none, none, none, none] [] σ57 := by
          intro σ57 q
          subst q
          have h := hF36
          exact g_vretP C dX12_measures_273 hr hlk h
        have hL36 : ∀ (n : Nat) (x37 : Int) (σ38 : St) , InI x37 → lpN (fun a => m_X12_measures_L162 a.1 a.2) n (x37, σ38) = some b36 → GM w p l e rm_X12_measures s m args below meth c none True σ' 4 162 [some (rv w 170), some (iv x37), none, none] [] σ38 := by
          intro n
          induction n with
          | zero => intro x37 σ38 ix37 q; cases q
          | succ n ih36 =>
            intro x37 σ38 ix37 q
            obtain ⟨o36, h, hk36⟩ := lp_step q
            replace h : m_X12_measures_L162 x37 σ38 = some o36 := h
            unfold m_X12_measures_L162 at h
            refine g_iload_n C dX12_measures_162 rfl ?_
            refine g_bipush C dX12_measures_163 rfl ?_
            refine g_icmp_ge C dX12_measures_165 ix37 (by decide) rfl (tgt := 273) (fun c39 => ?_) (fun c39 => ?_)
            · have h := ifT c39 h
              refine g_mask [false, false, true, true] ?_
              obtain rfl := Option.some.inj h
              exact hX36 σ38 (lpR hk36).symm
            · have h := ifF c39 h
              refine g_iconst C dX12_measures_168 ?_
              refine g_istore_n (L1 := [some (rv w 170), some (iv x37), some (iv 0), none]) C dX12_measures_169 rfl (Nat.le_of_ble_eq_true rfl) rfl ?_
              obtain ⟨b40, hb40, hF40⟩ := bnd h
              have hX40 : ∀ (σ56 : St) , σ56 = b40 → GM w p l e rm_X12_measures s m args below meth c none True σ' 4 267 [some (rv w 170), some (iv x37), none, none] [] σ56 := by
                intro σ56 q
                subst q
                have h := hF40
                refine g_iinc (L1 := [some (rv w 170), some (iv (wr (x37 + 1))), none, none]) C dX12_measures_267 rfl rfl (Nat.le_of_ble_eq_true rfl) rfl ?_
                refine g_goto C dX12_measures_270 rfl (tgt := 162) ?_
                obtain rfl := Option.some.inj h
                exact ih36 _ _ (iwr _) (lpL hk36)
              have hL40 : ∀ (n : Nat) (x41 : Int) (σ42 : St) , InI x41 → lpN (fun a => m_X12_measures_L170 x37 a.1 a.2) n (x41, σ42) = some b40 → GM w p l e rm_X12_measures s m args below meth c none True σ' 4 170 [some (rv w 170), some (iv x37), some (iv x41), none] [] σ42 := by
                intro n
                induction n with
                | zero => intro x41 σ42 ix41 q; cases q
                | succ n ih40 =>
                  intro x41 σ42 ix41 q
                  obtain ⟨o40, h, hk40⟩ := lp_step q
                  replace h : m_X12_measures_L170 x37 x41 σ42 = some o40 := h
                  unfold m_X12_measures_L170 at h
                  refine g_iload_n C dX12_measures_170 rfl ?_
                  refine g_bipush C dX12_measures_171 rfl ?_
                  refine g_icmp_ge C dX12_measures_173 ix41 (by decide) rfl (tgt := 267) (fun c43 => ?_) (fun c43 => ?_)
                  · have h := ifT c43 h
                    refine g_mask [true, true, false, true] ?_
                    obtain rfl := Option.some.inj h
                    exact hX40 σ42 (lpR hk40).symm
                  · have h := ifF c43 h
                    refine g_iconst C dX12_measures_176 ?_
                    refine g_istore_n (L1 := [some (rv w 170), some (iv x37), some (iv x41), some (iv 0)]) C dX12_measures_177 rfl (Nat.le_of_ble_eq_true rfl) rfl ?_
                    obtain ⟨b44, hb44, hF44⟩ := bnd h
                    have hX44 : ∀ (σ55 : St) , σ55 = b44 → GM w p l e rm_X12_measures s m args below meth c none True σ' 4 261 [some (rv w 170), some (iv x37), some (iv x41), none] [] σ55 := by
                      intro σ55 q
                      subst q
                      have h := hF44
                      refine g_iinc (L1 := [some (rv w 170), some (iv x37), some (iv (wr (x41 + 1))), none]) C dX12_measures_261 rfl rfl (Nat.le_of_ble_eq_true rfl) rfl ?_
                      refine g_goto C dX12_measures_264 rfl (tgt := 170) ?_
                      obtain rfl := Option.some.inj h
                      exact ih40 _ _ (iwr _) (lpL hk40)
                    have hL44 : ∀ (n : Nat) (x45 : Int) (σ46 : St) , InI x45 → lpN (fun a => m_X12_measures_L178 x41 x37 a.1 a.2) n (x45, σ46) = some b44 → GM w p l e rm_X12_measures s m args below meth c none True σ' 4 178 [some (rv w 170), some (iv x37), some (iv x41), some (iv x45)] [] σ46 := by
                      intro n
                      induction n with
                      | zero => intro x45 σ46 ix45 q; cases q
                      | succ n ih44 =>
                        intro x45 σ46 ix45 q
                        obtain ⟨o44, h, hk44⟩ := lp_step q
                        replace h : m_X12_measures_L178 x41 x37 x45 σ46 = some o44 := h
                        unfold m_X12_measures_L178 at h
                        refine g_iload_n C dX12_measures_178 rfl ?_
                        refine g_bipush C dX12_measures_179 rfl ?_
                        refine g_icmp_ge C dX12_measures_181 ix45 (by decide) rfl (tgt := 261) (fun c47 => ?_) (fun c47 => ?_)
                        · have h := ifT c47 h
                          refine g_mask [true, true, true, false] ?_
                          obtain rfl := Option.some.inj h
                          exact hX44 σ46 (lpR hk44).symm
                        · have h := ifF c47 h
                          refine g_aload_n C dX12_measures_184 rfl ?_
                          refine g_getR (j := 40) C dX12_measures_185 rfl (Nat.le_of_ble_eq_true rfl) (Nat.le_of_ble_eq_true rfl) fl_12_88 rfl rfl (r := 194) rfl ?_
                          refine g_bipush C dX12_measures_188 rfl ?_
                          refine g_iload_n C dX12_measures_190 rfl ?_
                          refine g_imul C dX12_measures_191 ?_
                          refine g_iload_n C dX12_measures_192 rfl ?_
                          refine g_iadd C dX12_measures_193 ?_
                          obtain ⟨x48, qx48, h⟩ := bnd h
                          refine g_iald C dX12_measures_194 rfl rfl qx48 (iwr _) (fun ix48 => ?_)
                          refine g_aload_n C dX12_measures_195 rfl ?_
                          refine g_getR (j := 40) C dX12_measures_196 rfl (Nat.le_of_ble_eq_true rfl) (Nat.le_of_ble_eq_true rfl) fl_12_88 rfl rfl (r := 194) rfl ?_
                          refine g_bipush C dX12_measures_199 rfl ?_
                          refine g_iload_n C dX12_measures_201 rfl ?_
                          refine g_imul C dX12_measures_202 ?_
                          refine g_iload_n C dX12_measures_203 rfl ?_
                          refine g_iadd C dX12_measures_204 ?_
                          obtain ⟨x49, qx49, h⟩ := bnd h
                          refine g_iald C dX12_measures_205 rfl rfl qx49 (iwr _) (fun ix49 => ?_)
                          refine g_iadd C dX12_measures_206 ?_
                          refine g_aload_n C dX12_measures_207 rfl ?_
                          refine g_getR (j := 40) C dX12_measures_208 rfl (Nat.le_of_ble_eq_true rfl) (Nat.le_of_ble_eq_true rfl) fl_12_88 rfl rfl (r := 194) rfl ?_
                          refine g_bipush C dX12_measures_211 rfl ?_
                          refine g_iload_n C dX12_measures_213 rfl ?_
                          refine g_imul C dX12_measures_214 ?_
                          refine g_iload_n C dX12_measures_215 rfl ?_
                          refine g_iadd C dX12_measures_216 ?_
                          obtain ⟨x50, qx50, h⟩ := bnd h
                          refine g_iald C dX12_measures_217 rfl rfl qx50 (iwr _) (fun ix50 => ?_)
                          refine g_icmp_ge C dX12_measures_218 (iwr _) ix50 rfl (tgt := 255) (fun c51 => ?_) (fun c51 => ?_)
                          · have h := ifT c51 h
                            refine g_iinc (L1 := [some (rv w 170), some (iv x37), some (iv x41), some (iv (wr (x45 + 1)))]) C dX12_measures_255 rfl rfl (Nat.le_of_ble_eq_true rfl) rfl ?_
                            refine g_goto C dX12_measures_258 rfl (tgt := 178) ?_
                            obtain rfl := Option.some.inj h
                            exact ih44 _ _ (iwr _) (lpL hk44)
                          · have h := ifF c51 h
                            refine g_aload_n C dX12_measures_221 rfl ?_
                            refine g_getR (j := 40) C dX12_measures_222 rfl (Nat.le_of_ble_eq_true rfl) (Nat.le_of_ble_eq_true rfl) fl_12_88 rfl rfl (r := 194) rfl ?_
                            refine g_bipush C dX12_measures_225 rfl ?_
                            refine g_iload_n C dX12_measures_227 rfl ?_
                            refine g_imul C dX12_measures_228 ?_
                            refine g_iload_n C dX12_measures_229 rfl ?_
                            refine g_iadd C dX12_measures_230 ?_
                            refine g_aload_n C dX12_measures_231 rfl ?_
                            refine g_getR (j := 40) C dX12_measures_232 rfl (Nat.le_of_ble_eq_true rfl) (Nat.le_of_ble_eq_true rfl) fl_12_88 rfl rfl (r := 194) rfl ?_
                            refine g_bipush C dX12_measures_235 rfl ?_
                            refine g_iload_n C dX12_measures_237 rfl ?_
                            refine g_imul C dX12_measures_238 ?_
                            refine g_iload_n C dX12_measures_239 rfl ?_
                            refine g_iadd C dX12_measures_240 ?_
                            obtain ⟨x52, qx52, h⟩ := bnd h
                            refine g_iald C dX12_measures_241 rfl rfl qx52 (iwr _) (fun ix52 => ?_)
                            refine g_aload_n C dX12_measures_242 rfl ?_
                            refine g_getR (j := 40) C dX12_measures_243 rfl (Nat.le_of_ble_eq_true rfl) (Nat.le_of_ble_eq_true rfl) fl_12_88 rfl rfl (r := 194) rfl ?_
                            refine g_bipush C dX12_measures_246 rfl ?_
                            refine g_iload_n C dX12_measures_248 rfl ?_
                            refine g_imul C dX12_measures_249 ?_
                            refine g_iload_n C dX12_measures_250 rfl ?_
                            refine g_iadd C dX12_measures_251 ?_
                            obtain ⟨x53, qx53, h⟩ := bnd h
                            refine g_iald C dX12_measures_252 rfl rfl qx53 (iwr _) (fun ix53 => ?_)
                            refine g_iadd C dX12_measures_253 ?_
                            obtain ⟨σ54, qσ54, h⟩ := bnd h
                            refine g_iast C dX12_measures_254 rfl rfl qσ54 (iwr _) (iwr _) ?_
                            refine g_iinc (L1 := [some (rv w 170), some (iv x37), some (iv x41), some (iv (wr (x45 + 1)))]) C dX12_measures_255 rfl rfl (Nat.le_of_ble_eq_true rfl) rfl ?_
                            refine g_goto C dX12_measures_258 rfl (tgt := 178) ?_
                            obtain rfl := Option.some.inj h
                            exact ih44 _ _ (iwr _) (lpL hk44)
                    exact hL44 FU _ _ (by decide) hb44
              exact hL40 FU _ _ (by decide) hb40
        exact hL36 FU _ _ (by decide) hb36
      have hL26 : ∀ (n : Nat) (x27 : Int) (σ28 : St) , InI x27 → lpN (fun a => m_X12_measures_L125 a.1 a.2) n (x27, σ28) = some b26 → GM w p l e rm_X12_measures s m args below meth c none True σ' 4 125 [some (rv w 170), some (iv x27), none, none] [] σ28 := by
        intro n
        induction n with
        | zero => intro x27 σ28 ix27 q; cases q
        | succ n ih26 =>
          intro x27 σ28 ix27 q
          obtain ⟨o26, h, hk26⟩ := lp_step q
          replace h : m_X12_measures_L125 x27 σ28 = some o26 := h
          unfold m_X12_measures_L125 at h
          refine g_iload_n C dX12_measures_125 rfl ?_
          refine g_bipush C dX12_measures_126 rfl ?_
          refine g_icmp_ge C dX12_measures_128 ix27 (by decide) rfl (tgt := 160) (fun c29 => ?_) (fun c29 => ?_)
          · have h := ifT c29 h
            refine g_mask [true, false, true, true] ?_
            obtain rfl := Option.some.inj h
            exact hX26 σ28 (lpR hk26).symm
          · have h := ifF c29 h
            refine g_aload_n C dX12_measures_131 rfl ?_
            refine g_getR (j := 40) C dX12_measures_132 rfl (Nat.le_of_ble_eq_true rfl) (Nat.le_of_ble_eq_true rfl) fl_12_88 rfl rfl (r := 194) rfl ?_
            refine g_iload_n C dX12_measures_135 rfl ?_
            refine g_iload_n C dX12_measures_136 rfl ?_
            refine g_bipush C dX12_measures_137 rfl ?_
            obtain ⟨x30, qx30, h⟩ := bnd h
            refine g_irem C dX12_measures_139 (by decide) qx30 (fun ix30 => ?_)
            refine g_if_ne C dX12_measures_140 ix30 rfl (tgt := 147) (fun c31 => ?_) (fun c31 => ?_)
            · have h := ifF c31 h
              refine g_aload_n C dX12_measures_147 rfl ?_
              refine g_getR (j := 39) C dX12_measures_148 rfl (Nat.le_of_ble_eq_true rfl) (Nat.le_of_ble_eq_true rfl) fl_12_85 rfl rfl (r := 193) rfl ?_
              refine g_iload_n C dX12_measures_151 rfl ?_
              obtain ⟨x32, qx32, h⟩ := bnd h
              refine g_iald C dX12_measures_152 rfl rfl qx32 ix27 (fun ix32 => ?_)
              obtain ⟨σ33, qσ33, h⟩ := bnd h
              refine g_iast C dX12_measures_153 rfl rfl qσ33 ix27 ix32 ?_
              refine g_iinc (L1 := [some (rv w 170), some (iv (wr (x27 + 1))), none, none]) C dX12_measures_154 rfl rfl (Nat.le_of_ble_eq_true rfl) rfl ?_
              refine g_goto C dX12_measures_157 rfl (tgt := 125) ?_
              obtain rfl := Option.some.inj h
              exact ih26 _ _ (iwr _) (lpL hk26)
            · have h := ifT c31 h
              refine g_iconst C dX12_measures_143 ?_
              refine g_goto C dX12_measures_144 rfl (tgt := 153) ?_
              obtain ⟨σ34, qσ34, h⟩ := bnd h
              refine g_iast C dX12_measures_153 rfl rfl qσ34 ix27 (by decide) ?_
              refine g_iinc (L1 := [some (rv w 170), some (iv (wr (x27 + 1))), none, none]) C dX12_measures_154 rfl rfl (Nat.le_of_ble_eq_true rfl) rfl ?_
              refine g_goto C dX12_measures_157 rfl (tgt := 125) ?_
              obtain rfl := Option.some.inj h
              exact ih26 _ _ (iwr _) (lpL hk26)
      exact hL26 FU _ _ (by decide) hb26
    have hL7 : ∀ (n : Nat) (x8 : Int) (σ9 : St) , InI x8 → lpN (fun a => m_X12_measures_L25 a.1 a.2) n (x8, σ9) = some b7 → GM w p l e rm_X12_measures s m args below meth c none True σ' 4 25 [some (rv w 170), some (iv x8), none, none] [] σ9 := by
      intro n
      induction n with
      | zero => intro x8 σ9 ix8 q; cases q
      | succ n ih7 =>
        intro x8 σ9 ix8 q
        obtain ⟨o7, h, hk7⟩ := lp_step q
        replace h : m_X12_measures_L25 x8 σ9 = some o7 := h
        unfold m_X12_measures_L25 at h
        refine g_iload_n C dX12_measures_25 rfl ?_
        refine g_aload_n C dX12_measures_26 rfl ?_
        refine g_getI (j := 31) C dX12_measures_27 rfl (Nat.le_of_ble_eq_true rfl) (Nat.le_of_ble_eq_true rfl) fl_12_336 rfl rfl (fun i10 => ?_)
        refine g_icmp_ge C dX12_measures_30 ix8 i10 rfl (tgt := 123) (fun c11 => ?_) (fun c11 => ?_)
        · have h := ifT c11 h
          refine g_mask [true, false, true, true] ?_
          obtain rfl := Option.some.inj h
          exact hX7 σ9 (lpR hk7).symm
        · have h := ifF c11 h
          refine g_aload_n C dX12_measures_33 rfl ?_
          refine g_getR (j := 34) C dX12_measures_34 rfl (Nat.le_of_ble_eq_true rfl) (Nat.le_of_ble_eq_true rfl) fl_12_73 rfl rfl (r := 189) rfl ?_
          refine g_iload_n C dX12_measures_37 rfl ?_
          obtain ⟨x12, qx12, h⟩ := bnd h
          refine g_iald C dX12_measures_38 rfl rfl qx12 ix8 (fun ix12 => ?_)
          refine g_aload_n C dX12_measures_39 rfl ?_
          refine g_getR (j := 39) C dX12_measures_40 rfl (Nat.le_of_ble_eq_true rfl) (Nat.le_of_ble_eq_true rfl) fl_12_85 rfl rfl (r := 193) rfl ?_
          refine g_bipush C dX12_measures_43 rfl ?_
          refine g_aload_n C dX12_measures_45 rfl ?_
          refine g_getR (j := 32) C dX12_measures_46 rfl (Nat.le_of_ble_eq_true rfl) (Nat.le_of_ble_eq_true rfl) fl_12_67 rfl rfl (r := 187) rfl ?_
          refine g_iload_n C dX12_measures_49 rfl ?_
          obtain ⟨x13, qx13, h⟩ := bnd h
          refine g_iald C dX12_measures_50 rfl rfl qx13 ix8 (fun ix13 => ?_)
          refine g_imul C dX12_measures_51 ?_
          refine g_aload_n C dX12_measures_52 rfl ?_
          refine g_getR (j := 33) C dX12_measures_53 rfl (Nat.le_of_ble_eq_true rfl) (Nat.le_of_ble_eq_true rfl) fl_12_70 rfl rfl (r := 188) rfl ?_
          refine g_iload_n C dX12_measures_56 rfl ?_
          obtain ⟨x14, qx14, h⟩ := bnd h
          refine g_iald C dX12_measures_57 rfl rfl qx14 ix8 (fun ix14 => ?_)
          refine g_iadd C dX12_measures_58 ?_
          obtain ⟨x15, qx15, h⟩ := bnd h
          refine g_iald C dX12_measures_59 rfl rfl qx15 (iwr _) (fun ix15 => ?_)
          refine g_icmp_ge C dX12_measures_60 ix12 ix15 rfl (tgt := 117) (fun c16 => ?_) (fun c16 => ?_)
          · have h := ifT c16 h
            refine g_iinc (L1 := [some (rv w 170), some (iv (wr (x8 + 1))), none, none]) C dX12_measures_117 rfl rfl (Nat.le_of_ble_eq_true rfl) rfl ?_
            refine g_goto C dX12_measures_120 rfl (tgt := 25) ?_
            obtain rfl := Option.some.inj h
            exact ih7 _ _ (iwr _) (lpL hk7)
          · have h := ifF c16 h
            refine g_aload_n C dX12_measures_63 rfl ?_
            refine g_getR (j := 39) C dX12_measures_64 rfl (Nat.le_of_ble_eq_true rfl) (Nat.le_of_ble_eq_true rfl) fl_12_85 rfl rfl (r := 193) rfl ?_
            refine g_bipush C dX12_measures_67 rfl ?_
            refine g_aload_n C dX12_measures_69 rfl ?_
            refine g_getR (j := 32) C dX12_measures_70 rfl (Nat.le_of_ble_eq_true rfl) (Nat.le_of_ble_eq_true rfl) fl_12_67 rfl rfl (r := 187) rfl ?_
            refine g_iload_n C dX12_measures_73 rfl ?_
            obtain ⟨x17, qx17, h⟩ := bnd h
            refine g_iald C dX12_measures_74 rfl rfl qx17 ix8 (fun ix17 => ?_)
            refine g_imul C dX12_measures_75 ?_
            refine g_aload_n C dX12_measures_76 rfl ?_
            refine g_getR (j := 33) C dX12_measures_77 rfl (Nat.le_of_ble_eq_true rfl) (Nat.le_of_ble_eq_true rfl) fl_12_70 rfl rfl (r := 188) rfl ?_
            refine g_iload_n C dX12_measures_80 rfl ?_
            obtain ⟨x18, qx18, h⟩ := bnd h
            refine g_iald C dX12_measures_81 rfl rfl qx18 ix8 (fun ix18 => ?_)
            refine g_iadd C dX12_measures_82 ?_
            refine g_aload_n C dX12_measures_83 rfl ?_
            refine g_getR (j := 34) C dX12_measures_84 rfl (Nat.le_of_ble_eq_true rfl) (Nat.le_of_ble_eq_true rfl) fl_12_73 rfl rfl (r := 189) rfl ?_
            refine g_iload_n C dX12_measures_87 rfl ?_
            obtain ⟨x19, qx19, h⟩ := bnd h
            refine g_iald C dX12_measures_88 rfl rfl qx19 ix8 (fun ix19 => ?_)
            obtain ⟨σ20, qσ20, h⟩ := bnd h
            refine g_iast C dX12_measures_89 rfl rfl qσ20 (iwr _) ix19 ?_
            refine g_aload_n C dX12_measures_90 rfl ?_
            refine g_getR (j := 39) C dX12_measures_91 rfl (Nat.le_of_ble_eq_true rfl) (Nat.le_of_ble_eq_true rfl) fl_12_85 rfl rfl (r := 193) rfl ?_
            refine g_bipush C dX12_measures_94 rfl ?_
            refine g_aload_n C dX12_measures_96 rfl ?_
            refine g_getR (j := 33) C dX12_measures_97 rfl (Nat.le_of_ble_eq_true rfl) (Nat.le_of_ble_eq_true rfl) fl_12_70 rfl rfl (r := 188) rfl ?_
            refine g_iload_n C dX12_measures_100 rfl ?_
            obtain ⟨x21, qx21, h⟩ := bnd h
            refine g_iald C dX12_measures_101 rfl rfl qx21 ix8 (fun ix21 => ?_)
            refine g_imul C dX12_measures_102 ?_
            refine g_aload_n C dX12_measures_103 rfl ?_
            refine g_getR (j := 32) C dX12_measures_104 rfl (Nat.le_of_ble_eq_true rfl) (Nat.le_of_ble_eq_true rfl) fl_12_67 rfl rfl (r := 187) rfl ?_
            refine g_iload_n C dX12_measures_107 rfl ?_
            obtain ⟨x22, qx22, h⟩ := bnd h
            refine g_iald C dX12_measures_108 rfl rfl qx22 ix8 (fun ix22 => ?_)
            refine g_iadd C dX12_measures_109 ?_
            refine g_aload_n C dX12_measures_110 rfl ?_
            refine g_getR (j := 34) C dX12_measures_111 rfl (Nat.le_of_ble_eq_true rfl) (Nat.le_of_ble_eq_true rfl) fl_12_73 rfl rfl (r := 189) rfl ?_
            refine g_iload_n C dX12_measures_114 rfl ?_
            obtain ⟨x23, qx23, h⟩ := bnd h
            refine g_iald C dX12_measures_115 rfl rfl qx23 ix8 (fun ix23 => ?_)
            obtain ⟨σ24, qσ24, h⟩ := bnd h
            refine g_iast C dX12_measures_116 rfl rfl qσ24 (iwr _) ix23 ?_
            refine g_iinc (L1 := [some (rv w 170), some (iv (wr (x8 + 1))), none, none]) C dX12_measures_117 rfl rfl (Nat.le_of_ble_eq_true rfl) rfl ?_
            refine g_goto C dX12_measures_120 rfl (tgt := 25) ?_
            obtain rfl := Option.some.inj h
            exact ih7 _ _ (iwr _) (lpL hk7)
    exact hL7 FU _ _ (by decide) hb7
  have hL1 : ∀ (n : Nat) (x2 : Int) (σ3 : St) , InI x2 → lpN (fun a => m_X12_measures_L2 a.1 a.2) n (x2, σ3) = some b1 → GM w p l e rm_X12_measures s m args below meth c none True σ' 4 2 [some (rv w 170), some (iv x2), none, none] [] σ3 := by
    intro n
    induction n with
    | zero => intro x2 σ3 ix2 q; cases q
    | succ n ih1 =>
      intro x2 σ3 ix2 q
      obtain ⟨o1, h, hk1⟩ := lp_step q
      replace h : m_X12_measures_L2 x2 σ3 = some o1 := h
      unfold m_X12_measures_L2 at h
      refine g_iload_n C dX12_measures_2 rfl ?_
      refine g_bipush C dX12_measures_3 rfl ?_
      refine g_icmp_ge C dX12_measures_5 ix2 (by decide) rfl (tgt := 23) (fun c4 => ?_) (fun c4 => ?_)
      · have h := ifT c4 h
        refine g_mask [true, false, true, true] ?_
        obtain rfl := Option.some.inj h
        exact hX1 σ3 (lpR hk1).symm
      · have h := ifF c4 h
        refine g_aload_n C dX12_measures_8 rfl ?_
        refine g_getR (j := 39) C dX12_measures_9 rfl (Nat.le_of_ble_eq_true rfl) (Nat.le_of_ble_eq_true rfl) fl_12_85 rfl rfl (r := 193) rfl ?_
        refine g_iload_n C dX12_measures_12 rfl ?_
        refine g_sipush C dX12_measures_13 rfl ?_
        obtain ⟨σ5, qσ5, h⟩ := bnd h
        refine g_iast C dX12_measures_16 rfl rfl qσ5 ix2 (by decide) ?_
        refine g_iinc (L1 := [some (rv w 170), some (iv (wr (x2 + 1))), none, none]) C dX12_measures_17 rfl rfl (Nat.le_of_ble_eq_true rfl) rfl ?_
        refine g_goto C dX12_measures_20 rfl (tgt := 2) ?_
        obtain rfl := Option.some.inj h
        exact ih1 _ _ (iwr _) (lpL hk1)
  exact hL1 FU _ _ (by decide) hb1
theorem dX12_onward_0 : decode cX12_onward 0 = .ok (.iconst 0, 1) := by decide +kernel
theorem dX12_onward_1 : decode cX12_onward 1 = .ok (.istore_n 3, 1) := by decide +kernel
theorem dX12_onward_2 : decode cX12_onward 2 = .ok (.iload_n 3, 1) := by decide +kernel
theorem dX12_onward_3 : decode cX12_onward 3 = .ok (.aload_n 0, 1) := by decide +kernel
theorem dX12_onward_4 : decode cX12_onward 4 = .ok (.getfield 330, 3) := by decide +kernel
theorem dX12_onward_7 : decode cX12_onward 7 = .ok (.if_icmp .ge 70, 3) := by decide +kernel
theorem dX12_onward_10 : decode cX12_onward 10 = .ok (.iload_n 3, 1) := by decide +kernel
theorem dX12_onward_11 : decode cX12_onward 11 = .ok (.iload_n 1, 1) := by decide +kernel
theorem dX12_onward_12 : decode cX12_onward 12 = .ok (.if_icmp .eq 59, 3) := by decide +kernel
theorem dX12_onward_15 : decode cX12_onward 15 = .ok (.aload_n 0, 1) := by decide +kernel
theorem dX12_onward_16 : decode cX12_onward 16 = .ok (.getfield 85, 3) := by decide +kernel
theorem dX12_onward_19 : decode cX12_onward 19 = .ok (.bipush 10, 2) := by decide +kernel
theorem dX12_onward_21 : decode cX12_onward 21 = .ok (.iload_n 1, 1) := by decide +kernel
theorem dX12_onward_22 : decode cX12_onward 22 = .ok (.imul, 1) := by decide +kernel
theorem dX12_onward_23 : decode cX12_onward 23 = .ok (.iload_n 3, 1) := by decide +kernel
theorem dX12_onward_24 : decode cX12_onward 24 = .ok (.iadd, 1) := by decide +kernel
theorem dX12_onward_25 : decode cX12_onward 25 = .ok (.iaload, 1) := by decide +kernel
theorem dX12_onward_26 : decode cX12_onward 26 = .ok (.sipush 1000, 3) := by decide +kernel
theorem dX12_onward_29 : decode cX12_onward 29 = .ok (.if_icmp .ge 42, 3) := by decide +kernel
theorem dX12_onward_32 : decode cX12_onward 32 = .ok (.aload_n 0, 1) := by decide +kernel
theorem dX12_onward_33 : decode cX12_onward 33 = .ok (.getfield 85, 3) := by decide +kernel
theorem dX12_onward_36 : decode cX12_onward 36 = .ok (.bipush 10, 2) := by decide +kernel
theorem dX12_onward_38 : decode cX12_onward 38 = .ok (.iload_n 1, 1) := by decide +kernel
theorem dX12_onward_39 : decode cX12_onward 39 = .ok (.imul, 1) := by decide +kernel
theorem dX12_onward_40 : decode cX12_onward 40 = .ok (.iload_n 3, 1) := by decide +kernel
theorem dX12_onward_41 : decode cX12_onward 41 = .ok (.iadd, 1) := by decide +kernel
theorem dX12_onward_42 : decode cX12_onward 42 = .ok (.iaload, 1) := by decide +kernel
theorem dX12_onward_43 : decode cX12_onward 43 = .ok (.aload_n 0, 1) := by decide +kernel
theorem dX12_onward_44 : decode cX12_onward 44 = .ok (.getfield 88, 3) := by decide +kernel
theorem dX12_onward_47 : decode cX12_onward 47 = .ok (.bipush 10, 2) := by decide +kernel
theorem dX12_onward_49 : decode cX12_onward 49 = .ok (.iload_n 3, 1) := by decide +kernel
theorem dX12_onward_50 : decode cX12_onward 50 = .ok (.imul, 1) := by decide +kernel
theorem dX12_onward_51 : decode cX12_onward 51 = .ok (.iload_n 2, 1) := by decide +kernel
theorem dX12_onward_52 : decode cX12_onward 52 = .ok (.iadd, 1) := by decide +kernel
theorem dX12_onward_53 : decode cX12_onward 53 = .ok (.iaload, 1) := by decide +kernel
theorem dX12_onward_54 : decode cX12_onward 54 = .ok (.iadd, 1) := by decide +kernel
theorem dX12_onward_55 : decode cX12_onward 55 = .ok (.aload_n 0, 1) := by decide +kernel
theorem dX12_onward_56 : decode cX12_onward 56 = .ok (.getfield 88, 3) := by decide +kernel
theorem dX12_onward_59 : decode cX12_onward 59 = .ok (.bipush 10, 2) := by decide +kernel
theorem dX12_onward_61 : decode cX12_onward 61 = .ok (.iload_n 1, 1) := by decide +kernel
theorem dX12_onward_62 : decode cX12_onward 62 = .ok (.imul, 1) := by decide +kernel
theorem dX12_onward_63 : decode cX12_onward 63 = .ok (.iload_n 2, 1) := by decide +kernel
theorem dX12_onward_64 : decode cX12_onward 64 = .ok (.iadd, 1) := by decide +kernel
theorem dX12_onward_65 : decode cX12_onward 65 = .ok (.iaload, 1) := by decide +kernel
theorem dX12_onward_66 : decode cX12_onward 66 = .ok (.if_icmp .ne 5, 3) := by decide +kernel
theorem dX12_onward_69 : decode cX12_onward 69 = .ok (.iload_n 3, 1) := by decide +kernel
theorem dX12_onward_70 : decode cX12_onward 70 = .ok (.ireturn, 1) := by decide +kernel
theorem dX12_onward_71 : decode cX12_onward 71 = .ok (.iinc 3 1, 3) := by decide +kernel
theorem dX12_onward_74 : decode cX12_onward 74 = .ok (.goto (-72), 3) := by decide +kernel
theorem dX12_onward_77 : decode cX12_onward 77 = .ok (.iconst (-1), 1) := by decide +kernel
theorem dX12_onward_78 : decode cX12_onward 78 = .ok (.ireturn, 1) := by decide +kernel
abbrev rm_X12_onward : Room := { frames := 0, cells := 0, slots := 0, locals := 0 }
set_option maxRecDepth 100000 in
set_option maxHeartbeats 4000000 in
theorem ct_X12_onward {w : Wd} {l : Launch} {a1 : Int} {a2 : Int} {σ : St} {y : Int} (ia1 : InI a1) (ia2 : InI a2) (h : m_X12_onward a1 a2 σ = some y) : Ct w l yX12_onward (Cond.code yX12_onward cX12_onward 4 (some .int) :: TB) rm_X12_onward [rv w 170, iv a1, iv a2] σ (some (iv y)) (InI y) σ := by
  refine Ct.of2 [some (rv w 170), some (iv a1), some (iv a2), none] 1 rfl pn_RX12 (Nat.le_of_ble_eq_true rfl) ?_
  intro p e s m args below meth c C hr hlk
  unfold m_X12_onward at h
  refine g_iconst C dX12_onward_0 ?_
  refine g_istore_n (L1 := [some (rv w 170), some (iv a1), some (iv a2), some (iv 0)]) C dX12_onward_1 rfl (Nat.le_of_ble_eq_true rfl) rfl ?_
  obtain ⟨b1, hb1, hF1⟩ := bnd h
  have hX1 : Sum.inl () = b1 → GM w p l e rm_X12_onward s m args below meth c (some (iv y)) (InI y) σ 4 77 [none, none, none, none] [] σ := by
    intro q
    subst q
    have h := hF1
    refine g_iconst C dX12_onward_77 ?_
    exact g_iretU C dX12_onward_78 hr hlk h (by decide)
  have hL1 : ∀ (n : Nat) (x2 : Int) , InI x2 → lpN (fun a => m_X12_onward_L2 σ a1 a2 a) n x2 = some b1 → GM w p l e rm_X12_onward s m args below meth c (some (iv y)) (InI y) σ 4 2 [some (rv w 170), some (iv a1), some (iv a2), some (iv x2)] [] σ := by
    intro n
    induction n with
    | zero => intro x2 ix2 q; cases q
    | succ n ih1 =>
      intro x2 ix2 q
      obtain ⟨o1, h, hk1⟩ := lp_step q
      replace h : m_X12_onward_L2 σ a1 a2 x2 = some o1 := h
      unfold m_X12_onward_L2 at h
      refine g_iload_n C dX12_onward_2 rfl ?_
      refine g_aload_n C dX12_onward_3 rfl ?_
      refine g_getI (j := 30) C dX12_onward_4 rfl (Nat.le_of_ble_eq_true rfl) (Nat.le_of_ble_eq_true rfl) fl_12_330 rfl rfl (fun i3 => ?_)
      refine g_icmp_ge C dX12_onward_7 ix2 i3 rfl (tgt := 77) (fun c4 => ?_) (fun c4 => ?_)
      · have h := ifT c4 h
        refine g_mask [false, false, false, false] ?_
        obtain rfl := Option.some.inj h
        exact hX1  (lpR hk1).symm
      · have h := ifF c4 h
        refine g_iload_n C dX12_onward_10 rfl ?_
        refine g_iload_n C dX12_onward_11 rfl ?_
        refine g_icmp_eq C dX12_onward_12 ix2 ia1 rfl (tgt := 71) (fun c5 => ?_) (fun c5 => ?_)
        · have h := ifT c5 h
          refine g_iinc (L1 := [some (rv w 170), some (iv a1), some (iv a2), some (iv (wr (x2 + 1)))]) C dX12_onward_71 rfl rfl (Nat.le_of_ble_eq_true rfl) rfl ?_
          refine g_goto C dX12_onward_74 rfl (tgt := 2) ?_
          obtain rfl := Option.some.inj h
          exact ih1 _ (iwr _) (lpL hk1)
        · have h := ifF c5 h
          refine g_aload_n C dX12_onward_15 rfl ?_
          refine g_getR (j := 39) C dX12_onward_16 rfl (Nat.le_of_ble_eq_true rfl) (Nat.le_of_ble_eq_true rfl) fl_12_85 rfl rfl (r := 193) rfl ?_
          refine g_bipush C dX12_onward_19 rfl ?_
          refine g_iload_n C dX12_onward_21 rfl ?_
          refine g_imul C dX12_onward_22 ?_
          refine g_iload_n C dX12_onward_23 rfl ?_
          refine g_iadd C dX12_onward_24 ?_
          obtain ⟨x6, qx6, h⟩ := bnd h
          refine g_iald C dX12_onward_25 rfl rfl qx6 (iwr _) (fun ix6 => ?_)
          refine g_sipush C dX12_onward_26 rfl ?_
          refine g_icmp_ge C dX12_onward_29 ix6 (by decide) rfl (tgt := 71) (fun c7 => ?_) (fun c7 => ?_)
          · have h := ifT c7 h
            refine g_iinc (L1 := [some (rv w 170), some (iv a1), some (iv a2), some (iv (wr (x2 + 1)))]) C dX12_onward_71 rfl rfl (Nat.le_of_ble_eq_true rfl) rfl ?_
            refine g_goto C dX12_onward_74 rfl (tgt := 2) ?_
            obtain rfl := Option.some.inj h
            exact ih1 _ (iwr _) (lpL hk1)
          · have h := ifF c7 h
            refine g_aload_n C dX12_onward_32 rfl ?_
            refine g_getR (j := 39) C dX12_onward_33 rfl (Nat.le_of_ble_eq_true rfl) (Nat.le_of_ble_eq_true rfl) fl_12_85 rfl rfl (r := 193) rfl ?_
            refine g_bipush C dX12_onward_36 rfl ?_
            refine g_iload_n C dX12_onward_38 rfl ?_
            refine g_imul C dX12_onward_39 ?_
            refine g_iload_n C dX12_onward_40 rfl ?_
            refine g_iadd C dX12_onward_41 ?_
            obtain ⟨x8, qx8, h⟩ := bnd h
            refine g_iald C dX12_onward_42 rfl rfl qx8 (iwr _) (fun ix8 => ?_)
            refine g_aload_n C dX12_onward_43 rfl ?_
            refine g_getR (j := 40) C dX12_onward_44 rfl (Nat.le_of_ble_eq_true rfl) (Nat.le_of_ble_eq_true rfl) fl_12_88 rfl rfl (r := 194) rfl ?_
            refine g_bipush C dX12_onward_47 rfl ?_
            refine g_iload_n C dX12_onward_49 rfl ?_
            refine g_imul C dX12_onward_50 ?_
            refine g_iload_n C dX12_onward_51 rfl ?_
            refine g_iadd C dX12_onward_52 ?_
            obtain ⟨x9, qx9, h⟩ := bnd h
            refine g_iald C dX12_onward_53 rfl rfl qx9 (iwr _) (fun ix9 => ?_)
            refine g_iadd C dX12_onward_54 ?_
            refine g_aload_n C dX12_onward_55 rfl ?_
            refine g_getR (j := 40) C dX12_onward_56 rfl (Nat.le_of_ble_eq_true rfl) (Nat.le_of_ble_eq_true rfl) fl_12_88 rfl rfl (r := 194) rfl ?_
            refine g_bipush C dX12_onward_59 rfl ?_
            refine g_iload_n C dX12_onward_61 rfl ?_
            refine g_imul C dX12_onward_62 ?_
            refine g_iload_n C dX12_onward_63 rfl ?_
            refine g_iadd C dX12_onward_64 ?_
            obtain ⟨x10, qx10, h⟩ := bnd h
            refine g_iald C dX12_onward_65 rfl rfl qx10 (iwr _) (fun ix10 => ?_)
            refine g_icmp_ne C dX12_onward_66 (iwr _) ix10 rfl (tgt := 71) (fun c11 => ?_) (fun c11 => ?_)
            · have h := ifF c11 h
              refine g_iinc (L1 := [some (rv w 170), some (iv a1), some (iv a2), some (iv (wr (x2 + 1)))]) C dX12_onward_71 rfl rfl (Nat.le_of_ble_eq_true rfl) rfl ?_
              refine g_goto C dX12_onward_74 rfl (tgt := 2) ?_
              obtain rfl := Option.some.inj h
              exact ih1 _ (iwr _) (lpL hk1)
            · have h := ifT c11 h
              refine g_iload_n C dX12_onward_69 rfl ?_
              obtain rfl := Option.some.inj h
              have e1 := (lpR hk1).symm
              subst e1
              have h := hF1
              exact g_iretU C dX12_onward_70 hr hlk h ix2
  exact hL1 FU _ (by decide) hb1
theorem dX12_distance_0 : decode cX12_distance 0 = .ok (.aload_n 0, 1) := by decide +kernel
theorem dX12_distance_1 : decode cX12_distance 1 = .ok (.iconst 0, 1) := by decide +kernel
theorem dX12_distance_2 : decode cX12_distance 2 = .ok (.putfield 1, 3) := by decide +kernel
theorem dX12_distance_5 : decode cX12_distance 5 = .ok (.aload_n 0, 1) := by decide +kernel
theorem dX12_distance_6 : decode cX12_distance 6 = .ok (.iload_n 1, 1) := by decide +kernel
theorem dX12_distance_7 : decode cX12_distance 7 = .ok (.invokevirtual 339, 3) := by decide +kernel
theorem dX12_distance_10 : decode cX12_distance 10 = .ok (.ifCond .eq 11, 3) := by decide +kernel
theorem dX12_distance_13 : decode cX12_distance 13 = .ok (.aload_n 0, 1) := by decide +kernel
theorem dX12_distance_14 : decode cX12_distance 14 = .ok (.iload_n 2, 1) := by decide +kernel
theorem dX12_distance_15 : decode cX12_distance 15 = .ok (.invokevirtual 339, 3) := by decide +kernel
theorem dX12_distance_18 : decode cX12_distance 18 = .ok (.ifCond .ne 5, 3) := by decide +kernel
theorem dX12_distance_21 : decode cX12_distance 21 = .ok (.iconst (-1), 1) := by decide +kernel
theorem dX12_distance_22 : decode cX12_distance 22 = .ok (.ireturn, 1) := by decide +kernel
theorem dX12_distance_23 : decode cX12_distance 23 = .ok (.aload_n 0, 1) := by decide +kernel
theorem dX12_distance_24 : decode cX12_distance 24 = .ok (.invokevirtual 345, 3) := by decide +kernel
theorem dX12_distance_27 : decode cX12_distance 27 = .ok (.aload_n 0, 1) := by decide +kernel
theorem dX12_distance_28 : decode cX12_distance 28 = .ok (.getfield 88, 3) := by decide +kernel
theorem dX12_distance_31 : decode cX12_distance 31 = .ok (.bipush 10, 2) := by decide +kernel
theorem dX12_distance_33 : decode cX12_distance 33 = .ok (.iload_n 1, 1) := by decide +kernel
theorem dX12_distance_34 : decode cX12_distance 34 = .ok (.imul, 1) := by decide +kernel
theorem dX12_distance_35 : decode cX12_distance 35 = .ok (.iload_n 2, 1) := by decide +kernel
theorem dX12_distance_36 : decode cX12_distance 36 = .ok (.iadd, 1) := by decide +kernel
theorem dX12_distance_37 : decode cX12_distance 37 = .ok (.iaload, 1) := by decide +kernel
theorem dX12_distance_38 : decode cX12_distance 38 = .ok (.sipush 1000, 3) := by decide +kernel
theorem dX12_distance_41 : decode cX12_distance 41 = .ok (.if_icmp .ge 17, 3) := by decide +kernel
theorem dX12_distance_44 : decode cX12_distance 44 = .ok (.aload_n 0, 1) := by decide +kernel
theorem dX12_distance_45 : decode cX12_distance 45 = .ok (.getfield 88, 3) := by decide +kernel
theorem dX12_distance_48 : decode cX12_distance 48 = .ok (.bipush 10, 2) := by decide +kernel
theorem dX12_distance_50 : decode cX12_distance 50 = .ok (.iload_n 1, 1) := by decide +kernel
theorem dX12_distance_51 : decode cX12_distance 51 = .ok (.imul, 1) := by decide +kernel
theorem dX12_distance_52 : decode cX12_distance 52 = .ok (.iload_n 2, 1) := by decide +kernel
theorem dX12_distance_53 : decode cX12_distance 53 = .ok (.iadd, 1) := by decide +kernel
theorem dX12_distance_54 : decode cX12_distance 54 = .ok (.iaload, 1) := by decide +kernel
theorem dX12_distance_55 : decode cX12_distance 55 = .ok (.goto 4, 3) := by decide +kernel
theorem dX12_distance_58 : decode cX12_distance 58 = .ok (.iconst (-1), 1) := by decide +kernel
theorem dX12_distance_59 : decode cX12_distance 59 = .ok (.ireturn, 1) := by decide +kernel
abbrev rm_X12_distance : Room := { frames := 1, cells := 0, slots := 0, locals := 23 }
set_option maxRecDepth 100000 in
set_option maxHeartbeats 4000000 in
theorem ct_X12_distance {w : Wd} {l : Launch} {a1 : Int} {a2 : Int} {σ : St} {y : Int} {σ' : St} (ia1 : InI a1) (ia2 : InI a2) (h : m_X12_distance a1 a2 σ = some (y, σ')) : Ct w l yX12_distance (Cond.code yX12_distance cX12_distance 3 (some .int) :: TB) rm_X12_distance [rv w 170, iv a1, iv a2] σ (some (iv y)) (InI y) σ' := by
  refine Ct.of2 [some (rv w 170), some (iv a1), some (iv a2)] 0 rfl pn_RX12 (Nat.le_of_ble_eq_true rfl) ?_
  intro p e s m args below meth c C hr hlk
  unfold m_X12_distance at h
  refine g_aload_n C dX12_distance_0 rfl ?_
  refine g_iconst C dX12_distance_1 ?_
  obtain ⟨σ1, qσ1, h⟩ := bnd h
  refine g_putI (j := 0) C dX12_distance_2 rfl (Nat.le_of_ble_eq_true rfl) (Nat.le_of_ble_eq_true rfl) fl_12_1 rfl rfl rfl rfl qσ1 (by decide) ?_
  refine g_aload_n C dX12_distance_5 rfl ?_
  refine g_iload_n C dX12_distance_6 rfl ?_
  obtain ⟨x2, qx2, h⟩ := bnd h
  refine g_callV1 (As := [iv a1]) C dX12_distance_7 mi_X12_isSpot ml_12_339 (ct_X12_isSpot ia1 qx2) rfl rfl ⟨rfl, rfl⟩ ⟨Nat.le_of_ble_eq_true rfl, Nat.le_of_ble_eq_true rfl⟩ ⟨Nat.zero_le _, Nat.zero_le _⟩ rfl (Nat.le_of_ble_eq_true rfl) (fun ix2 => ?_)
  refine g_if_eq C dX12_distance_10 (zI ix2) rfl (tgt := 21) (fun c3 => ?_) (fun c3 => ?_)
  · have h := ifT c3 h
    refine g_iconst C dX12_distance_21 ?_
    exact g_iretP C dX12_distance_22 hr hlk h (by decide)
  · have h := ifF c3 h
    refine g_aload_n C dX12_distance_13 rfl ?_
    refine g_iload_n C dX12_distance_14 rfl ?_
    obtain ⟨x4, qx4, h⟩ := bnd h
    refine g_callV1 (As := [iv a2]) C dX12_distance_15 mi_X12_isSpot ml_12_339 (ct_X12_isSpot ia2 qx4) rfl rfl ⟨rfl, rfl⟩ ⟨Nat.le_of_ble_eq_true rfl, Nat.le_of_ble_eq_true rfl⟩ ⟨Nat.zero_le _, Nat.zero_le _⟩ rfl (Nat.le_of_ble_eq_true rfl) (fun ix4 => ?_)
    refine g_if_ne C dX12_distance_18 (zI ix4) rfl (tgt := 23) (fun c5 => ?_) (fun c5 => ?_)
    · have h := ifF c5 h
      refine g_aload_n C dX12_distance_23 rfl ?_
      obtain ⟨σ6, qσ6, h⟩ := bnd h
      refine g_callV0 (As := []) C dX12_distance_24 mi_X12_measures ml_12_345 (ct_X12_measures qσ6) rfl rfl ⟨rfl, rfl⟩ ⟨Nat.le_of_ble_eq_true rfl, Nat.le_of_ble_eq_true rfl⟩ ⟨Nat.zero_le _, Nat.zero_le _⟩ rfl (Nat.le_of_ble_eq_true rfl) (fun _ => ?_)
      refine g_aload_n C dX12_distance_27 rfl ?_
      refine g_getR (j := 40) C dX12_distance_28 rfl (Nat.le_of_ble_eq_true rfl) (Nat.le_of_ble_eq_true rfl) fl_12_88 rfl rfl (r := 194) rfl ?_
      refine g_bipush C dX12_distance_31 rfl ?_
      refine g_iload_n C dX12_distance_33 rfl ?_
      refine g_imul C dX12_distance_34 ?_
      refine g_iload_n C dX12_distance_35 rfl ?_
      refine g_iadd C dX12_distance_36 ?_
      obtain ⟨x7, qx7, h⟩ := bnd h
      refine g_iald C dX12_distance_37 rfl rfl qx7 (iwr _) (fun ix7 => ?_)
      refine g_sipush C dX12_distance_38 rfl ?_
      refine g_icmp_ge C dX12_distance_41 ix7 (by decide) rfl (tgt := 58) (fun c8 => ?_) (fun c8 => ?_)
      · have h := ifT c8 h
        refine g_iconst C dX12_distance_58 ?_
        exact g_iretP C dX12_distance_59 hr hlk h (by decide)
      · have h := ifF c8 h
        refine g_aload_n C dX12_distance_44 rfl ?_
        refine g_getR (j := 40) C dX12_distance_45 rfl (Nat.le_of_ble_eq_true rfl) (Nat.le_of_ble_eq_true rfl) fl_12_88 rfl rfl (r := 194) rfl ?_
        refine g_bipush C dX12_distance_48 rfl ?_
        refine g_iload_n C dX12_distance_50 rfl ?_
        refine g_imul C dX12_distance_51 ?_
        refine g_iload_n C dX12_distance_52 rfl ?_
        refine g_iadd C dX12_distance_53 ?_
        obtain ⟨x9, qx9, h⟩ := bnd h
        refine g_iald C dX12_distance_54 rfl rfl qx9 (iwr _) (fun ix9 => ?_)
        refine g_goto C dX12_distance_55 rfl (tgt := 59) ?_
        exact g_iretP C dX12_distance_59 hr hlk h ix9
    · have h := ifT c5 h
      refine g_iconst C dX12_distance_21 ?_
      exact g_iretP C dX12_distance_22 hr hlk h (by decide)
theorem dX12_fact_0 : decode cX12_fact 0 = .ok (.aload_n 0, 1) := by decide +kernel
theorem dX12_fact_1 : decode cX12_fact 1 = .ok (.getfield 91, 3) := by decide +kernel
theorem dX12_fact_4 : decode cX12_fact 4 = .ok (.aload_n 0, 1) := by decide +kernel
theorem dX12_fact_5 : decode cX12_fact 5 = .ok (.getfield 348, 3) := by decide +kernel
theorem dX12_fact_8 : decode cX12_fact 8 = .ok (.iload_n 1, 1) := by decide +kernel
theorem dX12_fact_9 : decode cX12_fact 9 = .ok (.iastore, 1) := by decide +kernel
theorem dX12_fact_10 : decode cX12_fact 10 = .ok (.aload_n 0, 1) := by decide +kernel
theorem dX12_fact_11 : decode cX12_fact 11 = .ok (.getfield 94, 3) := by decide +kernel
theorem dX12_fact_14 : decode cX12_fact 14 = .ok (.aload_n 0, 1) := by decide +kernel
theorem dX12_fact_15 : decode cX12_fact 15 = .ok (.getfield 348, 3) := by decide +kernel
theorem dX12_fact_18 : decode cX12_fact 18 = .ok (.iload_n 2, 1) := by decide +kernel
theorem dX12_fact_19 : decode cX12_fact 19 = .ok (.iastore, 1) := by decide +kernel
theorem dX12_fact_20 : decode cX12_fact 20 = .ok (.aload_n 0, 1) := by decide +kernel
theorem dX12_fact_21 : decode cX12_fact 21 = .ok (.getfield 97, 3) := by decide +kernel
theorem dX12_fact_24 : decode cX12_fact 24 = .ok (.aload_n 0, 1) := by decide +kernel
theorem dX12_fact_25 : decode cX12_fact 25 = .ok (.getfield 348, 3) := by decide +kernel
theorem dX12_fact_28 : decode cX12_fact 28 = .ok (.iload_n 3, 1) := by decide +kernel
theorem dX12_fact_29 : decode cX12_fact 29 = .ok (.iastore, 1) := by decide +kernel
theorem dX12_fact_30 : decode cX12_fact 30 = .ok (.aload_n 0, 1) := by decide +kernel
theorem dX12_fact_31 : decode cX12_fact 31 = .ok (.getfield 100, 3) := by decide +kernel
theorem dX12_fact_34 : decode cX12_fact 34 = .ok (.aload_n 0, 1) := by decide +kernel
theorem dX12_fact_35 : decode cX12_fact 35 = .ok (.getfield 348, 3) := by decide +kernel
theorem dX12_fact_38 : decode cX12_fact 38 = .ok (.iload 4, 2) := by decide +kernel
theorem dX12_fact_40 : decode cX12_fact 40 = .ok (.iastore, 1) := by decide +kernel
theorem dX12_fact_41 : decode cX12_fact 41 = .ok (.aload_n 0, 1) := by decide +kernel
theorem dX12_fact_42 : decode cX12_fact 42 = .ok (.getfield 103, 3) := by decide +kernel
theorem dX12_fact_45 : decode cX12_fact 45 = .ok (.aload_n 0, 1) := by decide +kernel
theorem dX12_fact_46 : decode cX12_fact 46 = .ok (.getfield 348, 3) := by decide +kernel
theorem dX12_fact_49 : decode cX12_fact 49 = .ok (.iload 5, 2) := by decide +kernel
theorem dX12_fact_51 : decode cX12_fact 51 = .ok (.iastore, 1) := by decide +kernel
theorem dX12_fact_52 : decode cX12_fact 52 = .ok (.aload_n 0, 1) := by decide +kernel
theorem dX12_fact_53 : decode cX12_fact 53 = .ok (.dup, 1) := by decide +kernel
theorem dX12_fact_54 : decode cX12_fact 54 = .ok (.getfield 348, 3) := by decide +kernel
theorem dX12_fact_57 : decode cX12_fact 57 = .ok (.iconst 1, 1) := by decide +kernel
theorem dX12_fact_58 : decode cX12_fact 58 = .ok (.iadd, 1) := by decide +kernel
theorem dX12_fact_59 : decode cX12_fact 59 = .ok (.putfield 348, 3) := by decide +kernel
theorem dX12_fact_62 : decode cX12_fact 62 = .ok (.aload_n 0, 1) := by decide +kernel
theorem dX12_fact_63 : decode cX12_fact 63 = .ok (.getfield 348, 3) := by decide +kernel
theorem dX12_fact_66 : decode cX12_fact 66 = .ok (.iconst 1, 1) := by decide +kernel
theorem dX12_fact_67 : decode cX12_fact 67 = .ok (.isub, 1) := by decide +kernel
theorem dX12_fact_68 : decode cX12_fact 68 = .ok (.ireturn, 1) := by decide +kernel
abbrev rm_X12_fact : Room := { frames := 0, cells := 0, slots := 0, locals := 0 }
set_option maxRecDepth 100000 in
set_option maxHeartbeats 4000000 in
theorem ct_X12_fact {w : Wd} {l : Launch} {a1 : Int} {a2 : Int} {a3 : Int} {a4 : Int} {a5 : Int} {σ : St} {y : Int} {σ' : St} (ia1 : InI a1) (ia2 : InI a2) (ia3 : InI a3) (ia4 : InI a4) (ia5 : InI a5) (h : m_X12_fact a1 a2 a3 a4 a5 σ = some (y, σ')) : Ct w l yX12_fact (Cond.code yX12_fact cX12_fact 6 (some .int) :: TB) rm_X12_fact [rv w 170, iv a1, iv a2, iv a3, iv a4, iv a5] σ (some (iv y)) (InI y) σ' := by
  refine Ct.of2 [some (rv w 170), some (iv a1), some (iv a2), some (iv a3), some (iv a4), some (iv a5)] 0 rfl pn_RX12 (Nat.le_of_ble_eq_true rfl) ?_
  intro p e s m args below meth c C hr hlk
  unfold m_X12_fact at h
  refine g_aload_n C dX12_fact_0 rfl ?_
  refine g_getR (j := 42) C dX12_fact_1 rfl (Nat.le_of_ble_eq_true rfl) (Nat.le_of_ble_eq_true rfl) fl_12_91 rfl rfl (r := 195) rfl ?_
  refine g_aload_n C dX12_fact_4 rfl ?_
  refine g_getI (j := 41) C dX12_fact_5 rfl (Nat.le_of_ble_eq_true rfl) (Nat.le_of_ble_eq_true rfl) fl_12_348 rfl rfl (fun i1 => ?_)
  refine g_iload_n C dX12_fact_8 rfl ?_
  obtain ⟨σ2, qσ2, h⟩ := bnd h
  refine g_iast C dX12_fact_9 rfl rfl qσ2 i1 ia1 ?_
  refine g_aload_n C dX12_fact_10 rfl ?_
  refine g_getR (j := 43) C dX12_fact_11 rfl (Nat.le_of_ble_eq_true rfl) (Nat.le_of_ble_eq_true rfl) fl_12_94 rfl rfl (r := 196) rfl ?_
  refine g_aload_n C dX12_fact_14 rfl ?_
  refine g_getI (j := 41) C dX12_fact_15 rfl (Nat.le_of_ble_eq_true rfl) (Nat.le_of_ble_eq_true rfl) fl_12_348 rfl rfl (fun i3 => ?_)
  refine g_iload_n C dX12_fact_18 rfl ?_
  obtain ⟨σ4, qσ4, h⟩ := bnd h
  refine g_iast C dX12_fact_19 rfl rfl qσ4 i3 ia2 ?_
  refine g_aload_n C dX12_fact_20 rfl ?_
  refine g_getR (j := 44) C dX12_fact_21 rfl (Nat.le_of_ble_eq_true rfl) (Nat.le_of_ble_eq_true rfl) fl_12_97 rfl rfl (r := 197) rfl ?_
  refine g_aload_n C dX12_fact_24 rfl ?_
  refine g_getI (j := 41) C dX12_fact_25 rfl (Nat.le_of_ble_eq_true rfl) (Nat.le_of_ble_eq_true rfl) fl_12_348 rfl rfl (fun i5 => ?_)
  refine g_iload_n C dX12_fact_28 rfl ?_
  obtain ⟨σ6, qσ6, h⟩ := bnd h
  refine g_iast C dX12_fact_29 rfl rfl qσ6 i5 ia3 ?_
  refine g_aload_n C dX12_fact_30 rfl ?_
  refine g_getR (j := 45) C dX12_fact_31 rfl (Nat.le_of_ble_eq_true rfl) (Nat.le_of_ble_eq_true rfl) fl_12_100 rfl rfl (r := 198) rfl ?_
  refine g_aload_n C dX12_fact_34 rfl ?_
  refine g_getI (j := 41) C dX12_fact_35 rfl (Nat.le_of_ble_eq_true rfl) (Nat.le_of_ble_eq_true rfl) fl_12_348 rfl rfl (fun i7 => ?_)
  refine g_iload C dX12_fact_38 rfl ?_
  obtain ⟨σ8, qσ8, h⟩ := bnd h
  refine g_iast C dX12_fact_40 rfl rfl qσ8 i7 ia4 ?_
  refine g_aload_n C dX12_fact_41 rfl ?_
  refine g_getR (j := 46) C dX12_fact_42 rfl (Nat.le_of_ble_eq_true rfl) (Nat.le_of_ble_eq_true rfl) fl_12_103 rfl rfl (r := 199) rfl ?_
  refine g_aload_n C dX12_fact_45 rfl ?_
  refine g_getI (j := 41) C dX12_fact_46 rfl (Nat.le_of_ble_eq_true rfl) (Nat.le_of_ble_eq_true rfl) fl_12_348 rfl rfl (fun i9 => ?_)
  refine g_iload C dX12_fact_49 rfl ?_
  obtain ⟨σ10, qσ10, h⟩ := bnd h
  refine g_iast C dX12_fact_51 rfl rfl qσ10 i9 ia5 ?_
  refine g_aload_n C dX12_fact_52 rfl ?_
  refine g_dup C dX12_fact_53 rfl ?_
  refine g_getI (j := 41) C dX12_fact_54 rfl (Nat.le_of_ble_eq_true rfl) (Nat.le_of_ble_eq_true rfl) fl_12_348 rfl rfl (fun i11 => ?_)
  refine g_iconst C dX12_fact_57 ?_
  refine g_iadd C dX12_fact_58 ?_
  obtain ⟨σ12, qσ12, h⟩ := bnd h
  refine g_putI (j := 41) C dX12_fact_59 rfl (Nat.le_of_ble_eq_true rfl) (Nat.le_of_ble_eq_true rfl) fl_12_348 rfl rfl rfl rfl qσ12 (iwr _) ?_
  refine g_aload_n C dX12_fact_62 rfl ?_
  refine g_getI (j := 41) C dX12_fact_63 rfl (Nat.le_of_ble_eq_true rfl) (Nat.le_of_ble_eq_true rfl) fl_12_348 rfl rfl (fun i13 => ?_)
  refine g_iconst C dX12_fact_66 ?_
  refine g_isub C dX12_fact_67 ?_
  exact g_iretP C dX12_fact_68 hr hlk h (iwr _)
theorem dX12_isKnown_0 : decode cX12_isKnown 0 = .ok (.iload_n 1, 1) := by decide +kernel
theorem dX12_isKnown_1 : decode cX12_isKnown 1 = .ok (.ifCond .lt 15, 3) := by decide +kernel
theorem dX12_isKnown_4 : decode cX12_isKnown 4 = .ok (.iload_n 1, 1) := by decide +kernel
theorem dX12_isKnown_5 : decode cX12_isKnown 5 = .ok (.aload_n 0, 1) := by decide +kernel
theorem dX12_isKnown_6 : decode cX12_isKnown 6 = .ok (.getfield 348, 3) := by decide +kernel
theorem dX12_isKnown_9 : decode cX12_isKnown 9 = .ok (.if_icmp .gt 7, 3) := by decide +kernel
theorem dX12_isKnown_12 : decode cX12_isKnown 12 = .ok (.iconst 1, 1) := by decide +kernel
theorem dX12_isKnown_13 : decode cX12_isKnown 13 = .ok (.goto 4, 3) := by decide +kernel
theorem dX12_isKnown_16 : decode cX12_isKnown 16 = .ok (.iconst 0, 1) := by decide +kernel
theorem dX12_isKnown_17 : decode cX12_isKnown 17 = .ok (.ireturn, 1) := by decide +kernel
abbrev rm_X12_isKnown : Room := { frames := 0, cells := 0, slots := 0, locals := 0 }
set_option maxRecDepth 100000 in
set_option maxHeartbeats 4000000 in
theorem ct_X12_isKnown {w : Wd} {l : Launch} {a1 : Int} {σ : St} {y : Int} (ia1 : InI a1) (h : m_X12_isKnown a1 σ = some y) : Ct w l yX12_isKnown (Cond.code yX12_isKnown cX12_isKnown 2 (some .boolean) :: TB) rm_X12_isKnown [rv w 170, iv a1] σ (some (iv y)) (InZ y) σ := by
  refine Ct.of2 [some (rv w 170), some (iv a1)] 0 rfl pn_RX12 (Nat.le_of_ble_eq_true rfl) ?_
  intro p e s m args below meth c C hr hlk
  unfold m_X12_isKnown at h
  refine g_iload_n C dX12_isKnown_0 rfl ?_
  refine g_if_lt C dX12_isKnown_1 ia1 rfl (tgt := 16) (fun c1 => ?_) (fun c1 => ?_)
  · have h := ifT c1 h
    refine g_iconst C dX12_isKnown_16 ?_
    exact g_zretU C dX12_isKnown_17 hr hlk h (Or.inl rfl)
  · have h := ifF c1 h
    refine g_iload_n C dX12_isKnown_4 rfl ?_
    refine g_aload_n C dX12_isKnown_5 rfl ?_
    refine g_getI (j := 41) C dX12_isKnown_6 rfl (Nat.le_of_ble_eq_true rfl) (Nat.le_of_ble_eq_true rfl) fl_12_348 rfl rfl (fun i2 => ?_)
    refine g_icmp_gt C dX12_isKnown_9 ia1 i2 rfl (tgt := 16) (fun c3 => ?_) (fun c3 => ?_)
    · have h := ifT c3 h
      refine g_iconst C dX12_isKnown_16 ?_
      exact g_zretU C dX12_isKnown_17 hr hlk h (Or.inl rfl)
    · have h := ifF c3 h
      refine g_iconst C dX12_isKnown_12 ?_
      refine g_goto C dX12_isKnown_13 rfl (tgt := 17) ?_
      exact g_zretU C dX12_isKnown_17 hr hlk h (Or.inr rfl)
theorem dX12_isStruck_0 : decode cX12_isStruck 0 = .ok (.iload_n 1, 1) := by decide +kernel
theorem dX12_isStruck_1 : decode cX12_isStruck 1 = .ok (.iconst 1, 1) := by decide +kernel
theorem dX12_isStruck_2 : decode cX12_isStruck 2 = .ok (.iadd, 1) := by decide +kernel
theorem dX12_isStruck_3 : decode cX12_isStruck 3 = .ok (.istore_n 3, 1) := by decide +kernel
theorem dX12_isStruck_4 : decode cX12_isStruck 4 = .ok (.iload_n 3, 1) := by decide +kernel
theorem dX12_isStruck_5 : decode cX12_isStruck 5 = .ok (.iload_n 2, 1) := by decide +kernel
theorem dX12_isStruck_6 : decode cX12_isStruck 6 = .ok (.if_icmp .ge 31, 3) := by decide +kernel
theorem dX12_isStruck_9 : decode cX12_isStruck 9 = .ok (.aload_n 0, 1) := by decide +kernel
theorem dX12_isStruck_10 : decode cX12_isStruck 10 = .ok (.getfield 91, 3) := by decide +kernel
theorem dX12_isStruck_13 : decode cX12_isStruck 13 = .ok (.iload_n 3, 1) := by decide +kernel
theorem dX12_isStruck_14 : decode cX12_isStruck 14 = .ok (.iaload, 1) := by decide +kernel
theorem dX12_isStruck_15 : decode cX12_isStruck 15 = .ok (.iconst 3, 1) := by decide +kernel
theorem dX12_isStruck_16 : decode cX12_isStruck 16 = .ok (.if_icmp .ne 15, 3) := by decide +kernel
theorem dX12_isStruck_19 : decode cX12_isStruck 19 = .ok (.aload_n 0, 1) := by decide +kernel
theorem dX12_isStruck_20 : decode cX12_isStruck 20 = .ok (.getfield 94, 3) := by decide +kernel
theorem dX12_isStruck_23 : decode cX12_isStruck 23 = .ok (.iload_n 3, 1) := by decide +kernel
theorem dX12_isStruck_24 : decode cX12_isStruck 24 = .ok (.iaload, 1) := by decide +kernel
theorem dX12_isStruck_25 : decode cX12_isStruck 25 = .ok (.iload_n 1, 1) := by decide +kernel
theorem dX12_isStruck_26 : decode cX12_isStruck 26 = .ok (.if_icmp .ne 5, 3) := by decide +kernel
theorem dX12_isStruck_29 : decode cX12_isStruck 29 = .ok (.iconst 1, 1) := by decide +kernel
theorem dX12_isStruck_30 : decode cX12_isStruck 30 = .ok (.ireturn, 1) := by decide +kernel
theorem dX12_isStruck_31 : decode cX12_isStruck 31 = .ok (.iinc 3 1, 3) := by decide +kernel
theorem dX12_isStruck_34 : decode cX12_isStruck 34 = .ok (.goto (-30), 3) := by decide +kernel
theorem dX12_isStruck_37 : decode cX12_isStruck 37 = .ok (.iconst 0, 1) := by decide +kernel
theorem dX12_isStruck_38 : decode cX12_isStruck 38 = .ok (.ireturn, 1) := by decide +kernel
abbrev rm_X12_isStruck : Room := { frames := 0, cells := 0, slots := 0, locals := 0 }
set_option maxRecDepth 100000 in
set_option maxHeartbeats 4000000 in
theorem ct_X12_isStruck {w : Wd} {l : Launch} {a1 : Int} {a2 : Int} {σ : St} {y : Int} (ia1 : InI a1) (ia2 : InI a2) (h : m_X12_isStruck a1 a2 σ = some y) : Ct w l yX12_isStruck (Cond.code yX12_isStruck cX12_isStruck 4 (some .boolean) :: TB) rm_X12_isStruck [rv w 170, iv a1, iv a2] σ (some (iv y)) (InZ y) σ := by
  refine Ct.of2 [some (rv w 170), some (iv a1), some (iv a2), none] 1 rfl pn_RX12 (Nat.le_of_ble_eq_true rfl) ?_
  intro p e s m args below meth c C hr hlk
  unfold m_X12_isStruck at h
  refine g_iload_n C dX12_isStruck_0 rfl ?_
  refine g_iconst C dX12_isStruck_1 ?_
  refine g_iadd C dX12_isStruck_2 ?_
  obtain ⟨x1, qx1, h⟩ := bnd h
  have qx1 := Option.some.inj qx1
  have ix1 : InI x1 := by rw [← qx1]; exact (iwr _)
  refine g_E qx1 ?_
  refine g_istore_n (L1 := [some (rv w 170), some (iv a1), some (iv a2), some (iv x1)]) C dX12_isStruck_3 rfl (Nat.le_of_ble_eq_true rfl) rfl ?_
  obtain ⟨b2, hb2, hF2⟩ := bnd h
  have hX2 : Sum.inl () = b2 → GM w p l e rm_X12_isStruck s m args below meth c (some (iv y)) (InZ y) σ 4 37 [none, none, none, none] [] σ := by
    intro q
    subst q
    have h := hF2
    refine g_iconst C dX12_isStruck_37 ?_
    exact g_zretU C dX12_isStruck_38 hr hlk h (Or.inl rfl)
  have hL2 : ∀ (n : Nat) (x3 : Int) , InI x3 → lpN (fun a => m_X12_isStruck_L4 a2 σ a1 a) n x3 = some b2 → GM w p l e rm_X12_isStruck s m args below meth c (some (iv y)) (InZ y) σ 4 4 [some (rv w 170), some (iv a1), some (iv a2), some (iv x3)] [] σ := by
    intro n
    induction n with
    | zero => intro x3 ix3 q; cases q
    | succ n ih2 =>
      intro x3 ix3 q
      obtain ⟨o2, h, hk2⟩ := lp_step q
      replace h : m_X12_isStruck_L4 a2 σ a1 x3 = some o2 := h
      unfold m_X12_isStruck_L4 at h
      refine g_iload_n C dX12_isStruck_4 rfl ?_
      refine g_iload_n C dX12_isStruck_5 rfl ?_
      refine g_icmp_ge C dX12_isStruck_6 ix3 ia2 rfl (tgt := 37) (fun c4 => ?_) (fun c4 => ?_)
      · have h := ifT c4 h
        refine g_mask [false, false, false, false] ?_
        obtain rfl := Option.some.inj h
        exact hX2  (lpR hk2).symm
      · have h := ifF c4 h
        refine g_aload_n C dX12_isStruck_9 rfl ?_
        refine g_getR (j := 42) C dX12_isStruck_10 rfl (Nat.le_of_ble_eq_true rfl) (Nat.le_of_ble_eq_true rfl) fl_12_91 rfl rfl (r := 195) rfl ?_
        refine g_iload_n C dX12_isStruck_13 rfl ?_
        obtain ⟨x5, qx5, h⟩ := bnd h
        refine g_iald C dX12_isStruck_14 rfl rfl qx5 ix3 (fun ix5 => ?_)
        refine g_iconst C dX12_isStruck_15 ?_
        refine g_icmp_ne C dX12_isStruck_16 ix5 (by decide) rfl (tgt := 31) (fun c6 => ?_) (fun c6 => ?_)
        · have h := ifF c6 h
          refine g_iinc (L1 := [some (rv w 170), some (iv a1), some (iv a2), some (iv (wr (x3 + 1)))]) C dX12_isStruck_31 rfl rfl (Nat.le_of_ble_eq_true rfl) rfl ?_
          refine g_goto C dX12_isStruck_34 rfl (tgt := 4) ?_
          obtain rfl := Option.some.inj h
          exact ih2 _ (iwr _) (lpL hk2)
        · have h := ifT c6 h
          refine g_aload_n C dX12_isStruck_19 rfl ?_
          refine g_getR (j := 43) C dX12_isStruck_20 rfl (Nat.le_of_ble_eq_true rfl) (Nat.le_of_ble_eq_true rfl) fl_12_94 rfl rfl (r := 196) rfl ?_
          refine g_iload_n C dX12_isStruck_23 rfl ?_
          obtain ⟨x7, qx7, h⟩ := bnd h
          refine g_iald C dX12_isStruck_24 rfl rfl qx7 ix3 (fun ix7 => ?_)
          refine g_iload_n C dX12_isStruck_25 rfl ?_
          refine g_icmp_ne C dX12_isStruck_26 ix7 ia1 rfl (tgt := 31) (fun c8 => ?_) (fun c8 => ?_)
          · have h := ifF c8 h
            refine g_iinc (L1 := [some (rv w 170), some (iv a1), some (iv a2), some (iv (wr (x3 + 1)))]) C dX12_isStruck_31 rfl rfl (Nat.le_of_ble_eq_true rfl) rfl ?_
            refine g_goto C dX12_isStruck_34 rfl (tgt := 4) ?_
            obtain rfl := Option.some.inj h
            exact ih2 _ (iwr _) (lpL hk2)
          · have h := ifT c8 h
            refine g_iconst C dX12_isStruck_29 ?_
            obtain rfl := Option.some.inj h
            have e2 := (lpR hk2).symm
            subst e2
            have h := hF2
            exact g_zretU C dX12_isStruck_30 hr hlk h (Or.inr rfl)
  exact hL2 FU _ ix1 hb2
theorem dX12_post_0 : decode cX12_post 0 = .ok (.aload_n 0, 1) := by decide +kernel
theorem dX12_post_1 : decode cX12_post 1 = .ok (.iconst 0, 1) := by decide +kernel
theorem dX12_post_2 : decode cX12_post 2 = .ok (.putfield 1, 3) := by decide +kernel
theorem dX12_post_5 : decode cX12_post 5 = .ok (.aload_n 0, 1) := by decide +kernel
theorem dX12_post_6 : decode cX12_post 6 = .ok (.getfield 348, 3) := by decide +kernel
theorem dX12_post_9 : decode cX12_post 9 = .ok (.sipush 150, 3) := by decide +kernel
theorem dX12_post_12 : decode cX12_post 12 = .ok (.if_icmp .eq 37, 3) := by decide +kernel
theorem dX12_post_15 : decode cX12_post 15 = .ok (.iload_n 1, 1) := by decide +kernel
theorem dX12_post_16 : decode cX12_post 16 = .ok (.ifCond .lt 33, 3) := by decide +kernel
theorem dX12_post_19 : decode cX12_post 19 = .ok (.iload_n 1, 1) := by decide +kernel
theorem dX12_post_20 : decode cX12_post 20 = .ok (.iconst 3, 1) := by decide +kernel
theorem dX12_post_21 : decode cX12_post 21 = .ok (.if_icmp .gt 28, 3) := by decide +kernel
theorem dX12_post_24 : decode cX12_post 24 = .ok (.aload_n 0, 1) := by decide +kernel
theorem dX12_post_25 : decode cX12_post 25 = .ok (.iload_n 2, 1) := by decide +kernel
theorem dX12_post_26 : decode cX12_post 26 = .ok (.invokevirtual 339, 3) := by decide +kernel
theorem dX12_post_29 : decode cX12_post 29 = .ok (.ifCond .eq 20, 3) := by decide +kernel
theorem dX12_post_32 : decode cX12_post 32 = .ok (.iload_n 3, 1) := by decide +kernel
theorem dX12_post_33 : decode cX12_post 33 = .ok (.ifCond .lt 16, 3) := by decide +kernel
theorem dX12_post_36 : decode cX12_post 36 = .ok (.iload_n 3, 1) := by decide +kernel
theorem dX12_post_37 : decode cX12_post 37 = .ok (.iload 4, 2) := by decide +kernel
theorem dX12_post_39 : decode cX12_post 39 = .ok (.if_icmp .ge 10, 3) := by decide +kernel
theorem dX12_post_42 : decode cX12_post 42 = .ok (.iload 4, 2) := by decide +kernel
theorem dX12_post_44 : decode cX12_post 44 = .ok (.bipush 96, 2) := by decide +kernel
theorem dX12_post_46 : decode cX12_post 46 = .ok (.if_icmp .le 5, 3) := by decide +kernel
theorem dX12_post_49 : decode cX12_post 49 = .ok (.iconst (-1), 1) := by decide +kernel
theorem dX12_post_50 : decode cX12_post 50 = .ok (.ireturn, 1) := by decide +kernel
theorem dX12_post_51 : decode cX12_post 51 = .ok (.iconst 0, 1) := by decide +kernel
theorem dX12_post_52 : decode cX12_post 52 = .ok (.istore 5, 2) := by decide +kernel
theorem dX12_post_54 : decode cX12_post 54 = .ok (.iload 5, 2) := by decide +kernel
theorem dX12_post_56 : decode cX12_post 56 = .ok (.aload_n 0, 1) := by decide +kernel
theorem dX12_post_57 : decode cX12_post 57 = .ok (.getfield 348, 3) := by decide +kernel
theorem dX12_post_60 : decode cX12_post 60 = .ok (.if_icmp .ge 68, 3) := by decide +kernel
theorem dX12_post_63 : decode cX12_post 63 = .ok (.aload_n 0, 1) := by decide +kernel
theorem dX12_post_64 : decode cX12_post 64 = .ok (.getfield 91, 3) := by decide +kernel
theorem dX12_post_67 : decode cX12_post 67 = .ok (.iload 5, 2) := by decide +kernel
theorem dX12_post_69 : decode cX12_post 69 = .ok (.iaload, 1) := by decide +kernel
theorem dX12_post_70 : decode cX12_post 70 = .ok (.ifCond .ne 52, 3) := by decide +kernel
theorem dX12_post_73 : decode cX12_post 73 = .ok (.aload_n 0, 1) := by decide +kernel
theorem dX12_post_74 : decode cX12_post 74 = .ok (.getfield 94, 3) := by decide +kernel
theorem dX12_post_77 : decode cX12_post 77 = .ok (.iload 5, 2) := by decide +kernel
theorem dX12_post_79 : decode cX12_post 79 = .ok (.iaload, 1) := by decide +kernel
theorem dX12_post_80 : decode cX12_post 80 = .ok (.iload_n 1, 1) := by decide +kernel
theorem dX12_post_81 : decode cX12_post 81 = .ok (.if_icmp .ne 41, 3) := by decide +kernel
theorem dX12_post_84 : decode cX12_post 84 = .ok (.aload_n 0, 1) := by decide +kernel
theorem dX12_post_85 : decode cX12_post 85 = .ok (.getfield 100, 3) := by decide +kernel
theorem dX12_post_88 : decode cX12_post 88 = .ok (.iload 5, 2) := by decide +kernel
theorem dX12_post_90 : decode cX12_post 90 = .ok (.iaload, 1) := by decide +kernel
theorem dX12_post_91 : decode cX12_post 91 = .ok (.iload 4, 2) := by decide +kernel
theorem dX12_post_93 : decode cX12_post 93 = .ok (.if_icmp .ge 29, 3) := by decide +kernel
theorem dX12_post_96 : decode cX12_post 96 = .ok (.iload_n 3, 1) := by decide +kernel
theorem dX12_post_97 : decode cX12_post 97 = .ok (.aload_n 0, 1) := by decide +kernel
theorem dX12_post_98 : decode cX12_post 98 = .ok (.getfield 103, 3) := by decide +kernel
theorem dX12_post_101 : decode cX12_post 101 = .ok (.iload 5, 2) := by decide +kernel
theorem dX12_post_103 : decode cX12_post 103 = .ok (.iaload, 1) := by decide +kernel
theorem dX12_post_104 : decode cX12_post 104 = .ok (.if_icmp .ge 18, 3) := by decide +kernel
theorem dX12_post_107 : decode cX12_post 107 = .ok (.aload_n 0, 1) := by decide +kernel
theorem dX12_post_108 : decode cX12_post 108 = .ok (.iload 5, 2) := by decide +kernel
theorem dX12_post_110 : decode cX12_post 110 = .ok (.aload_n 0, 1) := by decide +kernel
theorem dX12_post_111 : decode cX12_post 111 = .ok (.getfield 348, 3) := by decide +kernel
theorem dX12_post_114 : decode cX12_post 114 = .ok (.invokevirtual 351, 3) := by decide +kernel
theorem dX12_post_117 : decode cX12_post 117 = .ok (.ifCond .ne 5, 3) := by decide +kernel
theorem dX12_post_120 : decode cX12_post 120 = .ok (.iconst (-1), 1) := by decide +kernel
theorem dX12_post_121 : decode cX12_post 121 = .ok (.ireturn, 1) := by decide +kernel
theorem dX12_post_122 : decode cX12_post 122 = .ok (.iinc 5 1, 3) := by decide +kernel
theorem dX12_post_125 : decode cX12_post 125 = .ok (.goto (-71), 3) := by decide +kernel
theorem dX12_post_128 : decode cX12_post 128 = .ok (.aload_n 0, 1) := by decide +kernel
theorem dX12_post_129 : decode cX12_post 129 = .ok (.iconst 0, 1) := by decide +kernel
theorem dX12_post_130 : decode cX12_post 130 = .ok (.iload_n 1, 1) := by decide +kernel
theorem dX12_post_131 : decode cX12_post 131 = .ok (.iload_n 2, 1) := by decide +kernel
theorem dX12_post_132 : decode cX12_post 132 = .ok (.iload_n 3, 1) := by decide +kernel
theorem dX12_post_133 : decode cX12_post 133 = .ok (.iload 4, 2) := by decide +kernel
theorem dX12_post_135 : decode cX12_post 135 = .ok (.invokevirtual 355, 3) := by decide +kernel
theorem dX12_post_138 : decode cX12_post 138 = .ok (.ireturn, 1) := by decide +kernel
abbrev rm_X12_post : Room := { frames := 1, cells := 0, slots := 0, locals := 25 }
set_option maxRecDepth 100000 in
set_option maxHeartbeats 4000000 in
theorem ct_X12_post {w : Wd} {l : Launch} {a1 : Int} {a2 : Int} {a3 : Int} {a4 : Int} {σ : St} {y : Int} {σ' : St} (ia1 : InI a1) (ia2 : InI a2) (ia3 : InI a3) (ia4 : InI a4) (h : m_X12_post a1 a2 a3 a4 σ = some (y, σ')) : Ct w l yX12_post (Cond.code yX12_post cX12_post 6 (some .int) :: TB) rm_X12_post [rv w 170, iv a1, iv a2, iv a3, iv a4] σ (some (iv y)) (InI y) σ' := by
  refine Ct.of2 [some (rv w 170), some (iv a1), some (iv a2), some (iv a3), some (iv a4), none] 1 rfl pn_RX12 (Nat.le_of_ble_eq_true rfl) ?_
  intro p e s m args below meth c C hr hlk
  unfold m_X12_post at h
  refine g_aload_n C dX12_post_0 rfl ?_
  refine g_iconst C dX12_post_1 ?_
  obtain ⟨σ1, qσ1, h⟩ := bnd h
  refine g_putI (j := 0) C dX12_post_2 rfl (Nat.le_of_ble_eq_true rfl) (Nat.le_of_ble_eq_true rfl) fl_12_1 rfl rfl rfl rfl qσ1 (by decide) ?_
  refine g_aload_n C dX12_post_5 rfl ?_
  refine g_getI (j := 41) C dX12_post_6 rfl (Nat.le_of_ble_eq_true rfl) (Nat.le_of_ble_eq_true rfl) fl_12_348 rfl rfl (fun i2 => ?_)
  refine g_sipush C dX12_post_9 rfl ?_
  refine g_icmp_eq C dX12_post_12 i2 (by decide) rfl (tgt := 49) (fun c3 => ?_) (fun c3 => ?_)
  · have h := ifT c3 h
    refine g_iconst C dX12_post_49 ?_
    exact g_iretP C dX12_post_50 hr hlk h (by decide)
  · have h := ifF c3 h
    refine g_iload_n C dX12_post_15 rfl ?_
    refine g_if_lt C dX12_post_16 ia1 rfl (tgt := 49) (fun c4 => ?_) (fun c4 => ?_)
    · have h := ifT c4 h
      refine g_iconst C dX12_post_49 ?_
      exact g_iretP C dX12_post_50 hr hlk h (by decide)
    · have h := ifF c4 h
      refine g_iload_n C dX12_post_19 rfl ?_
      refine g_iconst C dX12_post_20 ?_
      refine g_icmp_gt C dX12_post_21 ia1 (by decide) rfl (tgt := 49) (fun c5 => ?_) (fun c5 => ?_)
      · have h := ifT c5 h
        refine g_iconst C dX12_post_49 ?_
        exact g_iretP C dX12_post_50 hr hlk h (by decide)
      · have h := ifF c5 h
        refine g_aload_n C dX12_post_24 rfl ?_
        refine g_iload_n C dX12_post_25 rfl ?_
        obtain ⟨x6, qx6, h⟩ := bnd h
        refine g_callV1 (As := [iv a2]) C dX12_post_26 mi_X12_isSpot ml_12_339 (ct_X12_isSpot ia2 qx6) rfl rfl ⟨rfl, rfl⟩ ⟨Nat.le_of_ble_eq_true rfl, Nat.le_of_ble_eq_true rfl⟩ ⟨Nat.zero_le _, Nat.zero_le _⟩ rfl (Nat.le_of_ble_eq_true rfl) (fun ix6 => ?_)
        refine g_if_eq C dX12_post_29 (zI ix6) rfl (tgt := 49) (fun c7 => ?_) (fun c7 => ?_)
        · have h := ifT c7 h
          refine g_iconst C dX12_post_49 ?_
          exact g_iretP C dX12_post_50 hr hlk h (by decide)
        · have h := ifF c7 h
          refine g_iload_n C dX12_post_32 rfl ?_
          refine g_if_lt C dX12_post_33 ia3 rfl (tgt := 49) (fun c8 => ?_) (fun c8 => ?_)
          · have h := ifT c8 h
            refine g_iconst C dX12_post_49 ?_
            exact g_iretP C dX12_post_50 hr hlk h (by decide)
          · have h := ifF c8 h
            refine g_iload_n C dX12_post_36 rfl ?_
            refine g_iload C dX12_post_37 rfl ?_
            refine g_icmp_ge C dX12_post_39 ia3 ia4 rfl (tgt := 49) (fun c9 => ?_) (fun c9 => ?_)
            · have h := ifT c9 h
              refine g_iconst C dX12_post_49 ?_
              exact g_iretP C dX12_post_50 hr hlk h (by decide)
            · have h := ifF c9 h
              refine g_iload C dX12_post_42 rfl ?_
              refine g_bipush C dX12_post_44 rfl ?_
              refine g_icmp_le C dX12_post_46 ia4 (by decide) rfl (tgt := 51) (fun c10 => ?_) (fun c10 => ?_)
              · have h := ifT c10 h
                refine g_iconst C dX12_post_51 ?_
                refine g_istore (L1 := [some (rv w 170), some (iv a1), some (iv a2), some (iv a3), some (iv a4), some (iv 0)]) C dX12_post_52 rfl (Nat.le_of_ble_eq_true rfl) rfl ?_
                obtain ⟨b11, hb11, hF11⟩ := bnd h
                have hX11 : Sum.inl () = b11 → GM w p l e rm_X12_post s m args below meth c (some (iv y)) (InI y) σ' 6 128 [some (rv w 170), some (iv a1), some (iv a2), some (iv a3), some (iv a4), none] [] σ1 := by
                  intro q
                  subst q
                  have h := hF11
                  refine g_aload_n C dX12_post_128 rfl ?_
                  refine g_iconst C dX12_post_129 ?_
                  refine g_iload_n C dX12_post_130 rfl ?_
                  refine g_iload_n C dX12_post_131 rfl ?_
                  refine g_iload_n C dX12_post_132 rfl ?_
                  refine g_iload C dX12_post_133 rfl ?_
                  obtain ⟨⟨x26, σ27⟩, qx26, h⟩ := bnd h
                  refine g_callV1 (As := [iv 0, iv a1, iv a2, iv a3, iv a4]) C dX12_post_135 mi_X12_fact ml_12_355 (ct_X12_fact (by decide) ia1 ia2 ia3 ia4 qx26) rfl rfl ⟨rfl, rfl⟩ ⟨Nat.le_of_ble_eq_true rfl, Nat.le_of_ble_eq_true rfl⟩ ⟨Nat.zero_le _, Nat.zero_le _⟩ rfl (Nat.le_of_ble_eq_true rfl) (fun ix26 => ?_)
                  exact g_iretP C dX12_post_138 hr hlk h ix26
                have hL11 : ∀ (n : Nat) (x12 : Int) , InI x12 → lpN (fun a => m_X12_post_L54 σ1 a1 a4 a3 a) n x12 = some b11 → GM w p l e rm_X12_post s m args below meth c (some (iv y)) (InI y) σ' 6 54 [some (rv w 170), some (iv a1), some (iv a2), some (iv a3), some (iv a4), some (iv x12)] [] σ1 := by
                  intro n
                  induction n with
                  | zero => intro x12 ix12 q; cases q
                  | succ n ih11 =>
                    intro x12 ix12 q
                    obtain ⟨o11, h, hk11⟩ := lp_step q
                    replace h : m_X12_post_L54 σ1 a1 a4 a3 x12 = some o11 := h
                    unfold m_X12_post_L54 at h
                    refine g_iload C dX12_post_54 rfl ?_
                    refine g_aload_n C dX12_post_56 rfl ?_
                    refine g_getI (j := 41) C dX12_post_57 rfl (Nat.le_of_ble_eq_true rfl) (Nat.le_of_ble_eq_true rfl) fl_12_348 rfl rfl (fun i13 => ?_)
                    refine g_icmp_ge C dX12_post_60 ix12 i13 rfl (tgt := 128) (fun c14 => ?_) (fun c14 => ?_)
                    · have h := ifT c14 h
                      refine g_mask [true, true, true, true, true, false] ?_
                      obtain rfl := Option.some.inj h
                      exact hX11  (lpR hk11).symm
                    · have h := ifF c14 h
                      refine g_aload_n C dX12_post_63 rfl ?_
                      refine g_getR (j := 42) C dX12_post_64 rfl (Nat.le_of_ble_eq_true rfl) (Nat.le_of_ble_eq_true rfl) fl_12_91 rfl rfl (r := 195) rfl ?_
                      refine g_iload C dX12_post_67 rfl ?_
                      obtain ⟨x15, qx15, h⟩ := bnd h
                      refine g_iald C dX12_post_69 rfl rfl qx15 ix12 (fun ix15 => ?_)
                      refine g_if_ne C dX12_post_70 ix15 rfl (tgt := 122) (fun c16 => ?_) (fun c16 => ?_)
                      · have h := ifF c16 h
                        refine g_iinc (L1 := [some (rv w 170), some (iv a1), some (iv a2), some (iv a3), some (iv a4), some (iv (wr (x12 + 1)))]) C dX12_post_122 rfl rfl (Nat.le_of_ble_eq_true rfl) rfl ?_
                        refine g_goto C dX12_post_125 rfl (tgt := 54) ?_
                        obtain rfl := Option.some.inj h
                        exact ih11 _ (iwr _) (lpL hk11)
                      · have h := ifT c16 h
                        refine g_aload_n C dX12_post_73 rfl ?_
                        refine g_getR (j := 43) C dX12_post_74 rfl (Nat.le_of_ble_eq_true rfl) (Nat.le_of_ble_eq_true rfl) fl_12_94 rfl rfl (r := 196) rfl ?_
                        refine g_iload C dX12_post_77 rfl ?_
                        obtain ⟨x17, qx17, h⟩ := bnd h
                        refine g_iald C dX12_post_79 rfl rfl qx17 ix12 (fun ix17 => ?_)
                        refine g_iload_n C dX12_post_80 rfl ?_
                        refine g_icmp_ne C dX12_post_81 ix17 ia1 rfl (tgt := 122) (fun c18 => ?_) (fun c18 => ?_)
                        · have h := ifF c18 h
                          refine g_iinc (L1 := [some (rv w 170), some (iv a1), some (iv a2), some (iv a3), some (iv a4), some (iv (wr (x12 + 1)))]) C dX12_post_122 rfl rfl (Nat.le_of_ble_eq_true rfl) rfl ?_
                          refine g_goto C dX12_post_125 rfl (tgt := 54) ?_
                          obtain rfl := Option.some.inj h
                          exact ih11 _ (iwr _) (lpL hk11)
                        · have h := ifT c18 h
                          refine g_aload_n C dX12_post_84 rfl ?_
                          refine g_getR (j := 45) C dX12_post_85 rfl (Nat.le_of_ble_eq_true rfl) (Nat.le_of_ble_eq_true rfl) fl_12_100 rfl rfl (r := 198) rfl ?_
                          refine g_iload C dX12_post_88 rfl ?_
                          obtain ⟨x19, qx19, h⟩ := bnd h
                          refine g_iald C dX12_post_90 rfl rfl qx19 ix12 (fun ix19 => ?_)
                          refine g_iload C dX12_post_91 rfl ?_
                          refine g_icmp_ge C dX12_post_93 ix19 ia4 rfl (tgt := 122) (fun c20 => ?_) (fun c20 => ?_)
                          · have h := ifT c20 h
                            refine g_iinc (L1 := [some (rv w 170), some (iv a1), some (iv a2), some (iv a3), some (iv a4), some (iv (wr (x12 + 1)))]) C dX12_post_122 rfl rfl (Nat.le_of_ble_eq_true rfl) rfl ?_
                            refine g_goto C dX12_post_125 rfl (tgt := 54) ?_
                            obtain rfl := Option.some.inj h
                            exact ih11 _ (iwr _) (lpL hk11)
                          · have h := ifF c20 h
                            refine g_iload_n C dX12_post_96 rfl ?_
                            refine g_aload_n C dX12_post_97 rfl ?_
                            refine g_getR (j := 46) C dX12_post_98 rfl (Nat.le_of_ble_eq_true rfl) (Nat.le_of_ble_eq_true rfl) fl_12_103 rfl rfl (r := 199) rfl ?_
                            refine g_iload C dX12_post_101 rfl ?_
                            obtain ⟨x21, qx21, h⟩ := bnd h
                            refine g_iald C dX12_post_103 rfl rfl qx21 ix12 (fun ix21 => ?_)
                            refine g_icmp_ge C dX12_post_104 ia3 ix21 rfl (tgt := 122) (fun c22 => ?_) (fun c22 => ?_)
                            · have h := ifT c22 h
                              refine g_iinc (L1 := [some (rv w 170), some (iv a1), some (iv a2), some (iv a3), some (iv a4), some (iv (wr (x12 + 1)))]) C dX12_post_122 rfl rfl (Nat.le_of_ble_eq_true rfl) rfl ?_
                              refine g_goto C dX12_post_125 rfl (tgt := 54) ?_
                              obtain rfl := Option.some.inj h
                              exact ih11 _ (iwr _) (lpL hk11)
                            · have h := ifF c22 h
                              refine g_aload_n C dX12_post_107 rfl ?_
                              refine g_iload C dX12_post_108 rfl ?_
                              refine g_aload_n C dX12_post_110 rfl ?_
                              refine g_getI (j := 41) C dX12_post_111 rfl (Nat.le_of_ble_eq_true rfl) (Nat.le_of_ble_eq_true rfl) fl_12_348 rfl rfl (fun i23 => ?_)
                              obtain ⟨x24, qx24, h⟩ := bnd h
                              refine g_callV1 (As := [iv x12, iv (σ1 170 41)]) C dX12_post_114 mi_X12_isStruck ml_12_351 (ct_X12_isStruck ix12 i23 qx24) rfl rfl ⟨rfl, rfl⟩ ⟨Nat.le_of_ble_eq_true rfl, Nat.le_of_ble_eq_true rfl⟩ ⟨Nat.zero_le _, Nat.zero_le _⟩ rfl (Nat.le_of_ble_eq_true rfl) (fun ix24 => ?_)
                              refine g_if_ne C dX12_post_117 (zI ix24) rfl (tgt := 122) (fun c25 => ?_) (fun c25 => ?_)
                              · have h := ifF c25 h
                                refine g_iinc (L1 := [some (rv w 170), some (iv a1), some (iv a2), some (iv a3), some (iv a4), some (iv (wr (x12 + 1)))]) C dX12_post_122 rfl rfl (Nat.le_of_ble_eq_true rfl) rfl ?_
                                refine g_goto C dX12_post_125 rfl (tgt := 54) ?_
                                obtain rfl := Option.some.inj h
                                exact ih11 _ (iwr _) (lpL hk11)
                              · have h := ifT c25 h
                                refine g_iconst C dX12_post_120 ?_
                                obtain rfl := Option.some.inj h
                                have e11 := (lpR hk11).symm
                                subst e11
                                have h := hF11
                                exact g_iretP C dX12_post_121 hr hlk h (by decide)
                exact hL11 FU _ (by decide) hb11
              · have h := ifF c10 h
                refine g_iconst C dX12_post_49 ?_
                exact g_iretP C dX12_post_50 hr hlk h (by decide)
theorem dX12_sight_0 : decode cX12_sight 0 = .ok (.aload_n 0, 1) := by decide +kernel
theorem dX12_sight_1 : decode cX12_sight 1 = .ok (.iconst 0, 1) := by decide +kernel
theorem dX12_sight_2 : decode cX12_sight 2 = .ok (.putfield 1, 3) := by decide +kernel
theorem dX12_sight_5 : decode cX12_sight 5 = .ok (.aload_n 0, 1) := by decide +kernel
theorem dX12_sight_6 : decode cX12_sight 6 = .ok (.getfield 348, 3) := by decide +kernel
theorem dX12_sight_9 : decode cX12_sight 9 = .ok (.sipush 150, 3) := by decide +kernel
theorem dX12_sight_12 : decode cX12_sight 12 = .ok (.if_icmp .eq 26, 3) := by decide +kernel
theorem dX12_sight_15 : decode cX12_sight 15 = .ok (.aload_n 0, 1) := by decide +kernel
theorem dX12_sight_16 : decode cX12_sight 16 = .ok (.iload_n 1, 1) := by decide +kernel
theorem dX12_sight_17 : decode cX12_sight 17 = .ok (.invokevirtual 342, 3) := by decide +kernel
theorem dX12_sight_20 : decode cX12_sight 20 = .ok (.ifCond .eq 18, 3) := by decide +kernel
theorem dX12_sight_23 : decode cX12_sight 23 = .ok (.aload_n 0, 1) := by decide +kernel
theorem dX12_sight_24 : decode cX12_sight 24 = .ok (.iload_n 2, 1) := by decide +kernel
theorem dX12_sight_25 : decode cX12_sight 25 = .ok (.invokevirtual 339, 3) := by decide +kernel
theorem dX12_sight_28 : decode cX12_sight 28 = .ok (.ifCond .eq 10, 3) := by decide +kernel
theorem dX12_sight_31 : decode cX12_sight 31 = .ok (.iload_n 3, 1) := by decide +kernel
theorem dX12_sight_32 : decode cX12_sight 32 = .ok (.invokestatic 359, 3) := by decide +kernel
theorem dX12_sight_35 : decode cX12_sight 35 = .ok (.ifCond .ne 7, 3) := by decide +kernel
theorem dX12_sight_38 : decode cX12_sight 38 = .ok (.iconst (-1), 1) := by decide +kernel
theorem dX12_sight_39 : decode cX12_sight 39 = .ok (.goto 12, 3) := by decide +kernel
theorem dX12_sight_42 : decode cX12_sight 42 = .ok (.aload_n 0, 1) := by decide +kernel
theorem dX12_sight_43 : decode cX12_sight 43 = .ok (.iconst 1, 1) := by decide +kernel
theorem dX12_sight_44 : decode cX12_sight 44 = .ok (.iload_n 1, 1) := by decide +kernel
theorem dX12_sight_45 : decode cX12_sight 45 = .ok (.iload_n 2, 1) := by decide +kernel
theorem dX12_sight_46 : decode cX12_sight 46 = .ok (.iload_n 3, 1) := by decide +kernel
theorem dX12_sight_47 : decode cX12_sight 47 = .ok (.iconst 0, 1) := by decide +kernel
theorem dX12_sight_48 : decode cX12_sight 48 = .ok (.invokevirtual 355, 3) := by decide +kernel
theorem dX12_sight_51 : decode cX12_sight 51 = .ok (.ireturn, 1) := by decide +kernel
abbrev rm_X12_sight : Room := { frames := 1, cells := 0, slots := 0, locals := 25 }
set_option maxRecDepth 100000 in
set_option maxHeartbeats 4000000 in
theorem ct_X12_sight {w : Wd} {l : Launch} {a1 : Int} {a2 : Int} {a3 : Int} {σ : St} {y : Int} {σ' : St} (ia1 : InI a1) (ia2 : InI a2) (ia3 : InI a3) (h : m_X12_sight a1 a2 a3 σ = some (y, σ')) : Ct w l yX12_sight (Cond.code yX12_sight cX12_sight 4 (some .int) :: TB) rm_X12_sight [rv w 170, iv a1, iv a2, iv a3] σ (some (iv y)) (InI y) σ' := by
  refine Ct.of2 [some (rv w 170), some (iv a1), some (iv a2), some (iv a3)] 0 rfl pn_RX12 (Nat.le_of_ble_eq_true rfl) ?_
  intro p e s m args below meth c C hr hlk
  unfold m_X12_sight at h
  refine g_aload_n C dX12_sight_0 rfl ?_
  refine g_iconst C dX12_sight_1 ?_
  obtain ⟨σ1, qσ1, h⟩ := bnd h
  refine g_putI (j := 0) C dX12_sight_2 rfl (Nat.le_of_ble_eq_true rfl) (Nat.le_of_ble_eq_true rfl) fl_12_1 rfl rfl rfl rfl qσ1 (by decide) ?_
  refine g_aload_n C dX12_sight_5 rfl ?_
  refine g_getI (j := 41) C dX12_sight_6 rfl (Nat.le_of_ble_eq_true rfl) (Nat.le_of_ble_eq_true rfl) fl_12_348 rfl rfl (fun i2 => ?_)
  refine g_sipush C dX12_sight_9 rfl ?_
  refine g_icmp_eq C dX12_sight_12 i2 (by decide) rfl (tgt := 38) (fun c3 => ?_) (fun c3 => ?_)
  · have h := ifT c3 h
    refine g_iconst C dX12_sight_38 ?_
    refine g_goto C dX12_sight_39 rfl (tgt := 51) ?_
    exact g_iretP C dX12_sight_51 hr hlk h (by decide)
  · have h := ifF c3 h
    refine g_aload_n C dX12_sight_15 rfl ?_
    refine g_iload_n C dX12_sight_16 rfl ?_
    obtain ⟨x4, qx4, h⟩ := bnd h
    refine g_callV1 (As := [iv a1]) C dX12_sight_17 mi_X12_isAgent ml_12_342 (ct_X12_isAgent ia1 qx4) rfl rfl ⟨rfl, rfl⟩ ⟨Nat.le_of_ble_eq_true rfl, Nat.le_of_ble_eq_true rfl⟩ ⟨Nat.zero_le _, Nat.zero_le _⟩ rfl (Nat.le_of_ble_eq_true rfl) (fun ix4 => ?_)
    refine g_if_eq C dX12_sight_20 (zI ix4) rfl (tgt := 38) (fun c5 => ?_) (fun c5 => ?_)
    · have h := ifT c5 h
      refine g_iconst C dX12_sight_38 ?_
      refine g_goto C dX12_sight_39 rfl (tgt := 51) ?_
      exact g_iretP C dX12_sight_51 hr hlk h (by decide)
    · have h := ifF c5 h
      refine g_aload_n C dX12_sight_23 rfl ?_
      refine g_iload_n C dX12_sight_24 rfl ?_
      obtain ⟨x6, qx6, h⟩ := bnd h
      refine g_callV1 (As := [iv a2]) C dX12_sight_25 mi_X12_isSpot ml_12_339 (ct_X12_isSpot ia2 qx6) rfl rfl ⟨rfl, rfl⟩ ⟨Nat.le_of_ble_eq_true rfl, Nat.le_of_ble_eq_true rfl⟩ ⟨Nat.zero_le _, Nat.zero_le _⟩ rfl (Nat.le_of_ble_eq_true rfl) (fun ix6 => ?_)
      refine g_if_eq C dX12_sight_28 (zI ix6) rfl (tgt := 38) (fun c7 => ?_) (fun c7 => ?_)
      · have h := ifT c7 h
        refine g_iconst C dX12_sight_38 ?_
        refine g_goto C dX12_sight_39 rfl (tgt := 51) ?_
        exact g_iretP C dX12_sight_51 hr hlk h (by decide)
      · have h := ifF c7 h
        refine g_iload_n C dX12_sight_31 rfl ?_
        obtain ⟨x8, qx8, h⟩ := bnd h
        refine g_callS1 (As := [iv a3]) C dX12_sight_32 mi_X12_isTick ml_12_359 (ct_X12_isTick ia3 qx8) rfl ⟨rfl, rfl⟩ ⟨Nat.le_of_ble_eq_true rfl, Nat.le_of_ble_eq_true rfl⟩ ⟨Nat.zero_le _, Nat.zero_le _⟩ rfl (Nat.le_of_ble_eq_true rfl) (fun ix8 => ?_)
        refine g_if_ne C dX12_sight_35 (zI ix8) rfl (tgt := 42) (fun c9 => ?_) (fun c9 => ?_)
        · have h := ifF c9 h
          refine g_aload_n C dX12_sight_42 rfl ?_
          refine g_iconst C dX12_sight_43 ?_
          refine g_iload_n C dX12_sight_44 rfl ?_
          refine g_iload_n C dX12_sight_45 rfl ?_
          refine g_iload_n C dX12_sight_46 rfl ?_
          refine g_iconst C dX12_sight_47 ?_
          obtain ⟨⟨x10, σ11⟩, qx10, h⟩ := bnd h
          refine g_callV1 (As := [iv 1, iv a1, iv a2, iv a3, iv 0]) C dX12_sight_48 mi_X12_fact ml_12_355 (ct_X12_fact (by decide) ia1 ia2 ia3 (by decide) qx10) rfl rfl ⟨rfl, rfl⟩ ⟨Nat.le_of_ble_eq_true rfl, Nat.le_of_ble_eq_true rfl⟩ ⟨Nat.zero_le _, Nat.zero_le _⟩ rfl (Nat.le_of_ble_eq_true rfl) (fun ix10 => ?_)
          exact g_iretP C dX12_sight_51 hr hlk h ix10
        · have h := ifT c9 h
          refine g_iconst C dX12_sight_38 ?_
          refine g_goto C dX12_sight_39 rfl (tgt := 51) ?_
          exact g_iretP C dX12_sight_51 hr hlk h (by decide)
theorem dX12_turned_0 : decode cX12_turned 0 = .ok (.aload_n 0, 1) := by decide +kernel
theorem dX12_turned_1 : decode cX12_turned 1 = .ok (.iconst 0, 1) := by decide +kernel
theorem dX12_turned_2 : decode cX12_turned 2 = .ok (.putfield 1, 3) := by decide +kernel
theorem dX12_turned_5 : decode cX12_turned 5 = .ok (.aload_n 0, 1) := by decide +kernel
theorem dX12_turned_6 : decode cX12_turned 6 = .ok (.getfield 348, 3) := by decide +kernel
theorem dX12_turned_9 : decode cX12_turned 9 = .ok (.sipush 150, 3) := by decide +kernel
theorem dX12_turned_12 : decode cX12_turned 12 = .ok (.if_icmp .eq 18, 3) := by decide +kernel
theorem dX12_turned_15 : decode cX12_turned 15 = .ok (.aload_n 0, 1) := by decide +kernel
theorem dX12_turned_16 : decode cX12_turned 16 = .ok (.iload_n 1, 1) := by decide +kernel
theorem dX12_turned_17 : decode cX12_turned 17 = .ok (.invokevirtual 342, 3) := by decide +kernel
theorem dX12_turned_20 : decode cX12_turned 20 = .ok (.ifCond .eq 10, 3) := by decide +kernel
theorem dX12_turned_23 : decode cX12_turned 23 = .ok (.iload_n 2, 1) := by decide +kernel
theorem dX12_turned_24 : decode cX12_turned 24 = .ok (.invokestatic 359, 3) := by decide +kernel
theorem dX12_turned_27 : decode cX12_turned 27 = .ok (.ifCond .ne 7, 3) := by decide +kernel
theorem dX12_turned_30 : decode cX12_turned 30 = .ok (.iconst (-1), 1) := by decide +kernel
theorem dX12_turned_31 : decode cX12_turned 31 = .ok (.goto 12, 3) := by decide +kernel
theorem dX12_turned_34 : decode cX12_turned 34 = .ok (.aload_n 0, 1) := by decide +kernel
theorem dX12_turned_35 : decode cX12_turned 35 = .ok (.iconst 2, 1) := by decide +kernel
theorem dX12_turned_36 : decode cX12_turned 36 = .ok (.iload_n 1, 1) := by decide +kernel
theorem dX12_turned_37 : decode cX12_turned 37 = .ok (.iconst 0, 1) := by decide +kernel
theorem dX12_turned_38 : decode cX12_turned 38 = .ok (.iload_n 2, 1) := by decide +kernel
theorem dX12_turned_39 : decode cX12_turned 39 = .ok (.iconst 0, 1) := by decide +kernel
theorem dX12_turned_40 : decode cX12_turned 40 = .ok (.invokevirtual 355, 3) := by decide +kernel
theorem dX12_turned_43 : decode cX12_turned 43 = .ok (.ireturn, 1) := by decide +kernel
abbrev rm_X12_turned : Room := { frames := 1, cells := 0, slots := 0, locals := 25 }
set_option maxRecDepth 100000 in
set_option maxHeartbeats 4000000 in
theorem ct_X12_turned {w : Wd} {l : Launch} {a1 : Int} {a2 : Int} {σ : St} {y : Int} {σ' : St} (ia1 : InI a1) (ia2 : InI a2) (h : m_X12_turned a1 a2 σ = some (y, σ')) : Ct w l yX12_turned (Cond.code yX12_turned cX12_turned 3 (some .int) :: TB) rm_X12_turned [rv w 170, iv a1, iv a2] σ (some (iv y)) (InI y) σ' := by
  refine Ct.of2 [some (rv w 170), some (iv a1), some (iv a2)] 0 rfl pn_RX12 (Nat.le_of_ble_eq_true rfl) ?_
  intro p e s m args below meth c C hr hlk
  unfold m_X12_turned at h
  refine g_aload_n C dX12_turned_0 rfl ?_
  refine g_iconst C dX12_turned_1 ?_
  obtain ⟨σ1, qσ1, h⟩ := bnd h
  refine g_putI (j := 0) C dX12_turned_2 rfl (Nat.le_of_ble_eq_true rfl) (Nat.le_of_ble_eq_true rfl) fl_12_1 rfl rfl rfl rfl qσ1 (by decide) ?_
  refine g_aload_n C dX12_turned_5 rfl ?_
  refine g_getI (j := 41) C dX12_turned_6 rfl (Nat.le_of_ble_eq_true rfl) (Nat.le_of_ble_eq_true rfl) fl_12_348 rfl rfl (fun i2 => ?_)
  refine g_sipush C dX12_turned_9 rfl ?_
  refine g_icmp_eq C dX12_turned_12 i2 (by decide) rfl (tgt := 30) (fun c3 => ?_) (fun c3 => ?_)
  · have h := ifT c3 h
    refine g_iconst C dX12_turned_30 ?_
    refine g_goto C dX12_turned_31 rfl (tgt := 43) ?_
    exact g_iretP C dX12_turned_43 hr hlk h (by decide)
  · have h := ifF c3 h
    refine g_aload_n C dX12_turned_15 rfl ?_
    refine g_iload_n C dX12_turned_16 rfl ?_
    obtain ⟨x4, qx4, h⟩ := bnd h
    refine g_callV1 (As := [iv a1]) C dX12_turned_17 mi_X12_isAgent ml_12_342 (ct_X12_isAgent ia1 qx4) rfl rfl ⟨rfl, rfl⟩ ⟨Nat.le_of_ble_eq_true rfl, Nat.le_of_ble_eq_true rfl⟩ ⟨Nat.zero_le _, Nat.zero_le _⟩ rfl (Nat.le_of_ble_eq_true rfl) (fun ix4 => ?_)
    refine g_if_eq C dX12_turned_20 (zI ix4) rfl (tgt := 30) (fun c5 => ?_) (fun c5 => ?_)
    · have h := ifT c5 h
      refine g_iconst C dX12_turned_30 ?_
      refine g_goto C dX12_turned_31 rfl (tgt := 43) ?_
      exact g_iretP C dX12_turned_43 hr hlk h (by decide)
    · have h := ifF c5 h
      refine g_iload_n C dX12_turned_23 rfl ?_
      obtain ⟨x6, qx6, h⟩ := bnd h
      refine g_callS1 (As := [iv a2]) C dX12_turned_24 mi_X12_isTick ml_12_359 (ct_X12_isTick ia2 qx6) rfl ⟨rfl, rfl⟩ ⟨Nat.le_of_ble_eq_true rfl, Nat.le_of_ble_eq_true rfl⟩ ⟨Nat.zero_le _, Nat.zero_le _⟩ rfl (Nat.le_of_ble_eq_true rfl) (fun ix6 => ?_)
      refine g_if_ne C dX12_turned_27 (zI ix6) rfl (tgt := 34) (fun c7 => ?_) (fun c7 => ?_)
      · have h := ifF c7 h
        refine g_aload_n C dX12_turned_34 rfl ?_
        refine g_iconst C dX12_turned_35 ?_
        refine g_iload_n C dX12_turned_36 rfl ?_
        refine g_iconst C dX12_turned_37 ?_
        refine g_iload_n C dX12_turned_38 rfl ?_
        refine g_iconst C dX12_turned_39 ?_
        obtain ⟨⟨x8, σ9⟩, qx8, h⟩ := bnd h
        refine g_callV1 (As := [iv 2, iv a1, iv 0, iv a2, iv 0]) C dX12_turned_40 mi_X12_fact ml_12_355 (ct_X12_fact (by decide) ia1 (by decide) ia2 (by decide) qx8) rfl rfl ⟨rfl, rfl⟩ ⟨Nat.le_of_ble_eq_true rfl, Nat.le_of_ble_eq_true rfl⟩ ⟨Nat.zero_le _, Nat.zero_le _⟩ rfl (Nat.le_of_ble_eq_true rfl) (fun ix8 => ?_)
        exact g_iretP C dX12_turned_43 hr hlk h ix8
      · have h := ifT c7 h
        refine g_iconst C dX12_turned_30 ?_
        refine g_goto C dX12_turned_31 rfl (tgt := 43) ?_
        exact g_iretP C dX12_turned_43 hr hlk h (by decide)
theorem dX12_strike_0 : decode cX12_strike 0 = .ok (.aload_n 0, 1) := by decide +kernel
theorem dX12_strike_1 : decode cX12_strike 1 = .ok (.iconst 0, 1) := by decide +kernel
theorem dX12_strike_2 : decode cX12_strike 2 = .ok (.putfield 1, 3) := by decide +kernel
theorem dX12_strike_5 : decode cX12_strike 5 = .ok (.aload_n 0, 1) := by decide +kernel
theorem dX12_strike_6 : decode cX12_strike 6 = .ok (.getfield 348, 3) := by decide +kernel
theorem dX12_strike_9 : decode cX12_strike 9 = .ok (.sipush 150, 3) := by decide +kernel
theorem dX12_strike_12 : decode cX12_strike 12 = .ok (.if_icmp .eq 25, 3) := by decide +kernel
theorem dX12_strike_15 : decode cX12_strike 15 = .ok (.iload_n 1, 1) := by decide +kernel
theorem dX12_strike_16 : decode cX12_strike 16 = .ok (.ifCond .lt 21, 3) := by decide +kernel
theorem dX12_strike_19 : decode cX12_strike 19 = .ok (.iload_n 1, 1) := by decide +kernel
theorem dX12_strike_20 : decode cX12_strike 20 = .ok (.aload_n 0, 1) := by decide +kernel
theorem dX12_strike_21 : decode cX12_strike 21 = .ok (.getfield 348, 3) := by decide +kernel
theorem dX12_strike_24 : decode cX12_strike 24 = .ok (.if_icmp .ge 13, 3) := by decide +kernel
theorem dX12_strike_27 : decode cX12_strike 27 = .ok (.aload_n 0, 1) := by decide +kernel
theorem dX12_strike_28 : decode cX12_strike 28 = .ok (.getfield 91, 3) := by decide +kernel
theorem dX12_strike_31 : decode cX12_strike 31 = .ok (.iload_n 1, 1) := by decide +kernel
theorem dX12_strike_32 : decode cX12_strike 32 = .ok (.iaload, 1) := by decide +kernel
theorem dX12_strike_33 : decode cX12_strike 33 = .ok (.iconst 3, 1) := by decide +kernel
theorem dX12_strike_34 : decode cX12_strike 34 = .ok (.if_icmp .ne 7, 3) := by decide +kernel
theorem dX12_strike_37 : decode cX12_strike 37 = .ok (.iconst (-1), 1) := by decide +kernel
theorem dX12_strike_38 : decode cX12_strike 38 = .ok (.goto 12, 3) := by decide +kernel
theorem dX12_strike_41 : decode cX12_strike 41 = .ok (.aload_n 0, 1) := by decide +kernel
theorem dX12_strike_42 : decode cX12_strike 42 = .ok (.iconst 3, 1) := by decide +kernel
theorem dX12_strike_43 : decode cX12_strike 43 = .ok (.iload_n 1, 1) := by decide +kernel
theorem dX12_strike_44 : decode cX12_strike 44 = .ok (.iconst 0, 1) := by decide +kernel
theorem dX12_strike_45 : decode cX12_strike 45 = .ok (.iconst 0, 1) := by decide +kernel
theorem dX12_strike_46 : decode cX12_strike 46 = .ok (.iconst 0, 1) := by decide +kernel
theorem dX12_strike_47 : decode cX12_strike 47 = .ok (.invokevirtual 355, 3) := by decide +kernel
theorem dX12_strike_50 : decode cX12_strike 50 = .ok (.ireturn, 1) := by decide +kernel
abbrev rm_X12_strike : Room := { frames := 1, cells := 0, slots := 0, locals := 25 }
set_option maxRecDepth 100000 in
set_option maxHeartbeats 4000000 in
theorem ct_X12_strike {w : Wd} {l : Launch} {a1 : Int} {σ : St} {y : Int} {σ' : St} (ia1 : InI a1) (h : m_X12_strike a1 σ = some (y, σ')) : Ct w l yX12_strike (Cond.code yX12_strike cX12_strike 2 (some .int) :: TB) rm_X12_strike [rv w 170, iv a1] σ (some (iv y)) (InI y) σ' := by
  refine Ct.of2 [some (rv w 170), some (iv a1)] 0 rfl pn_RX12 (Nat.le_of_ble_eq_true rfl) ?_
  intro p e s m args below meth c C hr hlk
  unfold m_X12_strike at h
  refine g_aload_n C dX12_strike_0 rfl ?_
  refine g_iconst C dX12_strike_1 ?_
  obtain ⟨σ1, qσ1, h⟩ := bnd h
  refine g_putI (j := 0) C dX12_strike_2 rfl (Nat.le_of_ble_eq_true rfl) (Nat.le_of_ble_eq_true rfl) fl_12_1 rfl rfl rfl rfl qσ1 (by decide) ?_
  refine g_aload_n C dX12_strike_5 rfl ?_
  refine g_getI (j := 41) C dX12_strike_6 rfl (Nat.le_of_ble_eq_true rfl) (Nat.le_of_ble_eq_true rfl) fl_12_348 rfl rfl (fun i2 => ?_)
  refine g_sipush C dX12_strike_9 rfl ?_
  refine g_icmp_eq C dX12_strike_12 i2 (by decide) rfl (tgt := 37) (fun c3 => ?_) (fun c3 => ?_)
  · have h := ifT c3 h
    refine g_iconst C dX12_strike_37 ?_
    refine g_goto C dX12_strike_38 rfl (tgt := 50) ?_
    exact g_iretP C dX12_strike_50 hr hlk h (by decide)
  · have h := ifF c3 h
    refine g_iload_n C dX12_strike_15 rfl ?_
    refine g_if_lt C dX12_strike_16 ia1 rfl (tgt := 37) (fun c4 => ?_) (fun c4 => ?_)
    · have h := ifT c4 h
      refine g_iconst C dX12_strike_37 ?_
      refine g_goto C dX12_strike_38 rfl (tgt := 50) ?_
      exact g_iretP C dX12_strike_50 hr hlk h (by decide)
    · have h := ifF c4 h
      refine g_iload_n C dX12_strike_19 rfl ?_
      refine g_aload_n C dX12_strike_20 rfl ?_
      refine g_getI (j := 41) C dX12_strike_21 rfl (Nat.le_of_ble_eq_true rfl) (Nat.le_of_ble_eq_true rfl) fl_12_348 rfl rfl (fun i5 => ?_)
      refine g_icmp_ge C dX12_strike_24 ia1 i5 rfl (tgt := 37) (fun c6 => ?_) (fun c6 => ?_)
      · have h := ifT c6 h
        refine g_iconst C dX12_strike_37 ?_
        refine g_goto C dX12_strike_38 rfl (tgt := 50) ?_
        exact g_iretP C dX12_strike_50 hr hlk h (by decide)
      · have h := ifF c6 h
        refine g_aload_n C dX12_strike_27 rfl ?_
        refine g_getR (j := 42) C dX12_strike_28 rfl (Nat.le_of_ble_eq_true rfl) (Nat.le_of_ble_eq_true rfl) fl_12_91 rfl rfl (r := 195) rfl ?_
        refine g_iload_n C dX12_strike_31 rfl ?_
        obtain ⟨x7, qx7, h⟩ := bnd h
        refine g_iald C dX12_strike_32 rfl rfl qx7 ia1 (fun ix7 => ?_)
        refine g_iconst C dX12_strike_33 ?_
        refine g_icmp_ne C dX12_strike_34 ix7 (by decide) rfl (tgt := 41) (fun c8 => ?_) (fun c8 => ?_)
        · have h := ifF c8 h
          refine g_aload_n C dX12_strike_41 rfl ?_
          refine g_iconst C dX12_strike_42 ?_
          refine g_iload_n C dX12_strike_43 rfl ?_
          refine g_iconst C dX12_strike_44 ?_
          refine g_iconst C dX12_strike_45 ?_
          refine g_iconst C dX12_strike_46 ?_
          obtain ⟨⟨x9, σ10⟩, qx9, h⟩ := bnd h
          refine g_callV1 (As := [iv 3, iv a1, iv 0, iv 0, iv 0]) C dX12_strike_47 mi_X12_fact ml_12_355 (ct_X12_fact (by decide) ia1 (by decide) (by decide) (by decide) qx9) rfl rfl ⟨rfl, rfl⟩ ⟨Nat.le_of_ble_eq_true rfl, Nat.le_of_ble_eq_true rfl⟩ ⟨Nat.zero_le _, Nat.zero_le _⟩ rfl (Nat.le_of_ble_eq_true rfl) (fun ix9 => ?_)
          exact g_iretP C dX12_strike_50 hr hlk h ix9
        · have h := ifT c8 h
          refine g_iconst C dX12_strike_37 ?_
          refine g_goto C dX12_strike_38 rfl (tgt := 50) ?_
          exact g_iretP C dX12_strike_50 hr hlk h (by decide)
theorem dX12_struck_0 : decode cX12_struck 0 = .ok (.aload_n 0, 1) := by decide +kernel
theorem dX12_struck_1 : decode cX12_struck 1 = .ok (.iconst 0, 1) := by decide +kernel
theorem dX12_struck_2 : decode cX12_struck 2 = .ok (.putfield 1, 3) := by decide +kernel
theorem dX12_struck_5 : decode cX12_struck 5 = .ok (.aload_n 0, 1) := by decide +kernel
theorem dX12_struck_6 : decode cX12_struck 6 = .ok (.iload_n 2, 1) := by decide +kernel
theorem dX12_struck_7 : decode cX12_struck 7 = .ok (.invokevirtual 362, 3) := by decide +kernel
theorem dX12_struck_10 : decode cX12_struck 10 = .ok (.ifCond .eq 12, 3) := by decide +kernel
theorem dX12_struck_13 : decode cX12_struck 13 = .ok (.iload_n 1, 1) := by decide +kernel
theorem dX12_struck_14 : decode cX12_struck 14 = .ok (.ifCond .lt 8, 3) := by decide +kernel
theorem dX12_struck_17 : decode cX12_struck 17 = .ok (.iload_n 1, 1) := by decide +kernel
theorem dX12_struck_18 : decode cX12_struck 18 = .ok (.iload_n 2, 1) := by decide +kernel
theorem dX12_struck_19 : decode cX12_struck 19 = .ok (.if_icmp .lt 7, 3) := by decide +kernel
theorem dX12_struck_22 : decode cX12_struck 22 = .ok (.iconst (-1), 1) := by decide +kernel
theorem dX12_struck_23 : decode cX12_struck 23 = .ok (.goto 17, 3) := by decide +kernel
theorem dX12_struck_26 : decode cX12_struck 26 = .ok (.aload_n 0, 1) := by decide +kernel
theorem dX12_struck_27 : decode cX12_struck 27 = .ok (.iload_n 1, 1) := by decide +kernel
theorem dX12_struck_28 : decode cX12_struck 28 = .ok (.iload_n 2, 1) := by decide +kernel
theorem dX12_struck_29 : decode cX12_struck 29 = .ok (.invokevirtual 351, 3) := by decide +kernel
theorem dX12_struck_32 : decode cX12_struck 32 = .ok (.ifCond .eq 7, 3) := by decide +kernel
theorem dX12_struck_35 : decode cX12_struck 35 = .ok (.iconst 1, 1) := by decide +kernel
theorem dX12_struck_36 : decode cX12_struck 36 = .ok (.goto 4, 3) := by decide +kernel
theorem dX12_struck_39 : decode cX12_struck 39 = .ok (.iconst 0, 1) := by decide +kernel
theorem dX12_struck_40 : decode cX12_struck 40 = .ok (.ireturn, 1) := by decide +kernel
abbrev rm_X12_struck : Room := { frames := 1, cells := 0, slots := 0, locals := 23 }
set_option maxRecDepth 100000 in
set_option maxHeartbeats 4000000 in
theorem ct_X12_struck {w : Wd} {l : Launch} {a1 : Int} {a2 : Int} {σ : St} {y : Int} {σ' : St} (ia1 : InI a1) (ia2 : InI a2) (h : m_X12_struck a1 a2 σ = some (y, σ')) : Ct w l yX12_struck (Cond.code yX12_struck cX12_struck 3 (some .int) :: TB) rm_X12_struck [rv w 170, iv a1, iv a2] σ (some (iv y)) (InI y) σ' := by
  refine Ct.of2 [some (rv w 170), some (iv a1), some (iv a2)] 0 rfl pn_RX12 (Nat.le_of_ble_eq_true rfl) ?_
  intro p e s m args below meth c C hr hlk
  unfold m_X12_struck at h
  refine g_aload_n C dX12_struck_0 rfl ?_
  refine g_iconst C dX12_struck_1 ?_
  obtain ⟨σ1, qσ1, h⟩ := bnd h
  refine g_putI (j := 0) C dX12_struck_2 rfl (Nat.le_of_ble_eq_true rfl) (Nat.le_of_ble_eq_true rfl) fl_12_1 rfl rfl rfl rfl qσ1 (by decide) ?_
  refine g_aload_n C dX12_struck_5 rfl ?_
  refine g_iload_n C dX12_struck_6 rfl ?_
  obtain ⟨x2, qx2, h⟩ := bnd h
  refine g_callV1 (As := [iv a2]) C dX12_struck_7 mi_X12_isKnown ml_12_362 (ct_X12_isKnown ia2 qx2) rfl rfl ⟨rfl, rfl⟩ ⟨Nat.le_of_ble_eq_true rfl, Nat.le_of_ble_eq_true rfl⟩ ⟨Nat.zero_le _, Nat.zero_le _⟩ rfl (Nat.le_of_ble_eq_true rfl) (fun ix2 => ?_)
  refine g_if_eq C dX12_struck_10 (zI ix2) rfl (tgt := 22) (fun c3 => ?_) (fun c3 => ?_)
  · have h := ifT c3 h
    refine g_iconst C dX12_struck_22 ?_
    refine g_goto C dX12_struck_23 rfl (tgt := 40) ?_
    exact g_iretP C dX12_struck_40 hr hlk h (by decide)
  · have h := ifF c3 h
    refine g_iload_n C dX12_struck_13 rfl ?_
    refine g_if_lt C dX12_struck_14 ia1 rfl (tgt := 22) (fun c4 => ?_) (fun c4 => ?_)
    · have h := ifT c4 h
      refine g_iconst C dX12_struck_22 ?_
      refine g_goto C dX12_struck_23 rfl (tgt := 40) ?_
      exact g_iretP C dX12_struck_40 hr hlk h (by decide)
    · have h := ifF c4 h
      refine g_iload_n C dX12_struck_17 rfl ?_
      refine g_iload_n C dX12_struck_18 rfl ?_
      refine g_icmp_lt C dX12_struck_19 ia1 ia2 rfl (tgt := 26) (fun c5 => ?_) (fun c5 => ?_)
      · have h := ifT c5 h
        refine g_aload_n C dX12_struck_26 rfl ?_
        refine g_iload_n C dX12_struck_27 rfl ?_
        refine g_iload_n C dX12_struck_28 rfl ?_
        obtain ⟨x6, qx6, h⟩ := bnd h
        refine g_callV1 (As := [iv a1, iv a2]) C dX12_struck_29 mi_X12_isStruck ml_12_351 (ct_X12_isStruck ia1 ia2 qx6) rfl rfl ⟨rfl, rfl⟩ ⟨Nat.le_of_ble_eq_true rfl, Nat.le_of_ble_eq_true rfl⟩ ⟨Nat.zero_le _, Nat.zero_le _⟩ rfl (Nat.le_of_ble_eq_true rfl) (fun ix6 => ?_)
        refine g_if_eq C dX12_struck_32 (zI ix6) rfl (tgt := 39) (fun c7 => ?_) (fun c7 => ?_)
        · have h := ifT c7 h
          refine g_iconst C dX12_struck_39 ?_
          exact g_iretP C dX12_struck_40 hr hlk h (by decide)
        · have h := ifF c7 h
          refine g_iconst C dX12_struck_35 ?_
          refine g_goto C dX12_struck_36 rfl (tgt := 40) ?_
          exact g_iretP C dX12_struck_40 hr hlk h (by decide)
      · have h := ifF c5 h
        refine g_iconst C dX12_struck_22 ?_
        refine g_goto C dX12_struck_23 rfl (tgt := 40) ?_
        exact g_iretP C dX12_struck_40 hr hlk h (by decide)
theorem dX12_posts_0 : decode cX12_posts 0 = .ok (.iconst 0, 1) := by decide +kernel
theorem dX12_posts_1 : decode cX12_posts 1 = .ok (.istore_n 2, 1) := by decide +kernel
theorem dX12_posts_2 : decode cX12_posts 2 = .ok (.iload_n 2, 1) := by decide +kernel
theorem dX12_posts_3 : decode cX12_posts 3 = .ok (.sipush 960, 3) := by decide +kernel
theorem dX12_posts_6 : decode cX12_posts 6 = .ok (.if_icmp .ge 16, 3) := by decide +kernel
theorem dX12_posts_9 : decode cX12_posts 9 = .ok (.aload_n 0, 1) := by decide +kernel
theorem dX12_posts_10 : decode cX12_posts 10 = .ok (.getfield 106, 3) := by decide +kernel
theorem dX12_posts_13 : decode cX12_posts 13 = .ok (.iload_n 2, 1) := by decide +kernel
theorem dX12_posts_14 : decode cX12_posts 14 = .ok (.iconst 0, 1) := by decide +kernel
theorem dX12_posts_15 : decode cX12_posts 15 = .ok (.bastore, 1) := by decide +kernel
theorem dX12_posts_16 : decode cX12_posts 16 = .ok (.iinc 2 1, 3) := by decide +kernel
theorem dX12_posts_19 : decode cX12_posts 19 = .ok (.goto (-17), 3) := by decide +kernel
theorem dX12_posts_22 : decode cX12_posts 22 = .ok (.iconst 0, 1) := by decide +kernel
theorem dX12_posts_23 : decode cX12_posts 23 = .ok (.istore_n 2, 1) := by decide +kernel
theorem dX12_posts_24 : decode cX12_posts 24 = .ok (.iload_n 2, 1) := by decide +kernel
theorem dX12_posts_25 : decode cX12_posts 25 = .ok (.iload_n 1, 1) := by decide +kernel
theorem dX12_posts_26 : decode cX12_posts 26 = .ok (.if_icmp .ge 67, 3) := by decide +kernel
theorem dX12_posts_29 : decode cX12_posts 29 = .ok (.aload_n 0, 1) := by decide +kernel
theorem dX12_posts_30 : decode cX12_posts 30 = .ok (.getfield 91, 3) := by decide +kernel
theorem dX12_posts_33 : decode cX12_posts 33 = .ok (.iload_n 2, 1) := by decide +kernel
theorem dX12_posts_34 : decode cX12_posts 34 = .ok (.iaload, 1) := by decide +kernel
theorem dX12_posts_35 : decode cX12_posts 35 = .ok (.ifCond .ne 52, 3) := by decide +kernel
theorem dX12_posts_38 : decode cX12_posts 38 = .ok (.aload_n 0, 1) := by decide +kernel
theorem dX12_posts_39 : decode cX12_posts 39 = .ok (.iload_n 2, 1) := by decide +kernel
theorem dX12_posts_40 : decode cX12_posts 40 = .ok (.iload_n 1, 1) := by decide +kernel
theorem dX12_posts_41 : decode cX12_posts 41 = .ok (.invokevirtual 351, 3) := by decide +kernel
theorem dX12_posts_44 : decode cX12_posts 44 = .ok (.ifCond .ne 43, 3) := by decide +kernel
theorem dX12_posts_47 : decode cX12_posts 47 = .ok (.aload_n 0, 1) := by decide +kernel
theorem dX12_posts_48 : decode cX12_posts 48 = .ok (.getfield 100, 3) := by decide +kernel
theorem dX12_posts_51 : decode cX12_posts 51 = .ok (.iload_n 2, 1) := by decide +kernel
theorem dX12_posts_52 : decode cX12_posts 52 = .ok (.iaload, 1) := by decide +kernel
theorem dX12_posts_53 : decode cX12_posts 53 = .ok (.istore_n 3, 1) := by decide +kernel
theorem dX12_posts_54 : decode cX12_posts 54 = .ok (.iload_n 3, 1) := by decide +kernel
theorem dX12_posts_55 : decode cX12_posts 55 = .ok (.aload_n 0, 1) := by decide +kernel
theorem dX12_posts_56 : decode cX12_posts 56 = .ok (.getfield 103, 3) := by decide +kernel
theorem dX12_posts_59 : decode cX12_posts 59 = .ok (.iload_n 2, 1) := by decide +kernel
theorem dX12_posts_60 : decode cX12_posts 60 = .ok (.iaload, 1) := by decide +kernel
theorem dX12_posts_61 : decode cX12_posts 61 = .ok (.if_icmp .ge 26, 3) := by decide +kernel
theorem dX12_posts_64 : decode cX12_posts 64 = .ok (.aload_n 0, 1) := by decide +kernel
theorem dX12_posts_65 : decode cX12_posts 65 = .ok (.getfield 106, 3) := by decide +kernel
theorem dX12_posts_68 : decode cX12_posts 68 = .ok (.bipush 96, 2) := by decide +kernel
theorem dX12_posts_70 : decode cX12_posts 70 = .ok (.aload_n 0, 1) := by decide +kernel
theorem dX12_posts_71 : decode cX12_posts 71 = .ok (.getfield 97, 3) := by decide +kernel
theorem dX12_posts_74 : decode cX12_posts 74 = .ok (.iload_n 2, 1) := by decide +kernel
theorem dX12_posts_75 : decode cX12_posts 75 = .ok (.iaload, 1) := by decide +kernel
theorem dX12_posts_76 : decode cX12_posts 76 = .ok (.imul, 1) := by decide +kernel
theorem dX12_posts_77 : decode cX12_posts 77 = .ok (.iload_n 3, 1) := by decide +kernel
theorem dX12_posts_78 : decode cX12_posts 78 = .ok (.iadd, 1) := by decide +kernel
theorem dX12_posts_79 : decode cX12_posts 79 = .ok (.iconst 1, 1) := by decide +kernel
theorem dX12_posts_80 : decode cX12_posts 80 = .ok (.bastore, 1) := by decide +kernel
theorem dX12_posts_81 : decode cX12_posts 81 = .ok (.iinc 3 1, 3) := by decide +kernel
theorem dX12_posts_84 : decode cX12_posts 84 = .ok (.goto (-30), 3) := by decide +kernel
theorem dX12_posts_87 : decode cX12_posts 87 = .ok (.iinc 2 1, 3) := by decide +kernel
theorem dX12_posts_90 : decode cX12_posts 90 = .ok (.goto (-66), 3) := by decide +kernel
theorem dX12_posts_93 : decode cX12_posts 93 = .ok (.return_, 1) := by decide +kernel
abbrev rm_X12_posts : Room := { frames := 1, cells := 0, slots := 0, locals := 23 }
set_option maxRecDepth 100000 in
set_option maxHeartbeats 4000000 in
theorem ct_X12_posts {w : Wd} {l : Launch} {a1 : Int} {σ : St} {σ' : St} (ia1 : InI a1) (h : m_X12_posts a1 σ = some σ') : Ct w l yX12_posts (Cond.code yX12_posts cX12_posts 4 none :: TB) rm_X12_posts [rv w 170, iv a1] σ none True σ' := by
  refine Ct.of2 [some (rv w 170), some (iv a1), none, none] 2 rfl pn_RX12 (Nat.le_of_ble_eq_true rfl) ?_
  intro p e s m args below meth c C hr hlk
  unfold m_X12_posts at h
  refine g_iconst C dX12_posts_0 ?_
  refine g_istore_n (L1 := [some (rv w 170), some (iv a1), some (iv 0), none]) C dX12_posts_1 rfl (Nat.le_of_ble_eq_true rfl) rfl ?_
  obtain ⟨b1, hb1, hF1⟩ := bnd h
  have hX1 : ∀ (σ6 : St) , σ6 = b1 → GM w p l e rm_X12_posts s m args below meth c none True σ' 4 22 [some (rv w 170), some (iv a1), none, none] [] σ6 := by
    intro σ6 q
    subst q
    have h := hF1
    refine g_iconst C dX12_posts_22 ?_
    refine g_istore_n (L1 := [some (rv w 170), some (iv a1), some (iv 0), none]) C dX12_posts_23 rfl (Nat.le_of_ble_eq_true rfl) rfl ?_
    obtain ⟨b7, hb7, hF7⟩ := bnd h
    have hX7 : ∀ (σ24 : St) , σ24 = b7 → GM w p l e rm_X12_posts s m args below meth c none True σ' 4 93 [none, none, none, none] [] σ24 := by
      intro σ24 q
      subst q
      have h := hF7
      exact g_vretP C dX12_posts_93 hr hlk h
    have hL7 : ∀ (n : Nat) (x8 : Int) (σ9 : St) , InI x8 → lpN (fun a => m_X12_posts_L24 a1 a.1 a.2) n (x8, σ9) = some b7 → GM w p l e rm_X12_posts s m args below meth c none True σ' 4 24 [some (rv w 170), some (iv a1), some (iv x8), none] [] σ9 := by
      intro n
      induction n with
      | zero => intro x8 σ9 ix8 q; cases q
      | succ n ih7 =>
        intro x8 σ9 ix8 q
        obtain ⟨o7, h, hk7⟩ := lp_step q
        replace h : m_X12_posts_L24 a1 x8 σ9 = some o7 := h
        unfold m_X12_posts_L24 at h
        refine g_iload_n C dX12_posts_24 rfl ?_
        refine g_iload_n C dX12_posts_25 rfl ?_
        refine g_icmp_ge C dX12_posts_26 ix8 ia1 rfl (tgt := 93) (fun c10 => ?_) (fun c10 => ?_)
        · have h := ifT c10 h
          refine g_mask [false, false, false, true] ?_
          obtain rfl := Option.some.inj h
          exact hX7 σ9 (lpR hk7).symm
        · have h := ifF c10 h
          refine g_aload_n C dX12_posts_29 rfl ?_
          refine g_getR (j := 42) C dX12_posts_30 rfl (Nat.le_of_ble_eq_true rfl) (Nat.le_of_ble_eq_true rfl) fl_12_91 rfl rfl (r := 195) rfl ?_
          refine g_iload_n C dX12_posts_33 rfl ?_
          obtain ⟨x11, qx11, h⟩ := bnd h
          refine g_iald C dX12_posts_34 rfl rfl qx11 ix8 (fun ix11 => ?_)
          refine g_if_ne C dX12_posts_35 ix11 rfl (tgt := 87) (fun c12 => ?_) (fun c12 => ?_)
          · have h := ifF c12 h
            refine g_iinc (L1 := [some (rv w 170), some (iv a1), some (iv (wr (x8 + 1))), none]) C dX12_posts_87 rfl rfl (Nat.le_of_ble_eq_true rfl) rfl ?_
            refine g_goto C dX12_posts_90 rfl (tgt := 24) ?_
            obtain rfl := Option.some.inj h
            exact ih7 _ _ (iwr _) (lpL hk7)
          · have h := ifT c12 h
            refine g_aload_n C dX12_posts_38 rfl ?_
            refine g_iload_n C dX12_posts_39 rfl ?_
            refine g_iload_n C dX12_posts_40 rfl ?_
            obtain ⟨x13, qx13, h⟩ := bnd h
            refine g_callV1 (As := [iv x8, iv a1]) C dX12_posts_41 mi_X12_isStruck ml_12_351 (ct_X12_isStruck ix8 ia1 qx13) rfl rfl ⟨rfl, rfl⟩ ⟨Nat.le_of_ble_eq_true rfl, Nat.le_of_ble_eq_true rfl⟩ ⟨Nat.zero_le _, Nat.zero_le _⟩ rfl (Nat.le_of_ble_eq_true rfl) (fun ix13 => ?_)
            refine g_if_ne C dX12_posts_44 (zI ix13) rfl (tgt := 87) (fun c14 => ?_) (fun c14 => ?_)
            · have h := ifF c14 h
              refine g_iinc (L1 := [some (rv w 170), some (iv a1), some (iv (wr (x8 + 1))), none]) C dX12_posts_87 rfl rfl (Nat.le_of_ble_eq_true rfl) rfl ?_
              refine g_goto C dX12_posts_90 rfl (tgt := 24) ?_
              obtain rfl := Option.some.inj h
              exact ih7 _ _ (iwr _) (lpL hk7)
            · have h := ifT c14 h
              refine g_aload_n C dX12_posts_47 rfl ?_
              refine g_getR (j := 45) C dX12_posts_48 rfl (Nat.le_of_ble_eq_true rfl) (Nat.le_of_ble_eq_true rfl) fl_12_100 rfl rfl (r := 198) rfl ?_
              refine g_iload_n C dX12_posts_51 rfl ?_
              obtain ⟨x15, qx15, h⟩ := bnd h
              refine g_iald C dX12_posts_52 rfl rfl qx15 ix8 (fun ix15 => ?_)
              refine g_istore_n (L1 := [some (rv w 170), some (iv a1), some (iv x8), some (iv x15)]) C dX12_posts_53 rfl (Nat.le_of_ble_eq_true rfl) rfl ?_
              obtain ⟨b16, hb16, hF16⟩ := bnd h
              have hX16 : ∀ (σ23 : St) , σ23 = b16 → GM w p l e rm_X12_posts s m args below meth c none True σ' 4 87 [some (rv w 170), some (iv a1), some (iv x8), none] [] σ23 := by
                intro σ23 q
                subst q
                have h := hF16
                refine g_iinc (L1 := [some (rv w 170), some (iv a1), some (iv (wr (x8 + 1))), none]) C dX12_posts_87 rfl rfl (Nat.le_of_ble_eq_true rfl) rfl ?_
                refine g_goto C dX12_posts_90 rfl (tgt := 24) ?_
                obtain rfl := Option.some.inj h
                exact ih7 _ _ (iwr _) (lpL hk7)
              have hL16 : ∀ (n : Nat) (x17 : Int) (σ18 : St) , InI x17 → lpN (fun a => m_X12_posts_L54 x8 a.1 a.2) n (x17, σ18) = some b16 → GM w p l e rm_X12_posts s m args below meth c none True σ' 4 54 [some (rv w 170), some (iv a1), some (iv x8), some (iv x17)] [] σ18 := by
                intro n
                induction n with
                | zero => intro x17 σ18 ix17 q; cases q
                | succ n ih16 =>
                  intro x17 σ18 ix17 q
                  obtain ⟨o16, h, hk16⟩ := lp_step q
                  replace h : m_X12_posts_L54 x8 x17 σ18 = some o16 := h
                  unfold m_X12_posts_L54 at h
                  refine g_iload_n C dX12_posts_54 rfl ?_
                  refine g_aload_n C dX12_posts_55 rfl ?_
                  refine g_getR (j := 46) C dX12_posts_56 rfl (Nat.le_of_ble_eq_true rfl) (Nat.le_of_ble_eq_true rfl) fl_12_103 rfl rfl (r := 199) rfl ?_
                  refine g_iload_n C dX12_posts_59 rfl ?_
                  obtain ⟨x19, qx19, h⟩ := bnd h
                  refine g_iald C dX12_posts_60 rfl rfl qx19 ix8 (fun ix19 => ?_)
                  refine g_icmp_ge C dX12_posts_61 ix17 ix19 rfl (tgt := 87) (fun c20 => ?_) (fun c20 => ?_)
                  · have h := ifT c20 h
                    refine g_mask [true, true, true, false] ?_
                    obtain rfl := Option.some.inj h
                    exact hX16 σ18 (lpR hk16).symm
                  · have h := ifF c20 h
                    refine g_aload_n C dX12_posts_64 rfl ?_
                    refine g_getR (j := 47) C dX12_posts_65 rfl (Nat.le_of_ble_eq_true rfl) (Nat.le_of_ble_eq_true rfl) fl_12_106 rfl rfl (r := 200) rfl ?_
                    refine g_bipush C dX12_posts_68 rfl ?_
                    refine g_aload_n C dX12_posts_70 rfl ?_
                    refine g_getR (j := 44) C dX12_posts_71 rfl (Nat.le_of_ble_eq_true rfl) (Nat.le_of_ble_eq_true rfl) fl_12_97 rfl rfl (r := 197) rfl ?_
                    refine g_iload_n C dX12_posts_74 rfl ?_
                    obtain ⟨x21, qx21, h⟩ := bnd h
                    refine g_iald C dX12_posts_75 rfl rfl qx21 ix8 (fun ix21 => ?_)
                    refine g_imul C dX12_posts_76 ?_
                    refine g_iload_n C dX12_posts_77 rfl ?_
                    refine g_iadd C dX12_posts_78 ?_
                    refine g_iconst C dX12_posts_79 ?_
                    obtain ⟨σ22, qσ22, h⟩ := bnd h
                    refine g_zast C dX12_posts_80 rfl rfl qσ22 (iwr _) (Or.inr rfl) ?_
                    refine g_iinc (L1 := [some (rv w 170), some (iv a1), some (iv x8), some (iv (wr (x17 + 1)))]) C dX12_posts_81 rfl rfl (Nat.le_of_ble_eq_true rfl) rfl ?_
                    refine g_goto C dX12_posts_84 rfl (tgt := 54) ?_
                    obtain rfl := Option.some.inj h
                    exact ih16 _ _ (iwr _) (lpL hk16)
              exact hL16 FU _ _ ix15 hb16
    exact hL7 FU _ _ (by decide) hb7
  have hL1 : ∀ (n : Nat) (x2 : Int) (σ3 : St) , InI x2 → lpN (fun a => m_X12_posts_L2 a.1 a.2) n (x2, σ3) = some b1 → GM w p l e rm_X12_posts s m args below meth c none True σ' 4 2 [some (rv w 170), some (iv a1), some (iv x2), none] [] σ3 := by
    intro n
    induction n with
    | zero => intro x2 σ3 ix2 q; cases q
    | succ n ih1 =>
      intro x2 σ3 ix2 q
      obtain ⟨o1, h, hk1⟩ := lp_step q
      replace h : m_X12_posts_L2 x2 σ3 = some o1 := h
      unfold m_X12_posts_L2 at h
      refine g_iload_n C dX12_posts_2 rfl ?_
      refine g_sipush C dX12_posts_3 rfl ?_
      refine g_icmp_ge C dX12_posts_6 ix2 (by decide) rfl (tgt := 22) (fun c4 => ?_) (fun c4 => ?_)
      · have h := ifT c4 h
        refine g_mask [true, true, false, true] ?_
        obtain rfl := Option.some.inj h
        exact hX1 σ3 (lpR hk1).symm
      · have h := ifF c4 h
        refine g_aload_n C dX12_posts_9 rfl ?_
        refine g_getR (j := 47) C dX12_posts_10 rfl (Nat.le_of_ble_eq_true rfl) (Nat.le_of_ble_eq_true rfl) fl_12_106 rfl rfl (r := 200) rfl ?_
        refine g_iload_n C dX12_posts_13 rfl ?_
        refine g_iconst C dX12_posts_14 ?_
        obtain ⟨σ5, qσ5, h⟩ := bnd h
        refine g_zast C dX12_posts_15 rfl rfl qσ5 ix2 (Or.inl rfl) ?_
        refine g_iinc (L1 := [some (rv w 170), some (iv a1), some (iv (wr (x2 + 1))), none]) C dX12_posts_16 rfl rfl (Nat.le_of_ble_eq_true rfl) rfl ?_
        refine g_goto C dX12_posts_19 rfl (tgt := 2) ?_
        obtain rfl := Option.some.inj h
        exact ih1 _ _ (iwr _) (lpL hk1)
  exact hL1 FU _ _ (by decide) hb1
theorem dX12_pushes_0 : decode cX12_pushes 0 = .ok (.aload_n 0, 1) := by decide +kernel
theorem dX12_pushes_1 : decode cX12_pushes 1 = .ok (.getfield 167, 3) := by decide +kernel
theorem dX12_pushes_4 : decode cX12_pushes 4 = .ok (.bipush 64, 2) := by decide +kernel
theorem dX12_pushes_6 : decode cX12_pushes 6 = .ok (.iload_n 1, 1) := by decide +kernel
theorem dX12_pushes_7 : decode cX12_pushes 7 = .ok (.imul, 1) := by decide +kernel
theorem dX12_pushes_8 : decode cX12_pushes 8 = .ok (.aload_n 0, 1) := by decide +kernel
theorem dX12_pushes_9 : decode cX12_pushes 9 = .ok (.getfield 164, 3) := by decide +kernel
theorem dX12_pushes_12 : decode cX12_pushes 12 = .ok (.iload_n 1, 1) := by decide +kernel
theorem dX12_pushes_13 : decode cX12_pushes 13 = .ok (.iaload, 1) := by decide +kernel
theorem dX12_pushes_14 : decode cX12_pushes 14 = .ok (.iadd, 1) := by decide +kernel
theorem dX12_pushes_15 : decode cX12_pushes 15 = .ok (.iload_n 2, 1) := by decide +kernel
theorem dX12_pushes_16 : decode cX12_pushes 16 = .ok (.iastore, 1) := by decide +kernel
theorem dX12_pushes_17 : decode cX12_pushes 17 = .ok (.aload_n 0, 1) := by decide +kernel
theorem dX12_pushes_18 : decode cX12_pushes 18 = .ok (.getfield 170, 3) := by decide +kernel
theorem dX12_pushes_21 : decode cX12_pushes 21 = .ok (.bipush 64, 2) := by decide +kernel
theorem dX12_pushes_23 : decode cX12_pushes 23 = .ok (.iload_n 1, 1) := by decide +kernel
theorem dX12_pushes_24 : decode cX12_pushes 24 = .ok (.imul, 1) := by decide +kernel
theorem dX12_pushes_25 : decode cX12_pushes 25 = .ok (.aload_n 0, 1) := by decide +kernel
theorem dX12_pushes_26 : decode cX12_pushes 26 = .ok (.getfield 164, 3) := by decide +kernel
theorem dX12_pushes_29 : decode cX12_pushes 29 = .ok (.iload_n 1, 1) := by decide +kernel
theorem dX12_pushes_30 : decode cX12_pushes 30 = .ok (.iaload, 1) := by decide +kernel
theorem dX12_pushes_31 : decode cX12_pushes 31 = .ok (.iadd, 1) := by decide +kernel
theorem dX12_pushes_32 : decode cX12_pushes 32 = .ok (.iload_n 3, 1) := by decide +kernel
theorem dX12_pushes_33 : decode cX12_pushes 33 = .ok (.iastore, 1) := by decide +kernel
theorem dX12_pushes_34 : decode cX12_pushes 34 = .ok (.aload_n 0, 1) := by decide +kernel
theorem dX12_pushes_35 : decode cX12_pushes 35 = .ok (.getfield 164, 3) := by decide +kernel
theorem dX12_pushes_38 : decode cX12_pushes 38 = .ok (.iload_n 1, 1) := by decide +kernel
theorem dX12_pushes_39 : decode cX12_pushes 39 = .ok (.dup2, 1) := by decide +kernel
theorem dX12_pushes_40 : decode cX12_pushes 40 = .ok (.iaload, 1) := by decide +kernel
theorem dX12_pushes_41 : decode cX12_pushes 41 = .ok (.iconst 1, 1) := by decide +kernel
theorem dX12_pushes_42 : decode cX12_pushes 42 = .ok (.iadd, 1) := by decide +kernel
theorem dX12_pushes_43 : decode cX12_pushes 43 = .ok (.iastore, 1) := by decide +kernel
theorem dX12_pushes_44 : decode cX12_pushes 44 = .ok (.return_, 1) := by decide +kernel
abbrev rm_X12_pushes : Room := { frames := 0, cells := 0, slots := 0, locals := 0 }
set_option maxRecDepth 100000 in
set_option maxHeartbeats 4000000 in
theorem ct_X12_pushes {w : Wd} {l : Launch} {a1 : Int} {a2 : Int} {a3 : Int} {σ : St} {σ' : St} (ia1 : InI a1) (ia2 : InI a2) (ia3 : InI a3) (h : m_X12_pushes a1 a2 a3 σ = some σ') : Ct w l yX12_pushes (Cond.code yX12_pushes cX12_pushes 4 none :: TB) rm_X12_pushes [rv w 170, iv a1, iv a2, iv a3] σ none True σ' := by
  refine Ct.of2 [some (rv w 170), some (iv a1), some (iv a2), some (iv a3)] 0 rfl pn_RX12 (Nat.le_of_ble_eq_true rfl) ?_
  intro p e s m args below meth c C hr hlk
  unfold m_X12_pushes at h
  refine g_aload_n C dX12_pushes_0 rfl ?_
  refine g_getR (j := 69) C dX12_pushes_1 rfl (Nat.le_of_ble_eq_true rfl) (Nat.le_of_ble_eq_true rfl) fl_12_167 rfl rfl (r := 219) rfl ?_
  refine g_bipush C dX12_pushes_4 rfl ?_
  refine g_iload_n C dX12_pushes_6 rfl ?_
  refine g_imul C dX12_pushes_7 ?_
  refine g_aload_n C dX12_pushes_8 rfl ?_
  refine g_getR (j := 68) C dX12_pushes_9 rfl (Nat.le_of_ble_eq_true rfl) (Nat.le_of_ble_eq_true rfl) fl_12_164 rfl rfl (r := 218) rfl ?_
  refine g_iload_n C dX12_pushes_12 rfl ?_
  obtain ⟨x1, qx1, h⟩ := bnd h
  refine g_iald C dX12_pushes_13 rfl rfl qx1 ia1 (fun ix1 => ?_)
  refine g_iadd C dX12_pushes_14 ?_
  refine g_iload_n C dX12_pushes_15 rfl ?_
  obtain ⟨σ2, qσ2, h⟩ := bnd h
  refine g_iast C dX12_pushes_16 rfl rfl qσ2 (iwr _) ia2 ?_
  refine g_aload_n C dX12_pushes_17 rfl ?_
  refine g_getR (j := 70) C dX12_pushes_18 rfl (Nat.le_of_ble_eq_true rfl) (Nat.le_of_ble_eq_true rfl) fl_12_170 rfl rfl (r := 220) rfl ?_
  refine g_bipush C dX12_pushes_21 rfl ?_
  refine g_iload_n C dX12_pushes_23 rfl ?_
  refine g_imul C dX12_pushes_24 ?_
  refine g_aload_n C dX12_pushes_25 rfl ?_
  refine g_getR (j := 68) C dX12_pushes_26 rfl (Nat.le_of_ble_eq_true rfl) (Nat.le_of_ble_eq_true rfl) fl_12_164 rfl rfl (r := 218) rfl ?_
  refine g_iload_n C dX12_pushes_29 rfl ?_
  obtain ⟨x3, qx3, h⟩ := bnd h
  refine g_iald C dX12_pushes_30 rfl rfl qx3 ia1 (fun ix3 => ?_)
  refine g_iadd C dX12_pushes_31 ?_
  refine g_iload_n C dX12_pushes_32 rfl ?_
  obtain ⟨σ4, qσ4, h⟩ := bnd h
  refine g_iast C dX12_pushes_33 rfl rfl qσ4 (iwr _) ia3 ?_
  refine g_aload_n C dX12_pushes_34 rfl ?_
  refine g_getR (j := 68) C dX12_pushes_35 rfl (Nat.le_of_ble_eq_true rfl) (Nat.le_of_ble_eq_true rfl) fl_12_164 rfl rfl (r := 218) rfl ?_
  refine g_iload_n C dX12_pushes_38 rfl ?_
  refine g_dup2 C dX12_pushes_39 rfl rfl ?_
  obtain ⟨x5, qx5, h⟩ := bnd h
  refine g_iald C dX12_pushes_40 rfl rfl qx5 ia1 (fun ix5 => ?_)
  refine g_iconst C dX12_pushes_41 ?_
  refine g_iadd C dX12_pushes_42 ?_
  obtain ⟨σ6, qσ6, h⟩ := bnd h
  refine g_iast C dX12_pushes_43 rfl rfl qσ6 ia1 (iwr _) ?_
  exact g_vretP C dX12_pushes_44 hr hlk h
theorem dX12_placeNow_0 : decode cX12_placeNow 0 = .ok (.aload_n 0, 1) := by decide +kernel
theorem dX12_placeNow_1 : decode cX12_placeNow 1 = .ok (.getfield 113, 3) := by decide +kernel
theorem dX12_placeNow_4 : decode cX12_placeNow 4 = .ok (.bipush 96, 2) := by decide +kernel
theorem dX12_placeNow_6 : decode cX12_placeNow 6 = .ok (.iload_n 1, 1) := by decide +kernel
theorem dX12_placeNow_7 : decode cX12_placeNow 7 = .ok (.imul, 1) := by decide +kernel
theorem dX12_placeNow_8 : decode cX12_placeNow 8 = .ok (.aload_n 0, 1) := by decide +kernel
theorem dX12_placeNow_9 : decode cX12_placeNow 9 = .ok (.getfield 365, 3) := by decide +kernel
theorem dX12_placeNow_12 : decode cX12_placeNow 12 = .ok (.iadd, 1) := by decide +kernel
theorem dX12_placeNow_13 : decode cX12_placeNow 13 = .ok (.iaload, 1) := by decide +kernel
theorem dX12_placeNow_14 : decode cX12_placeNow 14 = .ok (.ireturn, 1) := by decide +kernel
abbrev rm_X12_placeNow : Room := { frames := 0, cells := 0, slots := 0, locals := 0 }
set_option maxRecDepth 100000 in
set_option maxHeartbeats 4000000 in
theorem ct_X12_placeNow {w : Wd} {l : Launch} {a1 : Int} {σ : St} {y : Int} (ia1 : InI a1) (h : m_X12_placeNow a1 σ = some y) : Ct w l yX12_placeNow (Cond.code yX12_placeNow cX12_placeNow 2 (some .int) :: TB) rm_X12_placeNow [rv w 170, iv a1] σ (some (iv y)) (InI y) σ := by
  refine Ct.of2 [some (rv w 170), some (iv a1)] 0 rfl pn_RX12 (Nat.le_of_ble_eq_true rfl) ?_
  intro p e s m args below meth c C hr hlk
  unfold m_X12_placeNow at h
  refine g_aload_n C dX12_placeNow_0 rfl ?_
  refine g_getR (j := 49) C dX12_placeNow_1 rfl (Nat.le_of_ble_eq_true rfl) (Nat.le_of_ble_eq_true rfl) fl_12_113 rfl rfl (r := 201) rfl ?_
  refine g_bipush C dX12_placeNow_4 rfl ?_
  refine g_iload_n C dX12_placeNow_6 rfl ?_
  refine g_imul C dX12_placeNow_7 ?_
  refine g_aload_n C dX12_placeNow_8 rfl ?_
  refine g_getI (j := 71) C dX12_placeNow_9 rfl (Nat.le_of_ble_eq_true rfl) (Nat.le_of_ble_eq_true rfl) fl_12_365 rfl rfl (fun i1 => ?_)
  refine g_iadd C dX12_placeNow_12 ?_
  obtain ⟨x2, qx2, h⟩ := bnd h
  refine g_iald C dX12_placeNow_13 rfl rfl qx2 (iwr _) (fun ix2 => ?_)
  exact g_iretU C dX12_placeNow_14 hr hlk h ix2
theorem dX12_learns_0 : decode cX12_learns 0 = .ok (.aload_n 0, 1) := by decide +kernel
theorem dX12_learns_1 : decode cX12_learns 1 = .ok (.getfield 116, 3) := by decide +kernel
theorem dX12_learns_4 : decode cX12_learns 4 = .ok (.bipush 8, 2) := by decide +kernel
theorem dX12_learns_6 : decode cX12_learns 6 = .ok (.iload_n 1, 1) := by decide +kernel
theorem dX12_learns_7 : decode cX12_learns 7 = .ok (.imul, 1) := by decide +kernel
theorem dX12_learns_8 : decode cX12_learns 8 = .ok (.iload_n 2, 1) := by decide +kernel
theorem dX12_learns_9 : decode cX12_learns 9 = .ok (.iadd, 1) := by decide +kernel
theorem dX12_learns_10 : decode cX12_learns 10 = .ok (.iaload, 1) := by decide +kernel
theorem dX12_learns_11 : decode cX12_learns 11 = .ok (.iconst (-1), 1) := by decide +kernel
theorem dX12_learns_12 : decode cX12_learns 12 = .ok (.if_icmp .eq 4, 3) := by decide +kernel
theorem dX12_learns_15 : decode cX12_learns 15 = .ok (.return_, 1) := by decide +kernel
theorem dX12_learns_16 : decode cX12_learns 16 = .ok (.aload_n 0, 1) := by decide +kernel
theorem dX12_learns_17 : decode cX12_learns 17 = .ok (.getfield 116, 3) := by decide +kernel
theorem dX12_learns_20 : decode cX12_learns 20 = .ok (.bipush 8, 2) := by decide +kernel
theorem dX12_learns_22 : decode cX12_learns 22 = .ok (.iload_n 1, 1) := by decide +kernel
theorem dX12_learns_23 : decode cX12_learns 23 = .ok (.imul, 1) := by decide +kernel
theorem dX12_learns_24 : decode cX12_learns 24 = .ok (.iload_n 2, 1) := by decide +kernel
theorem dX12_learns_25 : decode cX12_learns 25 = .ok (.iadd, 1) := by decide +kernel
theorem dX12_learns_26 : decode cX12_learns 26 = .ok (.aload_n 0, 1) := by decide +kernel
theorem dX12_learns_27 : decode cX12_learns 27 = .ok (.getfield 365, 3) := by decide +kernel
theorem dX12_learns_30 : decode cX12_learns 30 = .ok (.iastore, 1) := by decide +kernel
theorem dX12_learns_31 : decode cX12_learns 31 = .ok (.aload_n 0, 1) := by decide +kernel
theorem dX12_learns_32 : decode cX12_learns 32 = .ok (.getfield 119, 3) := by decide +kernel
theorem dX12_learns_35 : decode cX12_learns 35 = .ok (.bipush 8, 2) := by decide +kernel
theorem dX12_learns_37 : decode cX12_learns 37 = .ok (.iload_n 1, 1) := by decide +kernel
theorem dX12_learns_38 : decode cX12_learns 38 = .ok (.imul, 1) := by decide +kernel
theorem dX12_learns_39 : decode cX12_learns 39 = .ok (.iload_n 2, 1) := by decide +kernel
theorem dX12_learns_40 : decode cX12_learns 40 = .ok (.iadd, 1) := by decide +kernel
theorem dX12_learns_41 : decode cX12_learns 41 = .ok (.iload_n 3, 1) := by decide +kernel
theorem dX12_learns_42 : decode cX12_learns 42 = .ok (.iastore, 1) := by decide +kernel
theorem dX12_learns_43 : decode cX12_learns 43 = .ok (.aload_n 0, 1) := by decide +kernel
theorem dX12_learns_44 : decode cX12_learns 44 = .ok (.dup, 1) := by decide +kernel
theorem dX12_learns_45 : decode cX12_learns 45 = .ok (.getfield 368, 3) := by decide +kernel
theorem dX12_learns_48 : decode cX12_learns 48 = .ok (.iconst 1, 1) := by decide +kernel
theorem dX12_learns_49 : decode cX12_learns 49 = .ok (.iadd, 1) := by decide +kernel
theorem dX12_learns_50 : decode cX12_learns 50 = .ok (.putfield 368, 3) := by decide +kernel
theorem dX12_learns_53 : decode cX12_learns 53 = .ok (.return_, 1) := by decide +kernel
abbrev rm_X12_learns : Room := { frames := 0, cells := 0, slots := 0, locals := 0 }
set_option maxRecDepth 100000 in
set_option maxHeartbeats 4000000 in
theorem ct_X12_learns {w : Wd} {l : Launch} {a1 : Int} {a2 : Int} {a3 : Int} {σ : St} {σ' : St} (ia1 : InI a1) (ia2 : InI a2) (ia3 : InI a3) (h : m_X12_learns a1 a2 a3 σ = some σ') : Ct w l yX12_learns (Cond.code yX12_learns cX12_learns 4 none :: TB) rm_X12_learns [rv w 170, iv a1, iv a2, iv a3] σ none True σ' := by
  refine Ct.of2 [some (rv w 170), some (iv a1), some (iv a2), some (iv a3)] 0 rfl pn_RX12 (Nat.le_of_ble_eq_true rfl) ?_
  intro p e s m args below meth c C hr hlk
  unfold m_X12_learns at h
  refine g_aload_n C dX12_learns_0 rfl ?_
  refine g_getR (j := 50) C dX12_learns_1 rfl (Nat.le_of_ble_eq_true rfl) (Nat.le_of_ble_eq_true rfl) fl_12_116 rfl rfl (r := 202) rfl ?_
  refine g_bipush C dX12_learns_4 rfl ?_
  refine g_iload_n C dX12_learns_6 rfl ?_
  refine g_imul C dX12_learns_7 ?_
  refine g_iload_n C dX12_learns_8 rfl ?_
  refine g_iadd C dX12_learns_9 ?_
  obtain ⟨x1, qx1, h⟩ := bnd h
  refine g_iald C dX12_learns_10 rfl rfl qx1 (iwr _) (fun ix1 => ?_)
  refine g_iconst C dX12_learns_11 ?_
  refine g_icmp_eq C dX12_learns_12 ix1 (by decide) rfl (tgt := 16) (fun c2 => ?_) (fun c2 => ?_)
  · have h := ifT c2 h
    refine g_aload_n C dX12_learns_16 rfl ?_
    refine g_getR (j := 50) C dX12_learns_17 rfl (Nat.le_of_ble_eq_true rfl) (Nat.le_of_ble_eq_true rfl) fl_12_116 rfl rfl (r := 202) rfl ?_
    refine g_bipush C dX12_learns_20 rfl ?_
    refine g_iload_n C dX12_learns_22 rfl ?_
    refine g_imul C dX12_learns_23 ?_
    refine g_iload_n C dX12_learns_24 rfl ?_
    refine g_iadd C dX12_learns_25 ?_
    refine g_aload_n C dX12_learns_26 rfl ?_
    refine g_getI (j := 71) C dX12_learns_27 rfl (Nat.le_of_ble_eq_true rfl) (Nat.le_of_ble_eq_true rfl) fl_12_365 rfl rfl (fun i3 => ?_)
    obtain ⟨σ4, qσ4, h⟩ := bnd h
    refine g_iast C dX12_learns_30 rfl rfl qσ4 (iwr _) i3 ?_
    refine g_aload_n C dX12_learns_31 rfl ?_
    refine g_getR (j := 51) C dX12_learns_32 rfl (Nat.le_of_ble_eq_true rfl) (Nat.le_of_ble_eq_true rfl) fl_12_119 rfl rfl (r := 203) rfl ?_
    refine g_bipush C dX12_learns_35 rfl ?_
    refine g_iload_n C dX12_learns_37 rfl ?_
    refine g_imul C dX12_learns_38 ?_
    refine g_iload_n C dX12_learns_39 rfl ?_
    refine g_iadd C dX12_learns_40 ?_
    refine g_iload_n C dX12_learns_41 rfl ?_
    obtain ⟨σ5, qσ5, h⟩ := bnd h
    refine g_iast C dX12_learns_42 rfl rfl qσ5 (iwr _) ia3 ?_
    refine g_aload_n C dX12_learns_43 rfl ?_
    refine g_dup C dX12_learns_44 rfl ?_
    refine g_getI (j := 60) C dX12_learns_45 rfl (Nat.le_of_ble_eq_true rfl) (Nat.le_of_ble_eq_true rfl) fl_12_368 rfl rfl (fun i6 => ?_)
    refine g_iconst C dX12_learns_48 ?_
    refine g_iadd C dX12_learns_49 ?_
    obtain ⟨σ7, qσ7, h⟩ := bnd h
    refine g_putI (j := 60) C dX12_learns_50 rfl (Nat.le_of_ble_eq_true rfl) (Nat.le_of_ble_eq_true rfl) fl_12_368 rfl rfl rfl rfl qσ7 (iwr _) ?_
    exact g_vretP C dX12_learns_53 hr hlk h
  · have h := ifF c2 h
    exact g_vretP C dX12_learns_15 hr hlk h
theorem dX12_walks_0 : decode cX12_walks 0 = .ok (.aload_n 0, 1) := by decide +kernel
theorem dX12_walks_1 : decode cX12_walks 1 = .ok (.aload_n 0, 1) := by decide +kernel
theorem dX12_walks_2 : decode cX12_walks 2 = .ok (.getfield 149, 3) := by decide +kernel
theorem dX12_walks_5 : decode cX12_walks 5 = .ok (.iload_n 1, 1) := by decide +kernel
theorem dX12_walks_6 : decode cX12_walks 6 = .ok (.iaload, 1) := by decide +kernel
theorem dX12_walks_7 : decode cX12_walks 7 = .ok (.aload_n 0, 1) := by decide +kernel
theorem dX12_walks_8 : decode cX12_walks 8 = .ok (.getfield 155, 3) := by decide +kernel
theorem dX12_walks_11 : decode cX12_walks 11 = .ok (.iload_n 1, 1) := by decide +kernel
theorem dX12_walks_12 : decode cX12_walks 12 = .ok (.iaload, 1) := by decide +kernel
theorem dX12_walks_13 : decode cX12_walks 13 = .ok (.invokevirtual 386, 3) := by decide +kernel
theorem dX12_walks_16 : decode cX12_walks 16 = .ok (.istore_n 2, 1) := by decide +kernel
theorem dX12_walks_17 : decode cX12_walks 17 = .ok (.aload_n 0, 1) := by decide +kernel
theorem dX12_walks_18 : decode cX12_walks 18 = .ok (.getfield 152, 3) := by decide +kernel
theorem dX12_walks_21 : decode cX12_walks 21 = .ok (.iload_n 1, 1) := by decide +kernel
theorem dX12_walks_22 : decode cX12_walks 22 = .ok (.aload_n 0, 1) := by decide +kernel
theorem dX12_walks_23 : decode cX12_walks 23 = .ok (.getfield 365, 3) := by decide +kernel
theorem dX12_walks_26 : decode cX12_walks 26 = .ok (.aload_n 0, 1) := by decide +kernel
theorem dX12_walks_27 : decode cX12_walks 27 = .ok (.getfield 85, 3) := by decide +kernel
theorem dX12_walks_30 : decode cX12_walks 30 = .ok (.bipush 10, 2) := by decide +kernel
theorem dX12_walks_32 : decode cX12_walks 32 = .ok (.aload_n 0, 1) := by decide +kernel
theorem dX12_walks_33 : decode cX12_walks 33 = .ok (.getfield 149, 3) := by decide +kernel
theorem dX12_walks_36 : decode cX12_walks 36 = .ok (.iload_n 1, 1) := by decide +kernel
theorem dX12_walks_37 : decode cX12_walks 37 = .ok (.iaload, 1) := by decide +kernel
theorem dX12_walks_38 : decode cX12_walks 38 = .ok (.imul, 1) := by decide +kernel
theorem dX12_walks_39 : decode cX12_walks 39 = .ok (.iload_n 2, 1) := by decide +kernel
theorem dX12_walks_40 : decode cX12_walks 40 = .ok (.iadd, 1) := by decide +kernel
theorem dX12_walks_41 : decode cX12_walks 41 = .ok (.iaload, 1) := by decide +kernel
theorem dX12_walks_42 : decode cX12_walks 42 = .ok (.iadd, 1) := by decide +kernel
theorem dX12_walks_43 : decode cX12_walks 43 = .ok (.iastore, 1) := by decide +kernel
theorem dX12_walks_44 : decode cX12_walks 44 = .ok (.aload_n 0, 1) := by decide +kernel
theorem dX12_walks_45 : decode cX12_walks 45 = .ok (.getfield 149, 3) := by decide +kernel
theorem dX12_walks_48 : decode cX12_walks 48 = .ok (.iload_n 1, 1) := by decide +kernel
theorem dX12_walks_49 : decode cX12_walks 49 = .ok (.iload_n 2, 1) := by decide +kernel
theorem dX12_walks_50 : decode cX12_walks 50 = .ok (.iastore, 1) := by decide +kernel
theorem dX12_walks_51 : decode cX12_walks 51 = .ok (.aload_n 0, 1) := by decide +kernel
theorem dX12_walks_52 : decode cX12_walks 52 = .ok (.getfield 143, 3) := by decide +kernel
theorem dX12_walks_55 : decode cX12_walks 55 = .ok (.iload_n 1, 1) := by decide +kernel
theorem dX12_walks_56 : decode cX12_walks 56 = .ok (.iconst 5, 1) := by decide +kernel
theorem dX12_walks_57 : decode cX12_walks 57 = .ok (.iastore, 1) := by decide +kernel
theorem dX12_walks_58 : decode cX12_walks 58 = .ok (.return_, 1) := by decide +kernel
abbrev rm_X12_walks : Room := { frames := 1, cells := 0, slots := 0, locals := 23 }
set_option maxRecDepth 100000 in
set_option maxHeartbeats 4000000 in
theorem ct_X12_walks {w : Wd} {l : Launch} {a1 : Int} {σ : St} {σ' : St} (ia1 : InI a1) (h : m_X12_walks a1 σ = some σ') : Ct w l yX12_walks (Cond.code yX12_walks cX12_walks 3 none :: TB) rm_X12_walks [rv w 170, iv a1] σ none True σ' := by
  refine Ct.of2 [some (rv w 170), some (iv a1), none] 1 rfl pn_RX12 (Nat.le_of_ble_eq_true rfl) ?_
  intro p e s m args below meth c C hr hlk
  unfold m_X12_walks at h
  refine g_aload_n C dX12_walks_0 rfl ?_
  refine g_aload_n C dX12_walks_1 rfl ?_
  refine g_getR (j := 63) C dX12_walks_2 rfl (Nat.le_of_ble_eq_true rfl) (Nat.le_of_ble_eq_true rfl) fl_12_149 rfl rfl (r := 213) rfl ?_
  refine g_iload_n C dX12_walks_5 rfl ?_
  obtain ⟨x1, qx1, h⟩ := bnd h
  refine g_iald C dX12_walks_6 rfl rfl qx1 ia1 (fun ix1 => ?_)
  refine g_aload_n C dX12_walks_7 rfl ?_
  refine g_getR (j := 65) C dX12_walks_8 rfl (Nat.le_of_ble_eq_true rfl) (Nat.le_of_ble_eq_true rfl) fl_12_155 rfl rfl (r := 215) rfl ?_
  refine g_iload_n C dX12_walks_11 rfl ?_
  obtain ⟨x2, qx2, h⟩ := bnd h
  refine g_iald C dX12_walks_12 rfl rfl qx2 ia1 (fun ix2 => ?_)
  obtain ⟨x3, qx3, h⟩ := bnd h
  refine g_callV1 (As := [iv x1, iv x2]) C dX12_walks_13 mi_X12_onward ml_12_386 (ct_X12_onward ix1 ix2 qx3) rfl rfl ⟨rfl, rfl⟩ ⟨Nat.le_of_ble_eq_true rfl, Nat.le_of_ble_eq_true rfl⟩ ⟨Nat.zero_le _, Nat.zero_le _⟩ rfl (Nat.le_of_ble_eq_true rfl) (fun ix3 => ?_)
  refine g_istore_n (L1 := [some (rv w 170), some (iv a1), some (iv x3)]) C dX12_walks_16 rfl (Nat.le_of_ble_eq_true rfl) rfl ?_
  refine g_aload_n C dX12_walks_17 rfl ?_
  refine g_getR (j := 64) C dX12_walks_18 rfl (Nat.le_of_ble_eq_true rfl) (Nat.le_of_ble_eq_true rfl) fl_12_152 rfl rfl (r := 214) rfl ?_
  refine g_iload_n C dX12_walks_21 rfl ?_
  refine g_aload_n C dX12_walks_22 rfl ?_
  refine g_getI (j := 71) C dX12_walks_23 rfl (Nat.le_of_ble_eq_true rfl) (Nat.le_of_ble_eq_true rfl) fl_12_365 rfl rfl (fun i4 => ?_)
  refine g_aload_n C dX12_walks_26 rfl ?_
  refine g_getR (j := 39) C dX12_walks_27 rfl (Nat.le_of_ble_eq_true rfl) (Nat.le_of_ble_eq_true rfl) fl_12_85 rfl rfl (r := 193) rfl ?_
  refine g_bipush C dX12_walks_30 rfl ?_
  refine g_aload_n C dX12_walks_32 rfl ?_
  refine g_getR (j := 63) C dX12_walks_33 rfl (Nat.le_of_ble_eq_true rfl) (Nat.le_of_ble_eq_true rfl) fl_12_149 rfl rfl (r := 213) rfl ?_
  refine g_iload_n C dX12_walks_36 rfl ?_
  obtain ⟨x5, qx5, h⟩ := bnd h
  refine g_iald C dX12_walks_37 rfl rfl qx5 ia1 (fun ix5 => ?_)
  refine g_imul C dX12_walks_38 ?_
  refine g_iload_n C dX12_walks_39 rfl ?_
  refine g_iadd C dX12_walks_40 ?_
  obtain ⟨x6, qx6, h⟩ := bnd h
  refine g_iald C dX12_walks_41 rfl rfl qx6 (iwr _) (fun ix6 => ?_)
  refine g_iadd C dX12_walks_42 ?_
  obtain ⟨σ7, qσ7, h⟩ := bnd h
  refine g_iast C dX12_walks_43 rfl rfl qσ7 ia1 (iwr _) ?_
  refine g_aload_n C dX12_walks_44 rfl ?_
  refine g_getR (j := 63) C dX12_walks_45 rfl (Nat.le_of_ble_eq_true rfl) (Nat.le_of_ble_eq_true rfl) fl_12_149 rfl rfl (r := 213) rfl ?_
  refine g_iload_n C dX12_walks_48 rfl ?_
  refine g_iload_n C dX12_walks_49 rfl ?_
  obtain ⟨σ8, qσ8, h⟩ := bnd h
  refine g_iast C dX12_walks_50 rfl rfl qσ8 ia1 ix3 ?_
  refine g_aload_n C dX12_walks_51 rfl ?_
  refine g_getR (j := 61) C dX12_walks_52 rfl (Nat.le_of_ble_eq_true rfl) (Nat.le_of_ble_eq_true rfl) fl_12_143 rfl rfl (r := 211) rfl ?_
  refine g_iload_n C dX12_walks_55 rfl ?_
  refine g_iconst C dX12_walks_56 ?_
  obtain ⟨σ9, qσ9, h⟩ := bnd h
  refine g_iast C dX12_walks_57 rfl rfl qσ9 ia1 (by decide) ?_
  exact g_vretP C dX12_walks_58 hr hlk h
theorem dX12_comesAbout_0 : decode cX12_comesAbout 0 = .ok (.iload_n 2, 1) := by decide +kernel
theorem dX12_comesAbout_1 : decode cX12_comesAbout 1 = .ok (.aload_n 0, 1) := by decide +kernel
theorem dX12_comesAbout_2 : decode cX12_comesAbout 2 = .ok (.getfield 333, 3) := by decide +kernel
theorem dX12_comesAbout_5 : decode cX12_comesAbout 5 = .ok (.if_icmp .ge 41, 3) := by decide +kernel
theorem dX12_comesAbout_8 : decode cX12_comesAbout 8 = .ok (.iload_n 1, 1) := by decide +kernel
theorem dX12_comesAbout_9 : decode cX12_comesAbout 9 = .ok (.iload_n 2, 1) := by decide +kernel
theorem dX12_comesAbout_10 : decode cX12_comesAbout 10 = .ok (.if_icmp .eq 36, 3) := by decide +kernel
theorem dX12_comesAbout_13 : decode cX12_comesAbout 13 = .ok (.aload_n 0, 1) := by decide +kernel
theorem dX12_comesAbout_14 : decode cX12_comesAbout 14 = .ok (.iload_n 2, 1) := by decide +kernel
theorem dX12_comesAbout_15 : decode cX12_comesAbout 15 = .ok (.invokevirtual 380, 3) := by decide +kernel
theorem dX12_comesAbout_18 : decode cX12_comesAbout 18 = .ok (.aload_n 0, 1) := by decide +kernel
theorem dX12_comesAbout_19 : decode cX12_comesAbout 19 = .ok (.iload_n 1, 1) := by decide +kernel
theorem dX12_comesAbout_20 : decode cX12_comesAbout 20 = .ok (.invokevirtual 380, 3) := by decide +kernel
theorem dX12_comesAbout_23 : decode cX12_comesAbout 23 = .ok (.if_icmp .ne 23, 3) := by decide +kernel
theorem dX12_comesAbout_26 : decode cX12_comesAbout 26 = .ok (.aload_n 0, 1) := by decide +kernel
theorem dX12_comesAbout_27 : decode cX12_comesAbout 27 = .ok (.getfield 143, 3) := by decide +kernel
theorem dX12_comesAbout_30 : decode cX12_comesAbout 30 = .ok (.iload_n 2, 1) := by decide +kernel
theorem dX12_comesAbout_31 : decode cX12_comesAbout 31 = .ok (.iaload, 1) := by decide +kernel
theorem dX12_comesAbout_32 : decode cX12_comesAbout 32 = .ok (.iconst 2, 1) := by decide +kernel
theorem dX12_comesAbout_33 : decode cX12_comesAbout 33 = .ok (.if_icmp .ne 13, 3) := by decide +kernel
theorem dX12_comesAbout_36 : decode cX12_comesAbout 36 = .ok (.aload_n 0, 1) := by decide +kernel
theorem dX12_comesAbout_37 : decode cX12_comesAbout 37 = .ok (.getfield 161, 3) := by decide +kernel
theorem dX12_comesAbout_40 : decode cX12_comesAbout 40 = .ok (.iload_n 2, 1) := by decide +kernel
theorem dX12_comesAbout_41 : decode cX12_comesAbout 41 = .ok (.iaload, 1) := by decide +kernel
theorem dX12_comesAbout_42 : decode cX12_comesAbout 42 = .ok (.iload_n 1, 1) := by decide +kernel
theorem dX12_comesAbout_43 : decode cX12_comesAbout 43 = .ok (.if_icmp .eq 5, 3) := by decide +kernel
theorem dX12_comesAbout_46 : decode cX12_comesAbout 46 = .ok (.iconst 0, 1) := by decide +kernel
theorem dX12_comesAbout_47 : decode cX12_comesAbout 47 = .ok (.ireturn, 1) := by decide +kernel
theorem dX12_comesAbout_48 : decode cX12_comesAbout 48 = .ok (.aload_n 0, 1) := by decide +kernel
theorem dX12_comesAbout_49 : decode cX12_comesAbout 49 = .ok (.getfield 143, 3) := by decide +kernel
theorem dX12_comesAbout_52 : decode cX12_comesAbout 52 = .ok (.iload_n 2, 1) := by decide +kernel
theorem dX12_comesAbout_53 : decode cX12_comesAbout 53 = .ok (.iconst 3, 1) := by decide +kernel
theorem dX12_comesAbout_54 : decode cX12_comesAbout 54 = .ok (.iastore, 1) := by decide +kernel
theorem dX12_comesAbout_55 : decode cX12_comesAbout 55 = .ok (.aload_n 0, 1) := by decide +kernel
theorem dX12_comesAbout_56 : decode cX12_comesAbout 56 = .ok (.getfield 131, 3) := by decide +kernel
theorem dX12_comesAbout_59 : decode cX12_comesAbout 59 = .ok (.bipush 8, 2) := by decide +kernel
theorem dX12_comesAbout_61 : decode cX12_comesAbout 61 = .ok (.iload_n 1, 1) := by decide +kernel
theorem dX12_comesAbout_62 : decode cX12_comesAbout 62 = .ok (.imul, 1) := by decide +kernel
theorem dX12_comesAbout_63 : decode cX12_comesAbout 63 = .ok (.iload_n 2, 1) := by decide +kernel
theorem dX12_comesAbout_64 : decode cX12_comesAbout 64 = .ok (.iadd, 1) := by decide +kernel
theorem dX12_comesAbout_65 : decode cX12_comesAbout 65 = .ok (.iaload, 1) := by decide +kernel
theorem dX12_comesAbout_66 : decode cX12_comesAbout 66 = .ok (.iconst (-1), 1) := by decide +kernel
theorem dX12_comesAbout_67 : decode cX12_comesAbout 67 = .ok (.if_icmp .ne 33, 3) := by decide +kernel
theorem dX12_comesAbout_70 : decode cX12_comesAbout 70 = .ok (.aload_n 0, 1) := by decide +kernel
theorem dX12_comesAbout_71 : decode cX12_comesAbout 71 = .ok (.getfield 131, 3) := by decide +kernel
theorem dX12_comesAbout_74 : decode cX12_comesAbout 74 = .ok (.bipush 8, 2) := by decide +kernel
theorem dX12_comesAbout_76 : decode cX12_comesAbout 76 = .ok (.iload_n 1, 1) := by decide +kernel
theorem dX12_comesAbout_77 : decode cX12_comesAbout 77 = .ok (.imul, 1) := by decide +kernel
theorem dX12_comesAbout_78 : decode cX12_comesAbout 78 = .ok (.iload_n 2, 1) := by decide +kernel
theorem dX12_comesAbout_79 : decode cX12_comesAbout 79 = .ok (.iadd, 1) := by decide +kernel
theorem dX12_comesAbout_80 : decode cX12_comesAbout 80 = .ok (.aload_n 0, 1) := by decide +kernel
theorem dX12_comesAbout_81 : decode cX12_comesAbout 81 = .ok (.getfield 365, 3) := by decide +kernel
theorem dX12_comesAbout_84 : decode cX12_comesAbout 84 = .ok (.iastore, 1) := by decide +kernel
theorem dX12_comesAbout_85 : decode cX12_comesAbout 85 = .ok (.aload_n 0, 1) := by decide +kernel
theorem dX12_comesAbout_86 : decode cX12_comesAbout 86 = .ok (.getfield 131, 3) := by decide +kernel
theorem dX12_comesAbout_89 : decode cX12_comesAbout 89 = .ok (.bipush 8, 2) := by decide +kernel
theorem dX12_comesAbout_91 : decode cX12_comesAbout 91 = .ok (.iload_n 2, 1) := by decide +kernel
theorem dX12_comesAbout_92 : decode cX12_comesAbout 92 = .ok (.imul, 1) := by decide +kernel
theorem dX12_comesAbout_93 : decode cX12_comesAbout 93 = .ok (.iload_n 1, 1) := by decide +kernel
theorem dX12_comesAbout_94 : decode cX12_comesAbout 94 = .ok (.iadd, 1) := by decide +kernel
theorem dX12_comesAbout_95 : decode cX12_comesAbout 95 = .ok (.aload_n 0, 1) := by decide +kernel
theorem dX12_comesAbout_96 : decode cX12_comesAbout 96 = .ok (.getfield 365, 3) := by decide +kernel
theorem dX12_comesAbout_99 : decode cX12_comesAbout 99 = .ok (.iastore, 1) := by decide +kernel
theorem dX12_comesAbout_100 : decode cX12_comesAbout 100 = .ok (.iconst 1, 1) := by decide +kernel
theorem dX12_comesAbout_101 : decode cX12_comesAbout 101 = .ok (.ireturn, 1) := by decide +kernel
abbrev rm_X12_comesAbout : Room := { frames := 1, cells := 0, slots := 0, locals := 21 }
set_option maxRecDepth 100000 in
set_option maxHeartbeats 4000000 in
theorem ct_X12_comesAbout {w : Wd} {l : Launch} {a1 : Int} {a2 : Int} {σ : St} {y : Int} {σ' : St} (ia1 : InI a1) (ia2 : InI a2) (h : m_X12_comesAbout a1 a2 σ = some (y, σ')) : Ct w l yX12_comesAbout (Cond.code yX12_comesAbout cX12_comesAbout 3 (some .boolean) :: TB) rm_X12_comesAbout [rv w 170, iv a1, iv a2] σ (some (iv y)) (InZ y) σ' := by
  refine Ct.of2 [some (rv w 170), some (iv a1), some (iv a2)] 0 rfl pn_RX12 (Nat.le_of_ble_eq_true rfl) ?_
  intro p e s m args below meth c C hr hlk
  unfold m_X12_comesAbout at h
  refine g_iload_n C dX12_comesAbout_0 rfl ?_
  refine g_aload_n C dX12_comesAbout_1 rfl ?_
  refine g_getI (j := 35) C dX12_comesAbout_2 rfl (Nat.le_of_ble_eq_true rfl) (Nat.le_of_ble_eq_true rfl) fl_12_333 rfl rfl (fun i1 => ?_)
  refine g_icmp_ge C dX12_comesAbout_5 ia2 i1 rfl (tgt := 46) (fun c2 => ?_) (fun c2 => ?_)
  · have h := ifT c2 h
    refine g_iconst C dX12_comesAbout_46 ?_
    exact g_zretP C dX12_comesAbout_47 hr hlk h (Or.inl rfl)
  · have h := ifF c2 h
    refine g_iload_n C dX12_comesAbout_8 rfl ?_
    refine g_iload_n C dX12_comesAbout_9 rfl ?_
    refine g_icmp_eq C dX12_comesAbout_10 ia1 ia2 rfl (tgt := 46) (fun c3 => ?_) (fun c3 => ?_)
    · have h := ifT c3 h
      refine g_iconst C dX12_comesAbout_46 ?_
      exact g_zretP C dX12_comesAbout_47 hr hlk h (Or.inl rfl)
    · have h := ifF c3 h
      refine g_aload_n C dX12_comesAbout_13 rfl ?_
      refine g_iload_n C dX12_comesAbout_14 rfl ?_
      obtain ⟨x4, qx4, h⟩ := bnd h
      refine g_callV1 (As := [iv a2]) C dX12_comesAbout_15 mi_X12_placeNow ml_12_380 (ct_X12_placeNow ia2 qx4) rfl rfl ⟨rfl, rfl⟩ ⟨Nat.le_of_ble_eq_true rfl, Nat.le_of_ble_eq_true rfl⟩ ⟨Nat.zero_le _, Nat.zero_le _⟩ rfl (Nat.le_of_ble_eq_true rfl) (fun ix4 => ?_)
      refine g_aload_n C dX12_comesAbout_18 rfl ?_
      refine g_iload_n C dX12_comesAbout_19 rfl ?_
      obtain ⟨x5, qx5, h⟩ := bnd h
      refine g_callV1 (As := [iv a1]) C dX12_comesAbout_20 mi_X12_placeNow ml_12_380 (ct_X12_placeNow ia1 qx5) rfl rfl ⟨rfl, rfl⟩ ⟨Nat.le_of_ble_eq_true rfl, Nat.le_of_ble_eq_true rfl⟩ ⟨Nat.zero_le _, Nat.zero_le _⟩ rfl (Nat.le_of_ble_eq_true rfl) (fun ix5 => ?_)
      refine g_icmp_ne C dX12_comesAbout_23 ix4 ix5 rfl (tgt := 46) (fun c6 => ?_) (fun c6 => ?_)
      · have h := ifF c6 h
        refine g_iconst C dX12_comesAbout_46 ?_
        exact g_zretP C dX12_comesAbout_47 hr hlk h (Or.inl rfl)
      · have h := ifT c6 h
        refine g_aload_n C dX12_comesAbout_26 rfl ?_
        refine g_getR (j := 61) C dX12_comesAbout_27 rfl (Nat.le_of_ble_eq_true rfl) (Nat.le_of_ble_eq_true rfl) fl_12_143 rfl rfl (r := 211) rfl ?_
        refine g_iload_n C dX12_comesAbout_30 rfl ?_
        obtain ⟨x7, qx7, h⟩ := bnd h
        refine g_iald C dX12_comesAbout_31 rfl rfl qx7 ia2 (fun ix7 => ?_)
        refine g_iconst C dX12_comesAbout_32 ?_
        refine g_icmp_ne C dX12_comesAbout_33 ix7 (by decide) rfl (tgt := 46) (fun c8 => ?_) (fun c8 => ?_)
        · have h := ifF c8 h
          refine g_iconst C dX12_comesAbout_46 ?_
          exact g_zretP C dX12_comesAbout_47 hr hlk h (Or.inl rfl)
        · have h := ifT c8 h
          refine g_aload_n C dX12_comesAbout_36 rfl ?_
          refine g_getR (j := 67) C dX12_comesAbout_37 rfl (Nat.le_of_ble_eq_true rfl) (Nat.le_of_ble_eq_true rfl) fl_12_161 rfl rfl (r := 217) rfl ?_
          refine g_iload_n C dX12_comesAbout_40 rfl ?_
          obtain ⟨x9, qx9, h⟩ := bnd h
          refine g_iald C dX12_comesAbout_41 rfl rfl qx9 ia2 (fun ix9 => ?_)
          refine g_iload_n C dX12_comesAbout_42 rfl ?_
          refine g_icmp_eq C dX12_comesAbout_43 ix9 ia1 rfl (tgt := 48) (fun c10 => ?_) (fun c10 => ?_)
          · have h := ifT c10 h
            refine g_aload_n C dX12_comesAbout_48 rfl ?_
            refine g_getR (j := 61) C dX12_comesAbout_49 rfl (Nat.le_of_ble_eq_true rfl) (Nat.le_of_ble_eq_true rfl) fl_12_143 rfl rfl (r := 211) rfl ?_
            refine g_iload_n C dX12_comesAbout_52 rfl ?_
            refine g_iconst C dX12_comesAbout_53 ?_
            obtain ⟨σ11, qσ11, h⟩ := bnd h
            refine g_iast C dX12_comesAbout_54 rfl rfl qσ11 ia2 (by decide) ?_
            refine g_aload_n C dX12_comesAbout_55 rfl ?_
            refine g_getR (j := 55) C dX12_comesAbout_56 rfl (Nat.le_of_ble_eq_true rfl) (Nat.le_of_ble_eq_true rfl) fl_12_131 rfl rfl (r := 207) rfl ?_
            refine g_bipush C dX12_comesAbout_59 rfl ?_
            refine g_iload_n C dX12_comesAbout_61 rfl ?_
            refine g_imul C dX12_comesAbout_62 ?_
            refine g_iload_n C dX12_comesAbout_63 rfl ?_
            refine g_iadd C dX12_comesAbout_64 ?_
            obtain ⟨x12, qx12, h⟩ := bnd h
            refine g_iald C dX12_comesAbout_65 rfl rfl qx12 (iwr _) (fun ix12 => ?_)
            refine g_iconst C dX12_comesAbout_66 ?_
            refine g_icmp_ne C dX12_comesAbout_67 ix12 (by decide) rfl (tgt := 100) (fun c13 => ?_) (fun c13 => ?_)
            · have h := ifF c13 h
              refine g_iconst C dX12_comesAbout_100 ?_
              exact g_zretP C dX12_comesAbout_101 hr hlk h (Or.inr rfl)
            · have h := ifT c13 h
              refine g_aload_n C dX12_comesAbout_70 rfl ?_
              refine g_getR (j := 55) C dX12_comesAbout_71 rfl (Nat.le_of_ble_eq_true rfl) (Nat.le_of_ble_eq_true rfl) fl_12_131 rfl rfl (r := 207) rfl ?_
              refine g_bipush C dX12_comesAbout_74 rfl ?_
              refine g_iload_n C dX12_comesAbout_76 rfl ?_
              refine g_imul C dX12_comesAbout_77 ?_
              refine g_iload_n C dX12_comesAbout_78 rfl ?_
              refine g_iadd C dX12_comesAbout_79 ?_
              refine g_aload_n C dX12_comesAbout_80 rfl ?_
              refine g_getI (j := 71) C dX12_comesAbout_81 rfl (Nat.le_of_ble_eq_true rfl) (Nat.le_of_ble_eq_true rfl) fl_12_365 rfl rfl (fun i14 => ?_)
              obtain ⟨σ15, qσ15, h⟩ := bnd h
              refine g_iast C dX12_comesAbout_84 rfl rfl qσ15 (iwr _) i14 ?_
              refine g_aload_n C dX12_comesAbout_85 rfl ?_
              refine g_getR (j := 55) C dX12_comesAbout_86 rfl (Nat.le_of_ble_eq_true rfl) (Nat.le_of_ble_eq_true rfl) fl_12_131 rfl rfl (r := 207) rfl ?_
              refine g_bipush C dX12_comesAbout_89 rfl ?_
              refine g_iload_n C dX12_comesAbout_91 rfl ?_
              refine g_imul C dX12_comesAbout_92 ?_
              refine g_iload_n C dX12_comesAbout_93 rfl ?_
              refine g_iadd C dX12_comesAbout_94 ?_
              refine g_aload_n C dX12_comesAbout_95 rfl ?_
              refine g_getI (j := 71) C dX12_comesAbout_96 rfl (Nat.le_of_ble_eq_true rfl) (Nat.le_of_ble_eq_true rfl) fl_12_365 rfl rfl (fun i16 => ?_)
              obtain ⟨σ17, qσ17, h⟩ := bnd h
              refine g_iast C dX12_comesAbout_99 rfl rfl qσ17 (iwr _) i16 ?_
              refine g_iconst C dX12_comesAbout_100 ?_
              exact g_zretP C dX12_comesAbout_101 hr hlk h (Or.inr rfl)
          · have h := ifF c10 h
            refine g_iconst C dX12_comesAbout_46 ?_
            exact g_zretP C dX12_comesAbout_47 hr hlk h (Or.inl rfl)
theorem dX12_passes_0 : decode cX12_passes 0 = .ok (.aload_n 0, 1) := by decide +kernel
theorem dX12_passes_1 : decode cX12_passes 1 = .ok (.getfield 146, 3) := by decide +kernel
theorem dX12_passes_4 : decode cX12_passes 4 = .ok (.iload_n 1, 1) := by decide +kernel
theorem dX12_passes_5 : decode cX12_passes 5 = .ok (.iaload, 1) := by decide +kernel
theorem dX12_passes_6 : decode cX12_passes 6 = .ok (.istore_n 2, 1) := by decide +kernel
theorem dX12_passes_7 : decode cX12_passes 7 = .ok (.aload_n 0, 1) := by decide +kernel
theorem dX12_passes_8 : decode cX12_passes 8 = .ok (.getfield 49, 3) := by decide +kernel
theorem dX12_passes_11 : decode cX12_passes 11 = .ok (.iload_n 2, 1) := by decide +kernel
theorem dX12_passes_12 : decode cX12_passes 12 = .ok (.iaload, 1) := by decide +kernel
theorem dX12_passes_13 : decode cX12_passes 13 = .ok (.tableswitch 185 13 18 #[39, 185, 87, 185, 101, 123], 39) := by decide +kernel
theorem dX12_passes_52 : decode cX12_passes 52 = .ok (.bipush 64, 2) := by decide +kernel
theorem dX12_passes_54 : decode cX12_passes 54 = .ok (.iload_n 1, 1) := by decide +kernel
theorem dX12_passes_55 : decode cX12_passes 55 = .ok (.imul, 1) := by decide +kernel
theorem dX12_passes_56 : decode cX12_passes 56 = .ok (.aload_n 0, 1) := by decide +kernel
theorem dX12_passes_57 : decode cX12_passes 57 = .ok (.getfield 164, 3) := by decide +kernel
theorem dX12_passes_60 : decode cX12_passes 60 = .ok (.iload_n 1, 1) := by decide +kernel
theorem dX12_passes_61 : decode cX12_passes 61 = .ok (.iaload, 1) := by decide +kernel
theorem dX12_passes_62 : decode cX12_passes 62 = .ok (.iadd, 1) := by decide +kernel
theorem dX12_passes_63 : decode cX12_passes 63 = .ok (.iconst 1, 1) := by decide +kernel
theorem dX12_passes_64 : decode cX12_passes 64 = .ok (.isub, 1) := by decide +kernel
theorem dX12_passes_65 : decode cX12_passes 65 = .ok (.istore_n 3, 1) := by decide +kernel
theorem dX12_passes_66 : decode cX12_passes 66 = .ok (.aload_n 0, 1) := by decide +kernel
theorem dX12_passes_67 : decode cX12_passes 67 = .ok (.getfield 170, 3) := by decide +kernel
theorem dX12_passes_70 : decode cX12_passes 70 = .ok (.iload_n 3, 1) := by decide +kernel
theorem dX12_passes_71 : decode cX12_passes 71 = .ok (.iaload, 1) := by decide +kernel
theorem dX12_passes_72 : decode cX12_passes 72 = .ok (.iconst 1, 1) := by decide +kernel
theorem dX12_passes_73 : decode cX12_passes 73 = .ok (.if_icmp .le 5, 3) := by decide +kernel
theorem dX12_passes_76 : decode cX12_passes 76 = .ok (.iconst 0, 1) := by decide +kernel
theorem dX12_passes_77 : decode cX12_passes 77 = .ok (.ireturn, 1) := by decide +kernel
theorem dX12_passes_78 : decode cX12_passes 78 = .ok (.aload_n 0, 1) := by decide +kernel
theorem dX12_passes_79 : decode cX12_passes 79 = .ok (.getfield 164, 3) := by decide +kernel
theorem dX12_passes_82 : decode cX12_passes 82 = .ok (.iload_n 1, 1) := by decide +kernel
theorem dX12_passes_83 : decode cX12_passes 83 = .ok (.dup2, 1) := by decide +kernel
theorem dX12_passes_84 : decode cX12_passes 84 = .ok (.iaload, 1) := by decide +kernel
theorem dX12_passes_85 : decode cX12_passes 85 = .ok (.iconst 1, 1) := by decide +kernel
theorem dX12_passes_86 : decode cX12_passes 86 = .ok (.isub, 1) := by decide +kernel
theorem dX12_passes_87 : decode cX12_passes 87 = .ok (.iastore, 1) := by decide +kernel
theorem dX12_passes_88 : decode cX12_passes 88 = .ok (.aload_n 0, 1) := by decide +kernel
theorem dX12_passes_89 : decode cX12_passes 89 = .ok (.getfield 146, 3) := by decide +kernel
theorem dX12_passes_92 : decode cX12_passes 92 = .ok (.iload_n 1, 1) := by decide +kernel
theorem dX12_passes_93 : decode cX12_passes 93 = .ok (.dup2, 1) := by decide +kernel
theorem dX12_passes_94 : decode cX12_passes 94 = .ok (.iaload, 1) := by decide +kernel
theorem dX12_passes_95 : decode cX12_passes 95 = .ok (.iconst 1, 1) := by decide +kernel
theorem dX12_passes_96 : decode cX12_passes 96 = .ok (.iadd, 1) := by decide +kernel
theorem dX12_passes_97 : decode cX12_passes 97 = .ok (.iastore, 1) := by decide +kernel
theorem dX12_passes_98 : decode cX12_passes 98 = .ok (.iconst 1, 1) := by decide +kernel
theorem dX12_passes_99 : decode cX12_passes 99 = .ok (.ireturn, 1) := by decide +kernel
theorem dX12_passes_100 : decode cX12_passes 100 = .ok (.aload_n 0, 1) := by decide +kernel
theorem dX12_passes_101 : decode cX12_passes 101 = .ok (.getfield 146, 3) := by decide +kernel
theorem dX12_passes_104 : decode cX12_passes 104 = .ok (.iload_n 1, 1) := by decide +kernel
theorem dX12_passes_105 : decode cX12_passes 105 = .ok (.aload_n 0, 1) := by decide +kernel
theorem dX12_passes_106 : decode cX12_passes 106 = .ok (.getfield 52, 3) := by decide +kernel
theorem dX12_passes_109 : decode cX12_passes 109 = .ok (.iload_n 2, 1) := by decide +kernel
theorem dX12_passes_110 : decode cX12_passes 110 = .ok (.iaload, 1) := by decide +kernel
theorem dX12_passes_111 : decode cX12_passes 111 = .ok (.iastore, 1) := by decide +kernel
theorem dX12_passes_112 : decode cX12_passes 112 = .ok (.iconst 1, 1) := by decide +kernel
theorem dX12_passes_113 : decode cX12_passes 113 = .ok (.ireturn, 1) := by decide +kernel
theorem dX12_passes_114 : decode cX12_passes 114 = .ok (.aload_n 0, 1) := by decide +kernel
theorem dX12_passes_115 : decode cX12_passes 115 = .ok (.getfield 164, 3) := by decide +kernel
theorem dX12_passes_118 : decode cX12_passes 118 = .ok (.iload_n 1, 1) := by decide +kernel
theorem dX12_passes_119 : decode cX12_passes 119 = .ok (.dup2, 1) := by decide +kernel
theorem dX12_passes_120 : decode cX12_passes 120 = .ok (.iaload, 1) := by decide +kernel
theorem dX12_passes_121 : decode cX12_passes 121 = .ok (.iconst 1, 1) := by decide +kernel
theorem dX12_passes_122 : decode cX12_passes 122 = .ok (.isub, 1) := by decide +kernel
theorem dX12_passes_123 : decode cX12_passes 123 = .ok (.iastore, 1) := by decide +kernel
theorem dX12_passes_124 : decode cX12_passes 124 = .ok (.aload_n 0, 1) := by decide +kernel
theorem dX12_passes_125 : decode cX12_passes 125 = .ok (.getfield 146, 3) := by decide +kernel
theorem dX12_passes_128 : decode cX12_passes 128 = .ok (.iload_n 1, 1) := by decide +kernel
theorem dX12_passes_129 : decode cX12_passes 129 = .ok (.dup2, 1) := by decide +kernel
theorem dX12_passes_130 : decode cX12_passes 130 = .ok (.iaload, 1) := by decide +kernel
theorem dX12_passes_131 : decode cX12_passes 131 = .ok (.iconst 1, 1) := by decide +kernel
theorem dX12_passes_132 : decode cX12_passes 132 = .ok (.iadd, 1) := by decide +kernel
theorem dX12_passes_133 : decode cX12_passes 133 = .ok (.iastore, 1) := by decide +kernel
theorem dX12_passes_134 : decode cX12_passes 134 = .ok (.iconst 1, 1) := by decide +kernel
theorem dX12_passes_135 : decode cX12_passes 135 = .ok (.ireturn, 1) := by decide +kernel
theorem dX12_passes_136 : decode cX12_passes 136 = .ok (.aload_n 0, 1) := by decide +kernel
theorem dX12_passes_137 : decode cX12_passes 137 = .ok (.getfield 164, 3) := by decide +kernel
theorem dX12_passes_140 : decode cX12_passes 140 = .ok (.iload_n 1, 1) := by decide +kernel
theorem dX12_passes_141 : decode cX12_passes 141 = .ok (.iaload, 1) := by decide +kernel
theorem dX12_passes_142 : decode cX12_passes 142 = .ok (.ifCond .ne 22, 3) := by decide +kernel
theorem dX12_passes_145 : decode cX12_passes 145 = .ok (.aload_n 0, 1) := by decide +kernel
theorem dX12_passes_146 : decode cX12_passes 146 = .ok (.getfield 143, 3) := by decide +kernel
theorem dX12_passes_149 : decode cX12_passes 149 = .ok (.iload_n 1, 1) := by decide +kernel
theorem dX12_passes_150 : decode cX12_passes 150 = .ok (.iconst 4, 1) := by decide +kernel
theorem dX12_passes_151 : decode cX12_passes 151 = .ok (.iastore, 1) := by decide +kernel
theorem dX12_passes_152 : decode cX12_passes 152 = .ok (.aload_n 0, 1) := by decide +kernel
theorem dX12_passes_153 : decode cX12_passes 153 = .ok (.getfield 134, 3) := by decide +kernel
theorem dX12_passes_156 : decode cX12_passes 156 = .ok (.iload_n 1, 1) := by decide +kernel
theorem dX12_passes_157 : decode cX12_passes 157 = .ok (.aload_n 0, 1) := by decide +kernel
theorem dX12_passes_158 : decode cX12_passes 158 = .ok (.getfield 365, 3) := by decide +kernel
theorem dX12_passes_161 : decode cX12_passes 161 = .ok (.iastore, 1) := by decide +kernel
theorem dX12_passes_162 : decode cX12_passes 162 = .ok (.iconst 1, 1) := by decide +kernel
theorem dX12_passes_163 : decode cX12_passes 163 = .ok (.ireturn, 1) := by decide +kernel
theorem dX12_passes_164 : decode cX12_passes 164 = .ok (.aload_n 0, 1) := by decide +kernel
theorem dX12_passes_165 : decode cX12_passes 165 = .ok (.getfield 164, 3) := by decide +kernel
theorem dX12_passes_168 : decode cX12_passes 168 = .ok (.iload_n 1, 1) := by decide +kernel
theorem dX12_passes_169 : decode cX12_passes 169 = .ok (.dup2, 1) := by decide +kernel
theorem dX12_passes_170 : decode cX12_passes 170 = .ok (.iaload, 1) := by decide +kernel
theorem dX12_passes_171 : decode cX12_passes 171 = .ok (.iconst 1, 1) := by decide +kernel
theorem dX12_passes_172 : decode cX12_passes 172 = .ok (.isub, 1) := by decide +kernel
theorem dX12_passes_173 : decode cX12_passes 173 = .ok (.iastore, 1) := by decide +kernel
theorem dX12_passes_174 : decode cX12_passes 174 = .ok (.aload_n 0, 1) := by decide +kernel
theorem dX12_passes_175 : decode cX12_passes 175 = .ok (.getfield 146, 3) := by decide +kernel
theorem dX12_passes_178 : decode cX12_passes 178 = .ok (.iload_n 1, 1) := by decide +kernel
theorem dX12_passes_179 : decode cX12_passes 179 = .ok (.aload_n 0, 1) := by decide +kernel
theorem dX12_passes_180 : decode cX12_passes 180 = .ok (.getfield 170, 3) := by decide +kernel
theorem dX12_passes_183 : decode cX12_passes 183 = .ok (.bipush 64, 2) := by decide +kernel
theorem dX12_passes_185 : decode cX12_passes 185 = .ok (.iload_n 1, 1) := by decide +kernel
theorem dX12_passes_186 : decode cX12_passes 186 = .ok (.imul, 1) := by decide +kernel
theorem dX12_passes_187 : decode cX12_passes 187 = .ok (.aload_n 0, 1) := by decide +kernel
theorem dX12_passes_188 : decode cX12_passes 188 = .ok (.getfield 164, 3) := by decide +kernel
theorem dX12_passes_191 : decode cX12_passes 191 = .ok (.iload_n 1, 1) := by decide +kernel
theorem dX12_passes_192 : decode cX12_passes 192 = .ok (.iaload, 1) := by decide +kernel
theorem dX12_passes_193 : decode cX12_passes 193 = .ok (.iadd, 1) := by decide +kernel
theorem dX12_passes_194 : decode cX12_passes 194 = .ok (.iaload, 1) := by decide +kernel
theorem dX12_passes_195 : decode cX12_passes 195 = .ok (.iastore, 1) := by decide +kernel
theorem dX12_passes_196 : decode cX12_passes 196 = .ok (.iconst 1, 1) := by decide +kernel
theorem dX12_passes_197 : decode cX12_passes 197 = .ok (.ireturn, 1) := by decide +kernel
theorem dX12_passes_198 : decode cX12_passes 198 = .ok (.iconst 0, 1) := by decide +kernel
theorem dX12_passes_199 : decode cX12_passes 199 = .ok (.ireturn, 1) := by decide +kernel
abbrev rm_X12_passes : Room := { frames := 0, cells := 0, slots := 0, locals := 0 }
set_option maxRecDepth 100000 in
set_option maxHeartbeats 4000000 in
theorem ct_X12_passes {w : Wd} {l : Launch} {a1 : Int} {σ : St} {y : Int} {σ' : St} (ia1 : InI a1) (h : m_X12_passes a1 σ = some (y, σ')) : Ct w l yX12_passes (Cond.code yX12_passes cX12_passes 4 (some .boolean) :: TB) rm_X12_passes [rv w 170, iv a1] σ (some (iv y)) (InZ y) σ' := by
  refine Ct.of2 [some (rv w 170), some (iv a1), none, none] 2 rfl pn_RX12 (Nat.le_of_ble_eq_true rfl) ?_
  intro p e s m args below meth c C hr hlk
  unfold m_X12_passes at h
  refine g_aload_n C dX12_passes_0 rfl ?_
  refine g_getR (j := 62) C dX12_passes_1 rfl (Nat.le_of_ble_eq_true rfl) (Nat.le_of_ble_eq_true rfl) fl_12_146 rfl rfl (r := 212) rfl ?_
  refine g_iload_n C dX12_passes_4 rfl ?_
  obtain ⟨x1, qx1, h⟩ := bnd h
  refine g_iald C dX12_passes_5 rfl rfl qx1 ia1 (fun ix1 => ?_)
  refine g_istore_n (L1 := [some (rv w 170), some (iv a1), some (iv x1), none]) C dX12_passes_6 rfl (Nat.le_of_ble_eq_true rfl) rfl ?_
  refine g_aload_n C dX12_passes_7 rfl ?_
  refine g_getR (j := 23) C dX12_passes_8 rfl (Nat.le_of_ble_eq_true rfl) (Nat.le_of_ble_eq_true rfl) fl_12_49 rfl rfl (r := 181) rfl ?_
  refine g_iload_n C dX12_passes_11 rfl ?_
  obtain ⟨x2, qx2, h⟩ := bnd h
  refine g_iald C dX12_passes_12 rfl rfl qx2 ix1 (fun ix2 => ?_)
  by_cases c3 : x2 = 13
  · have h := ifT c3 h
    refine g_tabI C dX12_passes_13 ix2 (by rw [c3]; decide) (by rw [c3]; decide) (by rw [c3] <;> rfl) rfl (tgt := 52) ?_
    refine g_bipush C dX12_passes_52 rfl ?_
    refine g_iload_n C dX12_passes_54 rfl ?_
    refine g_imul C dX12_passes_55 ?_
    refine g_aload_n C dX12_passes_56 rfl ?_
    refine g_getR (j := 68) C dX12_passes_57 rfl (Nat.le_of_ble_eq_true rfl) (Nat.le_of_ble_eq_true rfl) fl_12_164 rfl rfl (r := 218) rfl ?_
    refine g_iload_n C dX12_passes_60 rfl ?_
    obtain ⟨x4, qx4, h⟩ := bnd h
    refine g_iald C dX12_passes_61 rfl rfl qx4 ia1 (fun ix4 => ?_)
    refine g_iadd C dX12_passes_62 ?_
    refine g_iconst C dX12_passes_63 ?_
    refine g_isub C dX12_passes_64 ?_
    obtain ⟨x5, qx5, h⟩ := bnd h
    have qx5 := Option.some.inj qx5
    have ix5 : InI x5 := by rw [← qx5]; exact (iwr _)
    refine g_E qx5 ?_
    refine g_istore_n (L1 := [some (rv w 170), some (iv a1), some (iv x1), some (iv x5)]) C dX12_passes_65 rfl (Nat.le_of_ble_eq_true rfl) rfl ?_
    refine g_aload_n C dX12_passes_66 rfl ?_
    refine g_getR (j := 70) C dX12_passes_67 rfl (Nat.le_of_ble_eq_true rfl) (Nat.le_of_ble_eq_true rfl) fl_12_170 rfl rfl (r := 220) rfl ?_
    refine g_iload_n C dX12_passes_70 rfl ?_
    obtain ⟨x6, qx6, h⟩ := bnd h
    refine g_iald C dX12_passes_71 rfl rfl qx6 ix5 (fun ix6 => ?_)
    refine g_iconst C dX12_passes_72 ?_
    refine g_icmp_le C dX12_passes_73 ix6 (by decide) rfl (tgt := 78) (fun c7 => ?_) (fun c7 => ?_)
    · have h := ifT c7 h
      refine g_aload_n C dX12_passes_78 rfl ?_
      refine g_getR (j := 68) C dX12_passes_79 rfl (Nat.le_of_ble_eq_true rfl) (Nat.le_of_ble_eq_true rfl) fl_12_164 rfl rfl (r := 218) rfl ?_
      refine g_iload_n C dX12_passes_82 rfl ?_
      refine g_dup2 C dX12_passes_83 rfl rfl ?_
      obtain ⟨x8, qx8, h⟩ := bnd h
      refine g_iald C dX12_passes_84 rfl rfl qx8 ia1 (fun ix8 => ?_)
      refine g_iconst C dX12_passes_85 ?_
      refine g_isub C dX12_passes_86 ?_
      obtain ⟨σ9, qσ9, h⟩ := bnd h
      refine g_iast C dX12_passes_87 rfl rfl qσ9 ia1 (iwr _) ?_
      refine g_aload_n C dX12_passes_88 rfl ?_
      refine g_getR (j := 62) C dX12_passes_89 rfl (Nat.le_of_ble_eq_true rfl) (Nat.le_of_ble_eq_true rfl) fl_12_146 rfl rfl (r := 212) rfl ?_
      refine g_iload_n C dX12_passes_92 rfl ?_
      refine g_dup2 C dX12_passes_93 rfl rfl ?_
      obtain ⟨x10, qx10, h⟩ := bnd h
      refine g_iald C dX12_passes_94 rfl rfl qx10 ia1 (fun ix10 => ?_)
      refine g_iconst C dX12_passes_95 ?_
      refine g_iadd C dX12_passes_96 ?_
      obtain ⟨σ11, qσ11, h⟩ := bnd h
      refine g_iast C dX12_passes_97 rfl rfl qσ11 ia1 (iwr _) ?_
      refine g_iconst C dX12_passes_98 ?_
      exact g_zretP C dX12_passes_99 hr hlk h (Or.inr rfl)
    · have h := ifF c7 h
      refine g_iconst C dX12_passes_76 ?_
      exact g_zretP C dX12_passes_77 hr hlk h (Or.inl rfl)
  have h := ifF c3 h
  by_cases c12 : x2 = 15
  · have h := ifT c12 h
    refine g_tabI C dX12_passes_13 ix2 (by rw [c12]; decide) (by rw [c12]; decide) (by rw [c12] <;> rfl) rfl (tgt := 100) ?_
    refine g_aload_n C dX12_passes_100 rfl ?_
    refine g_getR (j := 62) C dX12_passes_101 rfl (Nat.le_of_ble_eq_true rfl) (Nat.le_of_ble_eq_true rfl) fl_12_146 rfl rfl (r := 212) rfl ?_
    refine g_iload_n C dX12_passes_104 rfl ?_
    refine g_aload_n C dX12_passes_105 rfl ?_
    refine g_getR (j := 24) C dX12_passes_106 rfl (Nat.le_of_ble_eq_true rfl) (Nat.le_of_ble_eq_true rfl) fl_12_52 rfl rfl (r := 182) rfl ?_
    refine g_iload_n C dX12_passes_109 rfl ?_
    obtain ⟨x13, qx13, h⟩ := bnd h
    refine g_iald C dX12_passes_110 rfl rfl qx13 ix1 (fun ix13 => ?_)
    obtain ⟨σ14, qσ14, h⟩ := bnd h
    refine g_iast C dX12_passes_111 rfl rfl qσ14 ia1 ix13 ?_
    refine g_iconst C dX12_passes_112 ?_
    exact g_zretP C dX12_passes_113 hr hlk h (Or.inr rfl)
  have h := ifF c12 h
  by_cases c15 : x2 = 17
  · have h := ifT c15 h
    refine g_tabI C dX12_passes_13 ix2 (by rw [c15]; decide) (by rw [c15]; decide) (by rw [c15] <;> rfl) rfl (tgt := 114) ?_
    refine g_aload_n C dX12_passes_114 rfl ?_
    refine g_getR (j := 68) C dX12_passes_115 rfl (Nat.le_of_ble_eq_true rfl) (Nat.le_of_ble_eq_true rfl) fl_12_164 rfl rfl (r := 218) rfl ?_
    refine g_iload_n C dX12_passes_118 rfl ?_
    refine g_dup2 C dX12_passes_119 rfl rfl ?_
    obtain ⟨x16, qx16, h⟩ := bnd h
    refine g_iald C dX12_passes_120 rfl rfl qx16 ia1 (fun ix16 => ?_)
    refine g_iconst C dX12_passes_121 ?_
    refine g_isub C dX12_passes_122 ?_
    obtain ⟨σ17, qσ17, h⟩ := bnd h
    refine g_iast C dX12_passes_123 rfl rfl qσ17 ia1 (iwr _) ?_
    refine g_aload_n C dX12_passes_124 rfl ?_
    refine g_getR (j := 62) C dX12_passes_125 rfl (Nat.le_of_ble_eq_true rfl) (Nat.le_of_ble_eq_true rfl) fl_12_146 rfl rfl (r := 212) rfl ?_
    refine g_iload_n C dX12_passes_128 rfl ?_
    refine g_dup2 C dX12_passes_129 rfl rfl ?_
    obtain ⟨x18, qx18, h⟩ := bnd h
    refine g_iald C dX12_passes_130 rfl rfl qx18 ia1 (fun ix18 => ?_)
    refine g_iconst C dX12_passes_131 ?_
    refine g_iadd C dX12_passes_132 ?_
    obtain ⟨σ19, qσ19, h⟩ := bnd h
    refine g_iast C dX12_passes_133 rfl rfl qσ19 ia1 (iwr _) ?_
    refine g_iconst C dX12_passes_134 ?_
    exact g_zretP C dX12_passes_135 hr hlk h (Or.inr rfl)
  have h := ifF c15 h
  by_cases c20 : x2 = 18
  · have h := ifT c20 h
    refine g_tabI C dX12_passes_13 ix2 (by rw [c20]; decide) (by rw [c20]; decide) (by rw [c20] <;> rfl) rfl (tgt := 136) ?_
    refine g_aload_n C dX12_passes_136 rfl ?_
    refine g_getR (j := 68) C dX12_passes_137 rfl (Nat.le_of_ble_eq_true rfl) (Nat.le_of_ble_eq_true rfl) fl_12_164 rfl rfl (r := 218) rfl ?_
    refine g_iload_n C dX12_passes_140 rfl ?_
    obtain ⟨x21, qx21, h⟩ := bnd h
    refine g_iald C dX12_passes_141 rfl rfl qx21 ia1 (fun ix21 => ?_)
    refine g_if_ne C dX12_passes_142 ix21 rfl (tgt := 164) (fun c22 => ?_) (fun c22 => ?_)
    · have h := ifF c22 h
      refine g_aload_n C dX12_passes_164 rfl ?_
      refine g_getR (j := 68) C dX12_passes_165 rfl (Nat.le_of_ble_eq_true rfl) (Nat.le_of_ble_eq_true rfl) fl_12_164 rfl rfl (r := 218) rfl ?_
      refine g_iload_n C dX12_passes_168 rfl ?_
      refine g_dup2 C dX12_passes_169 rfl rfl ?_
      obtain ⟨x23, qx23, h⟩ := bnd h
      refine g_iald C dX12_passes_170 rfl rfl qx23 ia1 (fun ix23 => ?_)
      refine g_iconst C dX12_passes_171 ?_
      refine g_isub C dX12_passes_172 ?_
      obtain ⟨σ24, qσ24, h⟩ := bnd h
      refine g_iast C dX12_passes_173 rfl rfl qσ24 ia1 (iwr _) ?_
      refine g_aload_n C dX12_passes_174 rfl ?_
      refine g_getR (j := 62) C dX12_passes_175 rfl (Nat.le_of_ble_eq_true rfl) (Nat.le_of_ble_eq_true rfl) fl_12_146 rfl rfl (r := 212) rfl ?_
      refine g_iload_n C dX12_passes_178 rfl ?_
      refine g_aload_n C dX12_passes_179 rfl ?_
      refine g_getR (j := 70) C dX12_passes_180 rfl (Nat.le_of_ble_eq_true rfl) (Nat.le_of_ble_eq_true rfl) fl_12_170 rfl rfl (r := 220) rfl ?_
      refine g_bipush C dX12_passes_183 rfl ?_
      refine g_iload_n C dX12_passes_185 rfl ?_
      refine g_imul C dX12_passes_186 ?_
      refine g_aload_n C dX12_passes_187 rfl ?_
      refine g_getR (j := 68) C dX12_passes_188 rfl (Nat.le_of_ble_eq_true rfl) (Nat.le_of_ble_eq_true rfl) fl_12_164 rfl rfl (r := 218) rfl ?_
      refine g_iload_n C dX12_passes_191 rfl ?_
      obtain ⟨x25, qx25, h⟩ := bnd h
      refine g_iald C dX12_passes_192 rfl rfl qx25 ia1 (fun ix25 => ?_)
      refine g_iadd C dX12_passes_193 ?_
      obtain ⟨x26, qx26, h⟩ := bnd h
      refine g_iald C dX12_passes_194 rfl rfl qx26 (iwr _) (fun ix26 => ?_)
      obtain ⟨σ27, qσ27, h⟩ := bnd h
      refine g_iast C dX12_passes_195 rfl rfl qσ27 ia1 ix26 ?_
      refine g_iconst C dX12_passes_196 ?_
      exact g_zretP C dX12_passes_197 hr hlk h (Or.inr rfl)
    · have h := ifT c22 h
      refine g_aload_n C dX12_passes_145 rfl ?_
      refine g_getR (j := 61) C dX12_passes_146 rfl (Nat.le_of_ble_eq_true rfl) (Nat.le_of_ble_eq_true rfl) fl_12_143 rfl rfl (r := 211) rfl ?_
      refine g_iload_n C dX12_passes_149 rfl ?_
      refine g_iconst C dX12_passes_150 ?_
      obtain ⟨σ28, qσ28, h⟩ := bnd h
      refine g_iast C dX12_passes_151 rfl rfl qσ28 ia1 (by decide) ?_
      refine g_aload_n C dX12_passes_152 rfl ?_
      refine g_getR (j := 56) C dX12_passes_153 rfl (Nat.le_of_ble_eq_true rfl) (Nat.le_of_ble_eq_true rfl) fl_12_134 rfl rfl (r := 208) rfl ?_
      refine g_iload_n C dX12_passes_156 rfl ?_
      refine g_aload_n C dX12_passes_157 rfl ?_
      refine g_getI (j := 71) C dX12_passes_158 rfl (Nat.le_of_ble_eq_true rfl) (Nat.le_of_ble_eq_true rfl) fl_12_365 rfl rfl (fun i29 => ?_)
      obtain ⟨σ30, qσ30, h⟩ := bnd h
      refine g_iast C dX12_passes_161 rfl rfl qσ30 ia1 i29 ?_
      refine g_iconst C dX12_passes_162 ?_
      exact g_zretP C dX12_passes_163 hr hlk h (Or.inr rfl)
  have h := ifF c20 h
  have hD31 : GM w p l e rm_X12_passes s m args below meth c (some (iv y)) (InZ y) σ' 4 198 [some (rv w 170), some (iv a1), some (iv x1), none] [] σ := by
    refine g_iconst C dX12_passes_198 ?_
    exact g_zretP C dX12_passes_199 hr hlk h (Or.inl rfl)
  by_cases c32 : x2 = 14
  · exact g_tabI C dX12_passes_13 ix2 (by rw [c32]; decide) (by rw [c32]; decide) (by rw [c32] <;> rfl) rfl (tgt := 198) hD31
  by_cases c33 : x2 = 16
  · exact g_tabI C dX12_passes_13 ix2 (by rw [c33]; decide) (by rw [c33]; decide) (by rw [c33] <;> rfl) rfl (tgt := 198) hD31
  exact g_tabO C dX12_passes_13 ix2 (by omega) rfl (tgt := 198) hD31
theorem dX12_tells_0 : decode cX12_tells 0 = .ok (.aload_n 0, 1) := by decide +kernel
theorem dX12_tells_1 : decode cX12_tells 1 = .ok (.getfield 164, 3) := by decide +kernel
theorem dX12_tells_4 : decode cX12_tells 4 = .ok (.iload_n 1, 1) := by decide +kernel
theorem dX12_tells_5 : decode cX12_tells 5 = .ok (.iaload, 1) := by decide +kernel
theorem dX12_tells_6 : decode cX12_tells 6 = .ok (.iconst 1, 1) := by decide +kernel
theorem dX12_tells_7 : decode cX12_tells 7 = .ok (.isub, 1) := by decide +kernel
theorem dX12_tells_8 : decode cX12_tells 8 = .ok (.istore_n 3, 1) := by decide +kernel
theorem dX12_tells_9 : decode cX12_tells 9 = .ok (.iload_n 3, 1) := by decide +kernel
theorem dX12_tells_10 : decode cX12_tells 10 = .ok (.ifCond .lt 78, 3) := by decide +kernel
theorem dX12_tells_13 : decode cX12_tells 13 = .ok (.aload_n 0, 1) := by decide +kernel
theorem dX12_tells_14 : decode cX12_tells 14 = .ok (.getfield 167, 3) := by decide +kernel
theorem dX12_tells_17 : decode cX12_tells 17 = .ok (.bipush 64, 2) := by decide +kernel
theorem dX12_tells_19 : decode cX12_tells 19 = .ok (.iload_n 1, 1) := by decide +kernel
theorem dX12_tells_20 : decode cX12_tells 20 = .ok (.imul, 1) := by decide +kernel
theorem dX12_tells_21 : decode cX12_tells 21 = .ok (.iload_n 3, 1) := by decide +kernel
theorem dX12_tells_22 : decode cX12_tells 22 = .ok (.iadd, 1) := by decide +kernel
theorem dX12_tells_23 : decode cX12_tells 23 = .ok (.iaload, 1) := by decide +kernel
theorem dX12_tells_24 : decode cX12_tells 24 = .ok (.iconst 2, 1) := by decide +kernel
theorem dX12_tells_25 : decode cX12_tells 25 = .ok (.if_icmp .eq 6, 3) := by decide +kernel
theorem dX12_tells_28 : decode cX12_tells 28 = .ok (.goto 54, 3) := by decide +kernel
theorem dX12_tells_31 : decode cX12_tells 31 = .ok (.aload_n 0, 1) := by decide +kernel
theorem dX12_tells_32 : decode cX12_tells 32 = .ok (.getfield 170, 3) := by decide +kernel
theorem dX12_tells_35 : decode cX12_tells 35 = .ok (.bipush 64, 2) := by decide +kernel
theorem dX12_tells_37 : decode cX12_tells 37 = .ok (.iload_n 1, 1) := by decide +kernel
theorem dX12_tells_38 : decode cX12_tells 38 = .ok (.imul, 1) := by decide +kernel
theorem dX12_tells_39 : decode cX12_tells 39 = .ok (.iload_n 3, 1) := by decide +kernel
theorem dX12_tells_40 : decode cX12_tells 40 = .ok (.iadd, 1) := by decide +kernel
theorem dX12_tells_41 : decode cX12_tells 41 = .ok (.iaload, 1) := by decide +kernel
theorem dX12_tells_42 : decode cX12_tells 42 = .ok (.istore 4, 2) := by decide +kernel
theorem dX12_tells_44 : decode cX12_tells 44 = .ok (.aload_n 0, 1) := by decide +kernel
theorem dX12_tells_45 : decode cX12_tells 45 = .ok (.getfield 116, 3) := by decide +kernel
theorem dX12_tells_48 : decode cX12_tells 48 = .ok (.bipush 8, 2) := by decide +kernel
theorem dX12_tells_50 : decode cX12_tells 50 = .ok (.iload_n 1, 1) := by decide +kernel
theorem dX12_tells_51 : decode cX12_tells 51 = .ok (.imul, 1) := by decide +kernel
theorem dX12_tells_52 : decode cX12_tells 52 = .ok (.iload_n 2, 1) := by decide +kernel
theorem dX12_tells_53 : decode cX12_tells 53 = .ok (.iadd, 1) := by decide +kernel
theorem dX12_tells_54 : decode cX12_tells 54 = .ok (.iaload, 1) := by decide +kernel
theorem dX12_tells_55 : decode cX12_tells 55 = .ok (.iconst (-1), 1) := by decide +kernel
theorem dX12_tells_56 : decode cX12_tells 56 = .ok (.if_icmp .eq 25, 3) := by decide +kernel
theorem dX12_tells_59 : decode cX12_tells 59 = .ok (.aload_n 0, 1) := by decide +kernel
theorem dX12_tells_60 : decode cX12_tells 60 = .ok (.iload 4, 2) := by decide +kernel
theorem dX12_tells_62 : decode cX12_tells 62 = .ok (.invokevirtual 380, 3) := by decide +kernel
theorem dX12_tells_65 : decode cX12_tells 65 = .ok (.aload_n 0, 1) := by decide +kernel
theorem dX12_tells_66 : decode cX12_tells 66 = .ok (.iload_n 1, 1) := by decide +kernel
theorem dX12_tells_67 : decode cX12_tells 67 = .ok (.invokevirtual 380, 3) := by decide +kernel
theorem dX12_tells_70 : decode cX12_tells 70 = .ok (.if_icmp .ne 11, 3) := by decide +kernel
theorem dX12_tells_73 : decode cX12_tells 73 = .ok (.aload_n 0, 1) := by decide +kernel
theorem dX12_tells_74 : decode cX12_tells 74 = .ok (.iload 4, 2) := by decide +kernel
theorem dX12_tells_76 : decode cX12_tells 76 = .ok (.iload_n 2, 1) := by decide +kernel
theorem dX12_tells_77 : decode cX12_tells 77 = .ok (.iload_n 1, 1) := by decide +kernel
theorem dX12_tells_78 : decode cX12_tells 78 = .ok (.invokevirtual 409, 3) := by decide +kernel
theorem dX12_tells_81 : decode cX12_tells 81 = .ok (.return_, 1) := by decide +kernel
theorem dX12_tells_82 : decode cX12_tells 82 = .ok (.iinc 3 (-1), 3) := by decide +kernel
theorem dX12_tells_85 : decode cX12_tells 85 = .ok (.goto (-76), 3) := by decide +kernel
theorem dX12_tells_88 : decode cX12_tells 88 = .ok (.return_, 1) := by decide +kernel
abbrev rm_X12_tells : Room := { frames := 1, cells := 0, slots := 0, locals := 23 }
set_option maxRecDepth 100000 in
set_option maxHeartbeats 4000000 in
theorem ct_X12_tells {w : Wd} {l : Launch} {a1 : Int} {a2 : Int} {σ : St} {σ' : St} (ia1 : InI a1) (ia2 : InI a2) (h : m_X12_tells a1 a2 σ = some σ') : Ct w l yX12_tells (Cond.code yX12_tells cX12_tells 5 none :: TB) rm_X12_tells [rv w 170, iv a1, iv a2] σ none True σ' := by
  refine Ct.of2 [some (rv w 170), some (iv a1), some (iv a2), none, none] 2 rfl pn_RX12 (Nat.le_of_ble_eq_true rfl) ?_
  intro p e s m args below meth c C hr hlk
  unfold m_X12_tells at h
  refine g_aload_n C dX12_tells_0 rfl ?_
  refine g_getR (j := 68) C dX12_tells_1 rfl (Nat.le_of_ble_eq_true rfl) (Nat.le_of_ble_eq_true rfl) fl_12_164 rfl rfl (r := 218) rfl ?_
  refine g_iload_n C dX12_tells_4 rfl ?_
  obtain ⟨x1, qx1, h⟩ := bnd h
  refine g_iald C dX12_tells_5 rfl rfl qx1 ia1 (fun ix1 => ?_)
  refine g_iconst C dX12_tells_6 ?_
  refine g_isub C dX12_tells_7 ?_
  obtain ⟨x2, qx2, h⟩ := bnd h
  have qx2 := Option.some.inj qx2
  have ix2 : InI x2 := by rw [← qx2]; exact (iwr _)
  refine g_E qx2 ?_
  refine g_istore_n (L1 := [some (rv w 170), some (iv a1), some (iv a2), some (iv x2), none]) C dX12_tells_8 rfl (Nat.le_of_ble_eq_true rfl) rfl ?_
  obtain ⟨b3, hb3, hF3⟩ := bnd h
  have hX3 : Sum.inl () = b3 → GM w p l e rm_X12_tells s m args below meth c none True σ' 5 88 [none, none, none, none, none] [] σ := by
    intro q
    subst q
    have h := hF3
    exact g_vretP C dX12_tells_88 hr hlk h
  have hL3 : ∀ (n : Nat) (x4 : Int) , InI x4 → lpN (fun a => m_X12_tells_L9 σ a1 a2 a) n x4 = some b3 → GM w p l e rm_X12_tells s m args below meth c none True σ' 5 9 [some (rv w 170), some (iv a1), some (iv a2), some (iv x4), none] [] σ := by
    intro n
    induction n with
    | zero => intro x4 ix4 q; cases q
    | succ n ih3 =>
      intro x4 ix4 q
      obtain ⟨o3, h, hk3⟩ := lp_step q
      replace h : m_X12_tells_L9 σ a1 a2 x4 = some o3 := h
      unfold m_X12_tells_L9 at h
      refine g_iload_n C dX12_tells_9 rfl ?_
      refine g_if_lt C dX12_tells_10 ix4 rfl (tgt := 88) (fun c5 => ?_) (fun c5 => ?_)
      · have h := ifT c5 h
        refine g_mask [false, false, false, false, true] ?_
        obtain rfl := Option.some.inj h
        exact hX3  (lpR hk3).symm
      · have h := ifF c5 h
        refine g_aload_n C dX12_tells_13 rfl ?_
        refine g_getR (j := 69) C dX12_tells_14 rfl (Nat.le_of_ble_eq_true rfl) (Nat.le_of_ble_eq_true rfl) fl_12_167 rfl rfl (r := 219) rfl ?_
        refine g_bipush C dX12_tells_17 rfl ?_
        refine g_iload_n C dX12_tells_19 rfl ?_
        refine g_imul C dX12_tells_20 ?_
        refine g_iload_n C dX12_tells_21 rfl ?_
        refine g_iadd C dX12_tells_22 ?_
        obtain ⟨x6, qx6, h⟩ := bnd h
        refine g_iald C dX12_tells_23 rfl rfl qx6 (iwr _) (fun ix6 => ?_)
        refine g_iconst C dX12_tells_24 ?_
        refine g_icmp_eq C dX12_tells_25 ix6 (by decide) rfl (tgt := 31) (fun c7 => ?_) (fun c7 => ?_)
        · have h := ifT c7 h
          refine g_aload_n C dX12_tells_31 rfl ?_
          refine g_getR (j := 70) C dX12_tells_32 rfl (Nat.le_of_ble_eq_true rfl) (Nat.le_of_ble_eq_true rfl) fl_12_170 rfl rfl (r := 220) rfl ?_
          refine g_bipush C dX12_tells_35 rfl ?_
          refine g_iload_n C dX12_tells_37 rfl ?_
          refine g_imul C dX12_tells_38 ?_
          refine g_iload_n C dX12_tells_39 rfl ?_
          refine g_iadd C dX12_tells_40 ?_
          obtain ⟨x8, qx8, h⟩ := bnd h
          refine g_iald C dX12_tells_41 rfl rfl qx8 (iwr _) (fun ix8 => ?_)
          refine g_istore (L1 := [some (rv w 170), some (iv a1), some (iv a2), some (iv x4), some (iv x8)]) C dX12_tells_42 rfl (Nat.le_of_ble_eq_true rfl) rfl ?_
          refine g_aload_n C dX12_tells_44 rfl ?_
          refine g_getR (j := 50) C dX12_tells_45 rfl (Nat.le_of_ble_eq_true rfl) (Nat.le_of_ble_eq_true rfl) fl_12_116 rfl rfl (r := 202) rfl ?_
          refine g_bipush C dX12_tells_48 rfl ?_
          refine g_iload_n C dX12_tells_50 rfl ?_
          refine g_imul C dX12_tells_51 ?_
          refine g_iload_n C dX12_tells_52 rfl ?_
          refine g_iadd C dX12_tells_53 ?_
          obtain ⟨x9, qx9, h⟩ := bnd h
          refine g_iald C dX12_tells_54 rfl rfl qx9 (iwr _) (fun ix9 => ?_)
          refine g_iconst C dX12_tells_55 ?_
          refine g_icmp_eq C dX12_tells_56 ix9 (by decide) rfl (tgt := 81) (fun c10 => ?_) (fun c10 => ?_)
          · have h := ifT c10 h
            obtain rfl := Option.some.inj h
            have e3 := (lpR hk3).symm
            subst e3
            have h := hF3
            exact g_vretP C dX12_tells_81 hr hlk h
          · have h := ifF c10 h
            refine g_aload_n C dX12_tells_59 rfl ?_
            refine g_iload C dX12_tells_60 rfl ?_
            obtain ⟨x11, qx11, h⟩ := bnd h
            refine g_callV1 (As := [iv x8]) C dX12_tells_62 mi_X12_placeNow ml_12_380 (ct_X12_placeNow ix8 qx11) rfl rfl ⟨rfl, rfl⟩ ⟨Nat.le_of_ble_eq_true rfl, Nat.le_of_ble_eq_true rfl⟩ ⟨Nat.zero_le _, Nat.zero_le _⟩ rfl (Nat.le_of_ble_eq_true rfl) (fun ix11 => ?_)
            refine g_aload_n C dX12_tells_65 rfl ?_
            refine g_iload_n C dX12_tells_66 rfl ?_
            obtain ⟨x12, qx12, h⟩ := bnd h
            refine g_callV1 (As := [iv a1]) C dX12_tells_67 mi_X12_placeNow ml_12_380 (ct_X12_placeNow ia1 qx12) rfl rfl ⟨rfl, rfl⟩ ⟨Nat.le_of_ble_eq_true rfl, Nat.le_of_ble_eq_true rfl⟩ ⟨Nat.zero_le _, Nat.zero_le _⟩ rfl (Nat.le_of_ble_eq_true rfl) (fun ix12 => ?_)
            refine g_icmp_ne C dX12_tells_70 ix11 ix12 rfl (tgt := 81) (fun c13 => ?_) (fun c13 => ?_)
            · have h := ifF c13 h
              obtain rfl := Option.some.inj h
              have e3 := (lpR hk3).symm
              subst e3
              have h := hF3
              exact g_vretP C dX12_tells_81 hr hlk h
            · have h := ifT c13 h
              refine g_aload_n C dX12_tells_73 rfl ?_
              refine g_iload C dX12_tells_74 rfl ?_
              refine g_iload_n C dX12_tells_76 rfl ?_
              refine g_iload_n C dX12_tells_77 rfl ?_
              obtain ⟨σ14, qσ14, h⟩ := bnd h
              refine g_callV0 (As := [iv x8, iv a2, iv a1]) C dX12_tells_78 mi_X12_learns ml_12_409 (ct_X12_learns ix8 ia2 ia1 qσ14) rfl rfl ⟨rfl, rfl⟩ ⟨Nat.le_of_ble_eq_true rfl, Nat.le_of_ble_eq_true rfl⟩ ⟨Nat.zero_le _, Nat.zero_le _⟩ rfl (Nat.le_of_ble_eq_true rfl) (fun _ => ?_)
              obtain rfl := Option.some.inj h
              have e3 := (lpR hk3).symm
              subst e3
              have h := hF3
              exact g_vretP C dX12_tells_81 hr hlk h
        · have h := ifF c7 h
          refine g_goto C dX12_tells_28 rfl (tgt := 82) ?_
          refine g_iinc (L1 := [some (rv w 170), some (iv a1), some (iv a2), some (iv (wr (x4 + (-1)))), none]) C dX12_tells_82 rfl rfl (Nat.le_of_ble_eq_true rfl) rfl ?_
          refine g_goto C dX12_tells_85 rfl (tgt := 9) ?_
          obtain rfl := Option.some.inj h
          exact ih3 _ (iwr _) (lpL hk3)
  exact hL3 FU _ ix2 hb3
theorem dX12_holds_0 : decode cX12_holds 0 = .ok (.aload_n 0, 1) := by decide +kernel
theorem dX12_holds_1 : decode cX12_holds 1 = .ok (.getfield 149, 3) := by decide +kernel
theorem dX12_holds_4 : decode cX12_holds 4 = .ok (.iload_n 1, 1) := by decide +kernel
theorem dX12_holds_5 : decode cX12_holds 5 = .ok (.iaload, 1) := by decide +kernel
theorem dX12_holds_6 : decode cX12_holds 6 = .ok (.istore 4, 2) := by decide +kernel
theorem dX12_holds_8 : decode cX12_holds 8 = .ok (.iload_n 2, 1) := by decide +kernel
theorem dX12_holds_9 : decode cX12_holds 9 = .ok (.tableswitch 164 0 5 #[39, 60, 82, 103, 123, 150], 39) := by decide +kernel
theorem dX12_holds_48 : decode cX12_holds 48 = .ok (.aload_n 0, 1) := by decide +kernel
theorem dX12_holds_49 : decode cX12_holds 49 = .ok (.getfield 125, 3) := by decide +kernel
theorem dX12_holds_52 : decode cX12_holds 52 = .ok (.iload 4, 2) := by decide +kernel
theorem dX12_holds_54 : decode cX12_holds 54 = .ok (.iaload, 1) := by decide +kernel
theorem dX12_holds_55 : decode cX12_holds 55 = .ok (.iload_n 3, 1) := by decide +kernel
theorem dX12_holds_56 : decode cX12_holds 56 = .ok (.ishr, 1) := by decide +kernel
theorem dX12_holds_57 : decode cX12_holds 57 = .ok (.iconst 1, 1) := by decide +kernel
theorem dX12_holds_58 : decode cX12_holds 58 = .ok (.iand, 1) := by decide +kernel
theorem dX12_holds_59 : decode cX12_holds 59 = .ok (.iconst 1, 1) := by decide +kernel
theorem dX12_holds_60 : decode cX12_holds 60 = .ok (.if_icmp .ne 7, 3) := by decide +kernel
theorem dX12_holds_63 : decode cX12_holds 63 = .ok (.iconst 1, 1) := by decide +kernel
theorem dX12_holds_64 : decode cX12_holds 64 = .ok (.goto 4, 3) := by decide +kernel
theorem dX12_holds_67 : decode cX12_holds 67 = .ok (.iconst 0, 1) := by decide +kernel
theorem dX12_holds_68 : decode cX12_holds 68 = .ok (.ireturn, 1) := by decide +kernel
theorem dX12_holds_69 : decode cX12_holds 69 = .ok (.aload_n 0, 1) := by decide +kernel
theorem dX12_holds_70 : decode cX12_holds 70 = .ok (.getfield 128, 3) := by decide +kernel
theorem dX12_holds_73 : decode cX12_holds 73 = .ok (.bipush 8, 2) := by decide +kernel
theorem dX12_holds_75 : decode cX12_holds 75 = .ok (.iload 4, 2) := by decide +kernel
theorem dX12_holds_77 : decode cX12_holds 77 = .ok (.imul, 1) := by decide +kernel
theorem dX12_holds_78 : decode cX12_holds 78 = .ok (.iload_n 3, 1) := by decide +kernel
theorem dX12_holds_79 : decode cX12_holds 79 = .ok (.iadd, 1) := by decide +kernel
theorem dX12_holds_80 : decode cX12_holds 80 = .ok (.iaload, 1) := by decide +kernel
theorem dX12_holds_81 : decode cX12_holds 81 = .ok (.iconst (-1), 1) := by decide +kernel
theorem dX12_holds_82 : decode cX12_holds 82 = .ok (.if_icmp .eq 7, 3) := by decide +kernel
theorem dX12_holds_85 : decode cX12_holds 85 = .ok (.iconst 1, 1) := by decide +kernel
theorem dX12_holds_86 : decode cX12_holds 86 = .ok (.goto 4, 3) := by decide +kernel
theorem dX12_holds_89 : decode cX12_holds 89 = .ok (.iconst 0, 1) := by decide +kernel
theorem dX12_holds_90 : decode cX12_holds 90 = .ok (.ireturn, 1) := by decide +kernel
theorem dX12_holds_91 : decode cX12_holds 91 = .ok (.aload_n 0, 1) := by decide +kernel
theorem dX12_holds_92 : decode cX12_holds 92 = .ok (.getfield 116, 3) := by decide +kernel
theorem dX12_holds_95 : decode cX12_holds 95 = .ok (.bipush 8, 2) := by decide +kernel
theorem dX12_holds_97 : decode cX12_holds 97 = .ok (.iload_n 1, 1) := by decide +kernel
theorem dX12_holds_98 : decode cX12_holds 98 = .ok (.imul, 1) := by decide +kernel
theorem dX12_holds_99 : decode cX12_holds 99 = .ok (.iload_n 3, 1) := by decide +kernel
theorem dX12_holds_100 : decode cX12_holds 100 = .ok (.iadd, 1) := by decide +kernel
theorem dX12_holds_101 : decode cX12_holds 101 = .ok (.iaload, 1) := by decide +kernel
theorem dX12_holds_102 : decode cX12_holds 102 = .ok (.iconst (-1), 1) := by decide +kernel
theorem dX12_holds_103 : decode cX12_holds 103 = .ok (.if_icmp .eq 7, 3) := by decide +kernel
theorem dX12_holds_106 : decode cX12_holds 106 = .ok (.iconst 1, 1) := by decide +kernel
theorem dX12_holds_107 : decode cX12_holds 107 = .ok (.goto 4, 3) := by decide +kernel
theorem dX12_holds_110 : decode cX12_holds 110 = .ok (.iconst 0, 1) := by decide +kernel
theorem dX12_holds_111 : decode cX12_holds 111 = .ok (.ireturn, 1) := by decide +kernel
theorem dX12_holds_112 : decode cX12_holds 112 = .ok (.aload_n 0, 1) := by decide +kernel
theorem dX12_holds_113 : decode cX12_holds 113 = .ok (.getfield 122, 3) := by decide +kernel
theorem dX12_holds_116 : decode cX12_holds 116 = .ok (.iload_n 1, 1) := by decide +kernel
theorem dX12_holds_117 : decode cX12_holds 117 = .ok (.iaload, 1) := by decide +kernel
theorem dX12_holds_118 : decode cX12_holds 118 = .ok (.iload_n 3, 1) := by decide +kernel
theorem dX12_holds_119 : decode cX12_holds 119 = .ok (.ishr, 1) := by decide +kernel
theorem dX12_holds_120 : decode cX12_holds 120 = .ok (.iconst 1, 1) := by decide +kernel
theorem dX12_holds_121 : decode cX12_holds 121 = .ok (.iand, 1) := by decide +kernel
theorem dX12_holds_122 : decode cX12_holds 122 = .ok (.iconst 1, 1) := by decide +kernel
theorem dX12_holds_123 : decode cX12_holds 123 = .ok (.if_icmp .ne 7, 3) := by decide +kernel
theorem dX12_holds_126 : decode cX12_holds 126 = .ok (.iconst 1, 1) := by decide +kernel
theorem dX12_holds_127 : decode cX12_holds 127 = .ok (.goto 4, 3) := by decide +kernel
theorem dX12_holds_130 : decode cX12_holds 130 = .ok (.iconst 0, 1) := by decide +kernel
theorem dX12_holds_131 : decode cX12_holds 131 = .ok (.ireturn, 1) := by decide +kernel
theorem dX12_holds_132 : decode cX12_holds 132 = .ok (.iload_n 3, 1) := by decide +kernel
theorem dX12_holds_133 : decode cX12_holds 133 = .ok (.aload_n 0, 1) := by decide +kernel
theorem dX12_holds_134 : decode cX12_holds 134 = .ok (.getfield 333, 3) := by decide +kernel
theorem dX12_holds_137 : decode cX12_holds 137 = .ok (.if_icmp .ge 20, 3) := by decide +kernel
theorem dX12_holds_140 : decode cX12_holds 140 = .ok (.aload_n 0, 1) := by decide +kernel
theorem dX12_holds_141 : decode cX12_holds 141 = .ok (.iload_n 3, 1) := by decide +kernel
theorem dX12_holds_142 : decode cX12_holds 142 = .ok (.invokevirtual 380, 3) := by decide +kernel
theorem dX12_holds_145 : decode cX12_holds 145 = .ok (.aload_n 0, 1) := by decide +kernel
theorem dX12_holds_146 : decode cX12_holds 146 = .ok (.iload_n 1, 1) := by decide +kernel
theorem dX12_holds_147 : decode cX12_holds 147 = .ok (.invokevirtual 380, 3) := by decide +kernel
theorem dX12_holds_150 : decode cX12_holds 150 = .ok (.if_icmp .ne 7, 3) := by decide +kernel
theorem dX12_holds_153 : decode cX12_holds 153 = .ok (.iconst 1, 1) := by decide +kernel
theorem dX12_holds_154 : decode cX12_holds 154 = .ok (.goto 4, 3) := by decide +kernel
theorem dX12_holds_157 : decode cX12_holds 157 = .ok (.iconst 0, 1) := by decide +kernel
theorem dX12_holds_158 : decode cX12_holds 158 = .ok (.ireturn, 1) := by decide +kernel
theorem dX12_holds_159 : decode cX12_holds 159 = .ok (.aload_n 0, 1) := by decide +kernel
theorem dX12_holds_160 : decode cX12_holds 160 = .ok (.getfield 365, 3) := by decide +kernel
theorem dX12_holds_163 : decode cX12_holds 163 = .ok (.iload_n 3, 1) := by decide +kernel
theorem dX12_holds_164 : decode cX12_holds 164 = .ok (.if_icmp .lt 7, 3) := by decide +kernel
theorem dX12_holds_167 : decode cX12_holds 167 = .ok (.iconst 1, 1) := by decide +kernel
theorem dX12_holds_168 : decode cX12_holds 168 = .ok (.goto 4, 3) := by decide +kernel
theorem dX12_holds_171 : decode cX12_holds 171 = .ok (.iconst 0, 1) := by decide +kernel
theorem dX12_holds_172 : decode cX12_holds 172 = .ok (.ireturn, 1) := by decide +kernel
theorem dX12_holds_173 : decode cX12_holds 173 = .ok (.aload_n 0, 1) := by decide +kernel
theorem dX12_holds_174 : decode cX12_holds 174 = .ok (.getfield 106, 3) := by decide +kernel
theorem dX12_holds_177 : decode cX12_holds 177 = .ok (.bipush 96, 2) := by decide +kernel
theorem dX12_holds_179 : decode cX12_holds 179 = .ok (.iload 4, 2) := by decide +kernel
theorem dX12_holds_181 : decode cX12_holds 181 = .ok (.imul, 1) := by decide +kernel
theorem dX12_holds_182 : decode cX12_holds 182 = .ok (.aload_n 0, 1) := by decide +kernel
theorem dX12_holds_183 : decode cX12_holds 183 = .ok (.getfield 365, 3) := by decide +kernel
theorem dX12_holds_186 : decode cX12_holds 186 = .ok (.iadd, 1) := by decide +kernel
theorem dX12_holds_187 : decode cX12_holds 187 = .ok (.baload, 1) := by decide +kernel
theorem dX12_holds_188 : decode cX12_holds 188 = .ok (.ireturn, 1) := by decide +kernel
abbrev rm_X12_holds : Room := { frames := 1, cells := 0, slots := 0, locals := 21 }
set_option maxRecDepth 100000 in
set_option maxHeartbeats 4000000 in
theorem ct_X12_holds {w : Wd} {l : Launch} {a1 : Int} {a2 : Int} {a3 : Int} {σ : St} {y : Int} (ia1 : InI a1) (ia2 : InI a2) (ia3 : InI a3) (h : m_X12_holds a1 a2 a3 σ = some y) : Ct w l yX12_holds (Cond.code yX12_holds cX12_holds 5 (some .boolean) :: TB) rm_X12_holds [rv w 170, iv a1, iv a2, iv a3] σ (some (iv y)) (InZ y) σ := by
  refine Ct.of2 [some (rv w 170), some (iv a1), some (iv a2), some (iv a3), none] 1 rfl pn_RX12 (Nat.le_of_ble_eq_true rfl) ?_
  intro p e s m args below meth c C hr hlk
  unfold m_X12_holds at h
  refine g_aload_n C dX12_holds_0 rfl ?_
  refine g_getR (j := 63) C dX12_holds_1 rfl (Nat.le_of_ble_eq_true rfl) (Nat.le_of_ble_eq_true rfl) fl_12_149 rfl rfl (r := 213) rfl ?_
  refine g_iload_n C dX12_holds_4 rfl ?_
  obtain ⟨x1, qx1, h⟩ := bnd h
  refine g_iald C dX12_holds_5 rfl rfl qx1 ia1 (fun ix1 => ?_)
  refine g_istore (L1 := [some (rv w 170), some (iv a1), some (iv a2), some (iv a3), some (iv x1)]) C dX12_holds_6 rfl (Nat.le_of_ble_eq_true rfl) rfl ?_
  refine g_iload_n C dX12_holds_8 rfl ?_
  by_cases c2 : a2 = 0
  · have h := ifT c2 h
    refine g_tabI C dX12_holds_9 ia2 (by rw [c2]; decide) (by rw [c2]; decide) (by rw [c2] <;> rfl) rfl (tgt := 48) ?_
    refine g_aload_n C dX12_holds_48 rfl ?_
    refine g_getR (j := 53) C dX12_holds_49 rfl (Nat.le_of_ble_eq_true rfl) (Nat.le_of_ble_eq_true rfl) fl_12_125 rfl rfl (r := 205) rfl ?_
    refine g_iload C dX12_holds_52 rfl ?_
    obtain ⟨x3, qx3, h⟩ := bnd h
    refine g_iald C dX12_holds_54 rfl rfl qx3 ix1 (fun ix3 => ?_)
    refine g_iload_n C dX12_holds_55 rfl ?_
    refine g_ishr C dX12_holds_56 ?_
    refine g_iconst C dX12_holds_57 ?_
    refine g_iand C dX12_holds_58 ?_
    refine g_iconst C dX12_holds_59 ?_
    refine g_icmp_ne C dX12_holds_60 (iand _ _) (by decide) rfl (tgt := 67) (fun c4 => ?_) (fun c4 => ?_)
    · have h := ifF c4 h
      refine g_iconst C dX12_holds_67 ?_
      exact g_zretU C dX12_holds_68 hr hlk h (Or.inl rfl)
    · have h := ifT c4 h
      refine g_iconst C dX12_holds_63 ?_
      refine g_goto C dX12_holds_64 rfl (tgt := 68) ?_
      exact g_zretU C dX12_holds_68 hr hlk h (Or.inr rfl)
  have h := ifF c2 h
  by_cases c5 : a2 = 1
  · have h := ifT c5 h
    refine g_tabI C dX12_holds_9 ia2 (by rw [c5]; decide) (by rw [c5]; decide) (by rw [c5] <;> rfl) rfl (tgt := 69) ?_
    refine g_aload_n C dX12_holds_69 rfl ?_
    refine g_getR (j := 54) C dX12_holds_70 rfl (Nat.le_of_ble_eq_true rfl) (Nat.le_of_ble_eq_true rfl) fl_12_128 rfl rfl (r := 206) rfl ?_
    refine g_bipush C dX12_holds_73 rfl ?_
    refine g_iload C dX12_holds_75 rfl ?_
    refine g_imul C dX12_holds_77 ?_
    refine g_iload_n C dX12_holds_78 rfl ?_
    refine g_iadd C dX12_holds_79 ?_
    obtain ⟨x6, qx6, h⟩ := bnd h
    refine g_iald C dX12_holds_80 rfl rfl qx6 (iwr _) (fun ix6 => ?_)
    refine g_iconst C dX12_holds_81 ?_
    refine g_icmp_eq C dX12_holds_82 ix6 (by decide) rfl (tgt := 89) (fun c7 => ?_) (fun c7 => ?_)
    · have h := ifT c7 h
      refine g_iconst C dX12_holds_89 ?_
      exact g_zretU C dX12_holds_90 hr hlk h (Or.inl rfl)
    · have h := ifF c7 h
      refine g_iconst C dX12_holds_85 ?_
      refine g_goto C dX12_holds_86 rfl (tgt := 90) ?_
      exact g_zretU C dX12_holds_90 hr hlk h (Or.inr rfl)
  have h := ifF c5 h
  by_cases c8 : a2 = 2
  · have h := ifT c8 h
    refine g_tabI C dX12_holds_9 ia2 (by rw [c8]; decide) (by rw [c8]; decide) (by rw [c8] <;> rfl) rfl (tgt := 91) ?_
    refine g_aload_n C dX12_holds_91 rfl ?_
    refine g_getR (j := 50) C dX12_holds_92 rfl (Nat.le_of_ble_eq_true rfl) (Nat.le_of_ble_eq_true rfl) fl_12_116 rfl rfl (r := 202) rfl ?_
    refine g_bipush C dX12_holds_95 rfl ?_
    refine g_iload_n C dX12_holds_97 rfl ?_
    refine g_imul C dX12_holds_98 ?_
    refine g_iload_n C dX12_holds_99 rfl ?_
    refine g_iadd C dX12_holds_100 ?_
    obtain ⟨x9, qx9, h⟩ := bnd h
    refine g_iald C dX12_holds_101 rfl rfl qx9 (iwr _) (fun ix9 => ?_)
    refine g_iconst C dX12_holds_102 ?_
    refine g_icmp_eq C dX12_holds_103 ix9 (by decide) rfl (tgt := 110) (fun c10 => ?_) (fun c10 => ?_)
    · have h := ifT c10 h
      refine g_iconst C dX12_holds_110 ?_
      exact g_zretU C dX12_holds_111 hr hlk h (Or.inl rfl)
    · have h := ifF c10 h
      refine g_iconst C dX12_holds_106 ?_
      refine g_goto C dX12_holds_107 rfl (tgt := 111) ?_
      exact g_zretU C dX12_holds_111 hr hlk h (Or.inr rfl)
  have h := ifF c8 h
  by_cases c11 : a2 = 3
  · have h := ifT c11 h
    refine g_tabI C dX12_holds_9 ia2 (by rw [c11]; decide) (by rw [c11]; decide) (by rw [c11] <;> rfl) rfl (tgt := 112) ?_
    refine g_aload_n C dX12_holds_112 rfl ?_
    refine g_getR (j := 52) C dX12_holds_113 rfl (Nat.le_of_ble_eq_true rfl) (Nat.le_of_ble_eq_true rfl) fl_12_122 rfl rfl (r := 204) rfl ?_
    refine g_iload_n C dX12_holds_116 rfl ?_
    obtain ⟨x12, qx12, h⟩ := bnd h
    refine g_iald C dX12_holds_117 rfl rfl qx12 ia1 (fun ix12 => ?_)
    refine g_iload_n C dX12_holds_118 rfl ?_
    refine g_ishr C dX12_holds_119 ?_
    refine g_iconst C dX12_holds_120 ?_
    refine g_iand C dX12_holds_121 ?_
    refine g_iconst C dX12_holds_122 ?_
    refine g_icmp_ne C dX12_holds_123 (iand _ _) (by decide) rfl (tgt := 130) (fun c13 => ?_) (fun c13 => ?_)
    · have h := ifF c13 h
      refine g_iconst C dX12_holds_130 ?_
      exact g_zretU C dX12_holds_131 hr hlk h (Or.inl rfl)
    · have h := ifT c13 h
      refine g_iconst C dX12_holds_126 ?_
      refine g_goto C dX12_holds_127 rfl (tgt := 131) ?_
      exact g_zretU C dX12_holds_131 hr hlk h (Or.inr rfl)
  have h := ifF c11 h
  by_cases c14 : a2 = 4
  · have h := ifT c14 h
    refine g_tabI C dX12_holds_9 ia2 (by rw [c14]; decide) (by rw [c14]; decide) (by rw [c14] <;> rfl) rfl (tgt := 132) ?_
    refine g_iload_n C dX12_holds_132 rfl ?_
    refine g_aload_n C dX12_holds_133 rfl ?_
    refine g_getI (j := 35) C dX12_holds_134 rfl (Nat.le_of_ble_eq_true rfl) (Nat.le_of_ble_eq_true rfl) fl_12_333 rfl rfl (fun i15 => ?_)
    refine g_icmp_ge C dX12_holds_137 ia3 i15 rfl (tgt := 157) (fun c16 => ?_) (fun c16 => ?_)
    · have h := ifT c16 h
      refine g_iconst C dX12_holds_157 ?_
      exact g_zretU C dX12_holds_158 hr hlk h (Or.inl rfl)
    · have h := ifF c16 h
      refine g_aload_n C dX12_holds_140 rfl ?_
      refine g_iload_n C dX12_holds_141 rfl ?_
      obtain ⟨x17, qx17, h⟩ := bnd h
      refine g_callV1 (As := [iv a3]) C dX12_holds_142 mi_X12_placeNow ml_12_380 (ct_X12_placeNow ia3 qx17) rfl rfl ⟨rfl, rfl⟩ ⟨Nat.le_of_ble_eq_true rfl, Nat.le_of_ble_eq_true rfl⟩ ⟨Nat.zero_le _, Nat.zero_le _⟩ rfl (Nat.le_of_ble_eq_true rfl) (fun ix17 => ?_)
      refine g_aload_n C dX12_holds_145 rfl ?_
      refine g_iload_n C dX12_holds_146 rfl ?_
      obtain ⟨x18, qx18, h⟩ := bnd h
      refine g_callV1 (As := [iv a1]) C dX12_holds_147 mi_X12_placeNow ml_12_380 (ct_X12_placeNow ia1 qx18) rfl rfl ⟨rfl, rfl⟩ ⟨Nat.le_of_ble_eq_true rfl, Nat.le_of_ble_eq_true rfl⟩ ⟨Nat.zero_le _, Nat.zero_le _⟩ rfl (Nat.le_of_ble_eq_true rfl) (fun ix18 => ?_)
      refine g_icmp_ne C dX12_holds_150 ix17 ix18 rfl (tgt := 157) (fun c19 => ?_) (fun c19 => ?_)
      · have h := ifF c19 h
        refine g_iconst C dX12_holds_157 ?_
        exact g_zretU C dX12_holds_158 hr hlk h (Or.inl rfl)
      · have h := ifT c19 h
        refine g_iconst C dX12_holds_153 ?_
        refine g_goto C dX12_holds_154 rfl (tgt := 158) ?_
        exact g_zretU C dX12_holds_158 hr hlk h (Or.inr rfl)
  have h := ifF c14 h
  by_cases c20 : a2 = 5
  · have h := ifT c20 h
    refine g_tabI C dX12_holds_9 ia2 (by rw [c20]; decide) (by rw [c20]; decide) (by rw [c20] <;> rfl) rfl (tgt := 159) ?_
    refine g_aload_n C dX12_holds_159 rfl ?_
    refine g_getI (j := 71) C dX12_holds_160 rfl (Nat.le_of_ble_eq_true rfl) (Nat.le_of_ble_eq_true rfl) fl_12_365 rfl rfl (fun i21 => ?_)
    refine g_iload_n C dX12_holds_163 rfl ?_
    refine g_icmp_lt C dX12_holds_164 i21 ia3 rfl (tgt := 171) (fun c22 => ?_) (fun c22 => ?_)
    · have h := ifT c22 h
      refine g_iconst C dX12_holds_171 ?_
      exact g_zretU C dX12_holds_172 hr hlk h (Or.inl rfl)
    · have h := ifF c22 h
      refine g_iconst C dX12_holds_167 ?_
      refine g_goto C dX12_holds_168 rfl (tgt := 172) ?_
      exact g_zretU C dX12_holds_172 hr hlk h (Or.inr rfl)
  have h := ifF c20 h
  refine g_tabO C dX12_holds_9 ia2 (by omega) rfl (tgt := 173) ?_
  refine g_aload_n C dX12_holds_173 rfl ?_
  refine g_getR (j := 47) C dX12_holds_174 rfl (Nat.le_of_ble_eq_true rfl) (Nat.le_of_ble_eq_true rfl) fl_12_106 rfl rfl (r := 200) rfl ?_
  refine g_bipush C dX12_holds_177 rfl ?_
  refine g_iload C dX12_holds_179 rfl ?_
  refine g_imul C dX12_holds_181 ?_
  refine g_aload_n C dX12_holds_182 rfl ?_
  refine g_getI (j := 71) C dX12_holds_183 rfl (Nat.le_of_ble_eq_true rfl) (Nat.le_of_ble_eq_true rfl) fl_12_365 rfl rfl (fun i23 => ?_)
  refine g_iadd C dX12_holds_186 ?_
  obtain ⟨x24, qx24, h⟩ := bnd h
  refine g_zald C dX12_holds_187 rfl rfl qx24 (iwr _) (fun ix24 => ?_)
  exact g_zretU C dX12_holds_188 hr hlk h ix24
theorem dX12_deed_0 : decode cX12_deed 0 = .ok (.aload_n 0, 1) := by decide +kernel
theorem dX12_deed_1 : decode cX12_deed 1 = .ok (.getfield 146, 3) := by decide +kernel
theorem dX12_deed_4 : decode cX12_deed 4 = .ok (.iload_n 1, 1) := by decide +kernel
theorem dX12_deed_5 : decode cX12_deed 5 = .ok (.iaload, 1) := by decide +kernel
theorem dX12_deed_6 : decode cX12_deed 6 = .ok (.istore_n 2, 1) := by decide +kernel
theorem dX12_deed_7 : decode cX12_deed 7 = .ok (.aload_n 0, 1) := by decide +kernel
theorem dX12_deed_8 : decode cX12_deed 8 = .ok (.getfield 52, 3) := by decide +kernel
theorem dX12_deed_11 : decode cX12_deed 11 = .ok (.iload_n 2, 1) := by decide +kernel
theorem dX12_deed_12 : decode cX12_deed 12 = .ok (.iaload, 1) := by decide +kernel
theorem dX12_deed_13 : decode cX12_deed 13 = .ok (.istore_n 3, 1) := by decide +kernel
theorem dX12_deed_14 : decode cX12_deed 14 = .ok (.aload_n 0, 1) := by decide +kernel
theorem dX12_deed_15 : decode cX12_deed 15 = .ok (.getfield 149, 3) := by decide +kernel
theorem dX12_deed_18 : decode cX12_deed 18 = .ok (.iload_n 1, 1) := by decide +kernel
theorem dX12_deed_19 : decode cX12_deed 19 = .ok (.iaload, 1) := by decide +kernel
theorem dX12_deed_20 : decode cX12_deed 20 = .ok (.istore 4, 2) := by decide +kernel
theorem dX12_deed_22 : decode cX12_deed 22 = .ok (.aload_n 0, 1) := by decide +kernel
theorem dX12_deed_23 : decode cX12_deed 23 = .ok (.getfield 146, 3) := by decide +kernel
theorem dX12_deed_26 : decode cX12_deed 26 = .ok (.iload_n 1, 1) := by decide +kernel
theorem dX12_deed_27 : decode cX12_deed 27 = .ok (.dup2, 1) := by decide +kernel
theorem dX12_deed_28 : decode cX12_deed 28 = .ok (.iaload, 1) := by decide +kernel
theorem dX12_deed_29 : decode cX12_deed 29 = .ok (.iconst 1, 1) := by decide +kernel
theorem dX12_deed_30 : decode cX12_deed 30 = .ok (.iadd, 1) := by decide +kernel
theorem dX12_deed_31 : decode cX12_deed 31 = .ok (.iastore, 1) := by decide +kernel
theorem dX12_deed_32 : decode cX12_deed 32 = .ok (.aload_n 0, 1) := by decide +kernel
theorem dX12_deed_33 : decode cX12_deed 33 = .ok (.getfield 49, 3) := by decide +kernel
theorem dX12_deed_36 : decode cX12_deed 36 = .ok (.iload_n 2, 1) := by decide +kernel
theorem dX12_deed_37 : decode cX12_deed 37 = .ok (.iaload, 1) := by decide +kernel
theorem dX12_deed_38 : decode cX12_deed 38 = .ok (.tableswitch 494 0 14 #[74, 120, 120, 167, 181, 197, 225, 267, 322, 337, 344, 362, 395, 422, 452], 74) := by decide +kernel
theorem dX12_deed_112 : decode cX12_deed 112 = .ok (.iload_n 3, 1) := by decide +kernel
theorem dX12_deed_113 : decode cX12_deed 113 = .ok (.aload_n 0, 1) := by decide +kernel
theorem dX12_deed_114 : decode cX12_deed 114 = .ok (.getfield 330, 3) := by decide +kernel
theorem dX12_deed_117 : decode cX12_deed 117 = .ok (.if_icmp .ge 27, 3) := by decide +kernel
theorem dX12_deed_120 : decode cX12_deed 120 = .ok (.iload_n 3, 1) := by decide +kernel
theorem dX12_deed_121 : decode cX12_deed 121 = .ok (.iload 4, 2) := by decide +kernel
theorem dX12_deed_123 : decode cX12_deed 123 = .ok (.if_icmp .eq 21, 3) := by decide +kernel
theorem dX12_deed_126 : decode cX12_deed 126 = .ok (.aload_n 0, 1) := by decide +kernel
theorem dX12_deed_127 : decode cX12_deed 127 = .ok (.getfield 88, 3) := by decide +kernel
theorem dX12_deed_130 : decode cX12_deed 130 = .ok (.bipush 10, 2) := by decide +kernel
theorem dX12_deed_132 : decode cX12_deed 132 = .ok (.iload 4, 2) := by decide +kernel
theorem dX12_deed_134 : decode cX12_deed 134 = .ok (.imul, 1) := by decide +kernel
theorem dX12_deed_135 : decode cX12_deed 135 = .ok (.iload_n 3, 1) := by decide +kernel
theorem dX12_deed_136 : decode cX12_deed 136 = .ok (.iadd, 1) := by decide +kernel
theorem dX12_deed_137 : decode cX12_deed 137 = .ok (.iaload, 1) := by decide +kernel
theorem dX12_deed_138 : decode cX12_deed 138 = .ok (.sipush 1000, 3) := by decide +kernel
theorem dX12_deed_141 : decode cX12_deed 141 = .ok (.if_icmp .lt 4, 3) := by decide +kernel
theorem dX12_deed_144 : decode cX12_deed 144 = .ok (.return_, 1) := by decide +kernel
theorem dX12_deed_145 : decode cX12_deed 145 = .ok (.aload_n 0, 1) := by decide +kernel
theorem dX12_deed_146 : decode cX12_deed 146 = .ok (.getfield 155, 3) := by decide +kernel
theorem dX12_deed_149 : decode cX12_deed 149 = .ok (.iload_n 1, 1) := by decide +kernel
theorem dX12_deed_150 : decode cX12_deed 150 = .ok (.iload_n 3, 1) := by decide +kernel
theorem dX12_deed_151 : decode cX12_deed 151 = .ok (.iastore, 1) := by decide +kernel
theorem dX12_deed_152 : decode cX12_deed 152 = .ok (.aload_n 0, 1) := by decide +kernel
theorem dX12_deed_153 : decode cX12_deed 153 = .ok (.iload_n 1, 1) := by decide +kernel
theorem dX12_deed_154 : decode cX12_deed 154 = .ok (.invokevirtual 390, 3) := by decide +kernel
theorem dX12_deed_157 : decode cX12_deed 157 = .ok (.return_, 1) := by decide +kernel
theorem dX12_deed_158 : decode cX12_deed 158 = .ok (.aload_n 0, 1) := by decide +kernel
theorem dX12_deed_159 : decode cX12_deed 159 = .ok (.getfield 158, 3) := by decide +kernel
theorem dX12_deed_162 : decode cX12_deed 162 = .ok (.iload_n 1, 1) := by decide +kernel
theorem dX12_deed_163 : decode cX12_deed 163 = .ok (.aload_n 0, 1) := by decide +kernel
theorem dX12_deed_164 : decode cX12_deed 164 = .ok (.getfield 49, 3) := by decide +kernel
theorem dX12_deed_167 : decode cX12_deed 167 = .ok (.iload_n 2, 1) := by decide +kernel
theorem dX12_deed_168 : decode cX12_deed 168 = .ok (.iaload, 1) := by decide +kernel
theorem dX12_deed_169 : decode cX12_deed 169 = .ok (.iconst 1, 1) := by decide +kernel
theorem dX12_deed_170 : decode cX12_deed 170 = .ok (.if_icmp .ne 12, 3) := by decide +kernel
theorem dX12_deed_173 : decode cX12_deed 173 = .ok (.aload_n 0, 1) := by decide +kernel
theorem dX12_deed_174 : decode cX12_deed 174 = .ok (.getfield 365, 3) := by decide +kernel
theorem dX12_deed_177 : decode cX12_deed 177 = .ok (.iload_n 3, 1) := by decide +kernel
theorem dX12_deed_178 : decode cX12_deed 178 = .ok (.iadd, 1) := by decide +kernel
theorem dX12_deed_179 : decode cX12_deed 179 = .ok (.goto 4, 3) := by decide +kernel
theorem dX12_deed_182 : decode cX12_deed 182 = .ok (.iload_n 3, 1) := by decide +kernel
theorem dX12_deed_183 : decode cX12_deed 183 = .ok (.iastore, 1) := by decide +kernel
theorem dX12_deed_184 : decode cX12_deed 184 = .ok (.aload_n 0, 1) := by decide +kernel
theorem dX12_deed_185 : decode cX12_deed 185 = .ok (.getfield 158, 3) := by decide +kernel
theorem dX12_deed_188 : decode cX12_deed 188 = .ok (.iload_n 1, 1) := by decide +kernel
theorem dX12_deed_189 : decode cX12_deed 189 = .ok (.iaload, 1) := by decide +kernel
theorem dX12_deed_190 : decode cX12_deed 190 = .ok (.aload_n 0, 1) := by decide +kernel
theorem dX12_deed_191 : decode cX12_deed 191 = .ok (.getfield 365, 3) := by decide +kernel
theorem dX12_deed_194 : decode cX12_deed 194 = .ok (.if_icmp .le 10, 3) := by decide +kernel
theorem dX12_deed_197 : decode cX12_deed 197 = .ok (.aload_n 0, 1) := by decide +kernel
theorem dX12_deed_198 : decode cX12_deed 198 = .ok (.getfield 143, 3) := by decide +kernel
theorem dX12_deed_201 : decode cX12_deed 201 = .ok (.iload_n 1, 1) := by decide +kernel
theorem dX12_deed_202 : decode cX12_deed 202 = .ok (.iconst 1, 1) := by decide +kernel
theorem dX12_deed_203 : decode cX12_deed 203 = .ok (.iastore, 1) := by decide +kernel
theorem dX12_deed_204 : decode cX12_deed 204 = .ok (.return_, 1) := by decide +kernel
theorem dX12_deed_205 : decode cX12_deed 205 = .ok (.aload_n 0, 1) := by decide +kernel
theorem dX12_deed_206 : decode cX12_deed 206 = .ok (.getfield 125, 3) := by decide +kernel
theorem dX12_deed_209 : decode cX12_deed 209 = .ok (.iload 4, 2) := by decide +kernel
theorem dX12_deed_211 : decode cX12_deed 211 = .ok (.dup2, 1) := by decide +kernel
theorem dX12_deed_212 : decode cX12_deed 212 = .ok (.iaload, 1) := by decide +kernel
theorem dX12_deed_213 : decode cX12_deed 213 = .ok (.iconst 1, 1) := by decide +kernel
theorem dX12_deed_214 : decode cX12_deed 214 = .ok (.iload_n 3, 1) := by decide +kernel
theorem dX12_deed_215 : decode cX12_deed 215 = .ok (.ishl, 1) := by decide +kernel
theorem dX12_deed_216 : decode cX12_deed 216 = .ok (.ior, 1) := by decide +kernel
theorem dX12_deed_217 : decode cX12_deed 217 = .ok (.iastore, 1) := by decide +kernel
theorem dX12_deed_218 : decode cX12_deed 218 = .ok (.return_, 1) := by decide +kernel
theorem dX12_deed_219 : decode cX12_deed 219 = .ok (.aload_n 0, 1) := by decide +kernel
theorem dX12_deed_220 : decode cX12_deed 220 = .ok (.getfield 125, 3) := by decide +kernel
theorem dX12_deed_223 : decode cX12_deed 223 = .ok (.iload 4, 2) := by decide +kernel
theorem dX12_deed_225 : decode cX12_deed 225 = .ok (.dup2, 1) := by decide +kernel
theorem dX12_deed_226 : decode cX12_deed 226 = .ok (.iaload, 1) := by decide +kernel
theorem dX12_deed_227 : decode cX12_deed 227 = .ok (.iconst 1, 1) := by decide +kernel
theorem dX12_deed_228 : decode cX12_deed 228 = .ok (.iload_n 3, 1) := by decide +kernel
theorem dX12_deed_229 : decode cX12_deed 229 = .ok (.ishl, 1) := by decide +kernel
theorem dX12_deed_230 : decode cX12_deed 230 = .ok (.iconst (-1), 1) := by decide +kernel
theorem dX12_deed_231 : decode cX12_deed 231 = .ok (.ixor, 1) := by decide +kernel
theorem dX12_deed_232 : decode cX12_deed 232 = .ok (.iand, 1) := by decide +kernel
theorem dX12_deed_233 : decode cX12_deed 233 = .ok (.iastore, 1) := by decide +kernel
theorem dX12_deed_234 : decode cX12_deed 234 = .ok (.return_, 1) := by decide +kernel
theorem dX12_deed_235 : decode cX12_deed 235 = .ok (.aload_n 0, 1) := by decide +kernel
theorem dX12_deed_236 : decode cX12_deed 236 = .ok (.getfield 116, 3) := by decide +kernel
theorem dX12_deed_239 : decode cX12_deed 239 = .ok (.bipush 8, 2) := by decide +kernel
theorem dX12_deed_241 : decode cX12_deed 241 = .ok (.iload_n 1, 1) := by decide +kernel
theorem dX12_deed_242 : decode cX12_deed 242 = .ok (.imul, 1) := by decide +kernel
theorem dX12_deed_243 : decode cX12_deed 243 = .ok (.iload_n 3, 1) := by decide +kernel
theorem dX12_deed_244 : decode cX12_deed 244 = .ok (.iadd, 1) := by decide +kernel
theorem dX12_deed_245 : decode cX12_deed 245 = .ok (.iaload, 1) := by decide +kernel
theorem dX12_deed_246 : decode cX12_deed 246 = .ok (.iconst (-1), 1) := by decide +kernel
theorem dX12_deed_247 : decode cX12_deed 247 = .ok (.if_icmp .eq 15, 3) := by decide +kernel
theorem dX12_deed_250 : decode cX12_deed 250 = .ok (.aload_n 0, 1) := by decide +kernel
theorem dX12_deed_251 : decode cX12_deed 251 = .ok (.getfield 122, 3) := by decide +kernel
theorem dX12_deed_254 : decode cX12_deed 254 = .ok (.iload_n 1, 1) := by decide +kernel
theorem dX12_deed_255 : decode cX12_deed 255 = .ok (.dup2, 1) := by decide +kernel
theorem dX12_deed_256 : decode cX12_deed 256 = .ok (.iaload, 1) := by decide +kernel
theorem dX12_deed_257 : decode cX12_deed 257 = .ok (.iconst 1, 1) := by decide +kernel
theorem dX12_deed_258 : decode cX12_deed 258 = .ok (.iload_n 3, 1) := by decide +kernel
theorem dX12_deed_259 : decode cX12_deed 259 = .ok (.ishl, 1) := by decide +kernel
theorem dX12_deed_260 : decode cX12_deed 260 = .ok (.ior, 1) := by decide +kernel
theorem dX12_deed_261 : decode cX12_deed 261 = .ok (.iastore, 1) := by decide +kernel
theorem dX12_deed_262 : decode cX12_deed 262 = .ok (.return_, 1) := by decide +kernel
theorem dX12_deed_263 : decode cX12_deed 263 = .ok (.aload_n 0, 1) := by decide +kernel
theorem dX12_deed_264 : decode cX12_deed 264 = .ok (.getfield 122, 3) := by decide +kernel
theorem dX12_deed_267 : decode cX12_deed 267 = .ok (.iload_n 1, 1) := by decide +kernel
theorem dX12_deed_268 : decode cX12_deed 268 = .ok (.iaload, 1) := by decide +kernel
theorem dX12_deed_269 : decode cX12_deed 269 = .ok (.iload_n 3, 1) := by decide +kernel
theorem dX12_deed_270 : decode cX12_deed 270 = .ok (.ishr, 1) := by decide +kernel
theorem dX12_deed_271 : decode cX12_deed 271 = .ok (.iconst 1, 1) := by decide +kernel
theorem dX12_deed_272 : decode cX12_deed 272 = .ok (.iand, 1) := by decide +kernel
theorem dX12_deed_273 : decode cX12_deed 273 = .ok (.ifCond .ne 4, 3) := by decide +kernel
theorem dX12_deed_276 : decode cX12_deed 276 = .ok (.return_, 1) := by decide +kernel
theorem dX12_deed_277 : decode cX12_deed 277 = .ok (.aload_n 0, 1) := by decide +kernel
theorem dX12_deed_278 : decode cX12_deed 278 = .ok (.getfield 122, 3) := by decide +kernel
theorem dX12_deed_281 : decode cX12_deed 281 = .ok (.iload_n 1, 1) := by decide +kernel
theorem dX12_deed_282 : decode cX12_deed 282 = .ok (.dup2, 1) := by decide +kernel
theorem dX12_deed_283 : decode cX12_deed 283 = .ok (.iaload, 1) := by decide +kernel
theorem dX12_deed_284 : decode cX12_deed 284 = .ok (.iconst 1, 1) := by decide +kernel
theorem dX12_deed_285 : decode cX12_deed 285 = .ok (.iload_n 3, 1) := by decide +kernel
theorem dX12_deed_286 : decode cX12_deed 286 = .ok (.ishl, 1) := by decide +kernel
theorem dX12_deed_287 : decode cX12_deed 287 = .ok (.iconst (-1), 1) := by decide +kernel
theorem dX12_deed_288 : decode cX12_deed 288 = .ok (.ixor, 1) := by decide +kernel
theorem dX12_deed_289 : decode cX12_deed 289 = .ok (.iand, 1) := by decide +kernel
theorem dX12_deed_290 : decode cX12_deed 290 = .ok (.iastore, 1) := by decide +kernel
theorem dX12_deed_291 : decode cX12_deed 291 = .ok (.aload_n 0, 1) := by decide +kernel
theorem dX12_deed_292 : decode cX12_deed 292 = .ok (.getfield 128, 3) := by decide +kernel
theorem dX12_deed_295 : decode cX12_deed 295 = .ok (.bipush 8, 2) := by decide +kernel
theorem dX12_deed_297 : decode cX12_deed 297 = .ok (.iload 4, 2) := by decide +kernel
theorem dX12_deed_299 : decode cX12_deed 299 = .ok (.imul, 1) := by decide +kernel
theorem dX12_deed_300 : decode cX12_deed 300 = .ok (.iload_n 3, 1) := by decide +kernel
theorem dX12_deed_301 : decode cX12_deed 301 = .ok (.iadd, 1) := by decide +kernel
theorem dX12_deed_302 : decode cX12_deed 302 = .ok (.iload_n 1, 1) := by decide +kernel
theorem dX12_deed_303 : decode cX12_deed 303 = .ok (.iastore, 1) := by decide +kernel
theorem dX12_deed_304 : decode cX12_deed 304 = .ok (.return_, 1) := by decide +kernel
theorem dX12_deed_305 : decode cX12_deed 305 = .ok (.aload_n 0, 1) := by decide +kernel
theorem dX12_deed_306 : decode cX12_deed 306 = .ok (.getfield 128, 3) := by decide +kernel
theorem dX12_deed_309 : decode cX12_deed 309 = .ok (.bipush 8, 2) := by decide +kernel
theorem dX12_deed_311 : decode cX12_deed 311 = .ok (.iload 4, 2) := by decide +kernel
theorem dX12_deed_313 : decode cX12_deed 313 = .ok (.imul, 1) := by decide +kernel
theorem dX12_deed_314 : decode cX12_deed 314 = .ok (.iload_n 3, 1) := by decide +kernel
theorem dX12_deed_315 : decode cX12_deed 315 = .ok (.iadd, 1) := by decide +kernel
theorem dX12_deed_316 : decode cX12_deed 316 = .ok (.iaload, 1) := by decide +kernel
theorem dX12_deed_317 : decode cX12_deed 317 = .ok (.istore 5, 2) := by decide +kernel
theorem dX12_deed_319 : decode cX12_deed 319 = .ok (.iload 5, 2) := by decide +kernel
theorem dX12_deed_321 : decode cX12_deed 321 = .ok (.iconst (-1), 1) := by decide +kernel
theorem dX12_deed_322 : decode cX12_deed 322 = .ok (.if_icmp .ne 4, 3) := by decide +kernel
theorem dX12_deed_325 : decode cX12_deed 325 = .ok (.return_, 1) := by decide +kernel
theorem dX12_deed_326 : decode cX12_deed 326 = .ok (.aload_n 0, 1) := by decide +kernel
theorem dX12_deed_327 : decode cX12_deed 327 = .ok (.getfield 128, 3) := by decide +kernel
theorem dX12_deed_330 : decode cX12_deed 330 = .ok (.bipush 8, 2) := by decide +kernel
theorem dX12_deed_332 : decode cX12_deed 332 = .ok (.iload 4, 2) := by decide +kernel
theorem dX12_deed_334 : decode cX12_deed 334 = .ok (.imul, 1) := by decide +kernel
theorem dX12_deed_335 : decode cX12_deed 335 = .ok (.iload_n 3, 1) := by decide +kernel
theorem dX12_deed_336 : decode cX12_deed 336 = .ok (.iadd, 1) := by decide +kernel
theorem dX12_deed_337 : decode cX12_deed 337 = .ok (.iconst (-1), 1) := by decide +kernel
theorem dX12_deed_338 : decode cX12_deed 338 = .ok (.iastore, 1) := by decide +kernel
theorem dX12_deed_339 : decode cX12_deed 339 = .ok (.aload_n 0, 1) := by decide +kernel
theorem dX12_deed_340 : decode cX12_deed 340 = .ok (.getfield 122, 3) := by decide +kernel
theorem dX12_deed_343 : decode cX12_deed 343 = .ok (.iload_n 1, 1) := by decide +kernel
theorem dX12_deed_344 : decode cX12_deed 344 = .ok (.dup2, 1) := by decide +kernel
theorem dX12_deed_345 : decode cX12_deed 345 = .ok (.iaload, 1) := by decide +kernel
theorem dX12_deed_346 : decode cX12_deed 346 = .ok (.iconst 1, 1) := by decide +kernel
theorem dX12_deed_347 : decode cX12_deed 347 = .ok (.iload_n 3, 1) := by decide +kernel
theorem dX12_deed_348 : decode cX12_deed 348 = .ok (.ishl, 1) := by decide +kernel
theorem dX12_deed_349 : decode cX12_deed 349 = .ok (.ior, 1) := by decide +kernel
theorem dX12_deed_350 : decode cX12_deed 350 = .ok (.iastore, 1) := by decide +kernel
theorem dX12_deed_351 : decode cX12_deed 351 = .ok (.aload_n 0, 1) := by decide +kernel
theorem dX12_deed_352 : decode cX12_deed 352 = .ok (.iload_n 1, 1) := by decide +kernel
theorem dX12_deed_353 : decode cX12_deed 353 = .ok (.iload_n 3, 1) := by decide +kernel
theorem dX12_deed_354 : decode cX12_deed 354 = .ok (.iload 5, 2) := by decide +kernel
theorem dX12_deed_356 : decode cX12_deed 356 = .ok (.invokevirtual 409, 3) := by decide +kernel
theorem dX12_deed_359 : decode cX12_deed 359 = .ok (.return_, 1) := by decide +kernel
theorem dX12_deed_360 : decode cX12_deed 360 = .ok (.aload_n 0, 1) := by decide +kernel
theorem dX12_deed_361 : decode cX12_deed 361 = .ok (.getfield 122, 3) := by decide +kernel
theorem dX12_deed_364 : decode cX12_deed 364 = .ok (.iload_n 1, 1) := by decide +kernel
theorem dX12_deed_365 : decode cX12_deed 365 = .ok (.dup2, 1) := by decide +kernel
theorem dX12_deed_366 : decode cX12_deed 366 = .ok (.iaload, 1) := by decide +kernel
theorem dX12_deed_367 : decode cX12_deed 367 = .ok (.iconst 1, 1) := by decide +kernel
theorem dX12_deed_368 : decode cX12_deed 368 = .ok (.iload_n 3, 1) := by decide +kernel
theorem dX12_deed_369 : decode cX12_deed 369 = .ok (.ishl, 1) := by decide +kernel
theorem dX12_deed_370 : decode cX12_deed 370 = .ok (.iconst (-1), 1) := by decide +kernel
theorem dX12_deed_371 : decode cX12_deed 371 = .ok (.ixor, 1) := by decide +kernel
theorem dX12_deed_372 : decode cX12_deed 372 = .ok (.iand, 1) := by decide +kernel
theorem dX12_deed_373 : decode cX12_deed 373 = .ok (.iastore, 1) := by decide +kernel
theorem dX12_deed_374 : decode cX12_deed 374 = .ok (.return_, 1) := by decide +kernel
theorem dX12_deed_375 : decode cX12_deed 375 = .ok (.aload_n 0, 1) := by decide +kernel
theorem dX12_deed_376 : decode cX12_deed 376 = .ok (.iload_n 1, 1) := by decide +kernel
theorem dX12_deed_377 : decode cX12_deed 377 = .ok (.iload_n 3, 1) := by decide +kernel
theorem dX12_deed_378 : decode cX12_deed 378 = .ok (.invokevirtual 412, 3) := by decide +kernel
theorem dX12_deed_381 : decode cX12_deed 381 = .ok (.return_, 1) := by decide +kernel
theorem dX12_deed_382 : decode cX12_deed 382 = .ok (.aload_n 0, 1) := by decide +kernel
theorem dX12_deed_383 : decode cX12_deed 383 = .ok (.getfield 143, 3) := by decide +kernel
theorem dX12_deed_386 : decode cX12_deed 386 = .ok (.iload_n 1, 1) := by decide +kernel
theorem dX12_deed_387 : decode cX12_deed 387 = .ok (.iconst 4, 1) := by decide +kernel
theorem dX12_deed_388 : decode cX12_deed 388 = .ok (.iastore, 1) := by decide +kernel
theorem dX12_deed_389 : decode cX12_deed 389 = .ok (.aload_n 0, 1) := by decide +kernel
theorem dX12_deed_390 : decode cX12_deed 390 = .ok (.getfield 134, 3) := by decide +kernel
theorem dX12_deed_393 : decode cX12_deed 393 = .ok (.iload_n 1, 1) := by decide +kernel
theorem dX12_deed_394 : decode cX12_deed 394 = .ok (.aload_n 0, 1) := by decide +kernel
theorem dX12_deed_395 : decode cX12_deed 395 = .ok (.getfield 365, 3) := by decide +kernel
theorem dX12_deed_398 : decode cX12_deed 398 = .ok (.iastore, 1) := by decide +kernel
theorem dX12_deed_399 : decode cX12_deed 399 = .ok (.return_, 1) := by decide +kernel
theorem dX12_deed_400 : decode cX12_deed 400 = .ok (.aload_n 0, 1) := by decide +kernel
theorem dX12_deed_401 : decode cX12_deed 401 = .ok (.iload_n 1, 1) := by decide +kernel
theorem dX12_deed_402 : decode cX12_deed 402 = .ok (.iconst 0, 1) := by decide +kernel
theorem dX12_deed_403 : decode cX12_deed 403 = .ok (.aload_n 0, 1) := by decide +kernel
theorem dX12_deed_404 : decode cX12_deed 404 = .ok (.getfield 146, 3) := by decide +kernel
theorem dX12_deed_407 : decode cX12_deed 407 = .ok (.iload_n 1, 1) := by decide +kernel
theorem dX12_deed_408 : decode cX12_deed 408 = .ok (.iaload, 1) := by decide +kernel
theorem dX12_deed_409 : decode cX12_deed 409 = .ok (.invokevirtual 396, 3) := by decide +kernel
theorem dX12_deed_412 : decode cX12_deed 412 = .ok (.aload_n 0, 1) := by decide +kernel
theorem dX12_deed_413 : decode cX12_deed 413 = .ok (.getfield 146, 3) := by decide +kernel
theorem dX12_deed_416 : decode cX12_deed 416 = .ok (.iload_n 1, 1) := by decide +kernel
theorem dX12_deed_417 : decode cX12_deed 417 = .ok (.aload_n 0, 1) := by decide +kernel
theorem dX12_deed_418 : decode cX12_deed 418 = .ok (.getfield 46, 3) := by decide +kernel
theorem dX12_deed_421 : decode cX12_deed 421 = .ok (.bipush 8, 2) := by decide +kernel
theorem dX12_deed_423 : decode cX12_deed 423 = .ok (.aload_n 0, 1) := by decide +kernel
theorem dX12_deed_424 : decode cX12_deed 424 = .ok (.getfield 283, 3) := by decide +kernel
theorem dX12_deed_427 : decode cX12_deed 427 = .ok (.imul, 1) := by decide +kernel
theorem dX12_deed_428 : decode cX12_deed 428 = .ok (.iload_n 3, 1) := by decide +kernel
theorem dX12_deed_429 : decode cX12_deed 429 = .ok (.iadd, 1) := by decide +kernel
theorem dX12_deed_430 : decode cX12_deed 430 = .ok (.iaload, 1) := by decide +kernel
theorem dX12_deed_431 : decode cX12_deed 431 = .ok (.iastore, 1) := by decide +kernel
theorem dX12_deed_432 : decode cX12_deed 432 = .ok (.return_, 1) := by decide +kernel
theorem dX12_deed_433 : decode cX12_deed 433 = .ok (.iload_n 3, 1) := by decide +kernel
theorem dX12_deed_434 : decode cX12_deed 434 = .ok (.ifCond .ne 18, 3) := by decide +kernel
theorem dX12_deed_437 : decode cX12_deed 437 = .ok (.aload_n 0, 1) := by decide +kernel
theorem dX12_deed_438 : decode cX12_deed 438 = .ok (.getfield 146, 3) := by decide +kernel
theorem dX12_deed_441 : decode cX12_deed 441 = .ok (.iload_n 1, 1) := by decide +kernel
theorem dX12_deed_442 : decode cX12_deed 442 = .ok (.aload_n 0, 1) := by decide +kernel
theorem dX12_deed_443 : decode cX12_deed 443 = .ok (.getfield 58, 3) := by decide +kernel
theorem dX12_deed_446 : decode cX12_deed 446 = .ok (.iload_n 2, 1) := by decide +kernel
theorem dX12_deed_447 : decode cX12_deed 447 = .ok (.iaload, 1) := by decide +kernel
theorem dX12_deed_448 : decode cX12_deed 448 = .ok (.iastore, 1) := by decide +kernel
theorem dX12_deed_449 : decode cX12_deed 449 = .ok (.goto 10, 3) := by decide +kernel
theorem dX12_deed_452 : decode cX12_deed 452 = .ok (.aload_n 0, 1) := by decide +kernel
theorem dX12_deed_453 : decode cX12_deed 453 = .ok (.iload_n 1, 1) := by decide +kernel
theorem dX12_deed_454 : decode cX12_deed 454 = .ok (.iconst 1, 1) := by decide +kernel
theorem dX12_deed_455 : decode cX12_deed 455 = .ok (.iload_n 3, 1) := by decide +kernel
theorem dX12_deed_456 : decode cX12_deed 456 = .ok (.invokevirtual 396, 3) := by decide +kernel
theorem dX12_deed_459 : decode cX12_deed 459 = .ok (.return_, 1) := by decide +kernel
theorem dX12_deed_460 : decode cX12_deed 460 = .ok (.aload_n 0, 1) := by decide +kernel
theorem dX12_deed_461 : decode cX12_deed 461 = .ok (.getfield 170, 3) := by decide +kernel
theorem dX12_deed_464 : decode cX12_deed 464 = .ok (.bipush 64, 2) := by decide +kernel
theorem dX12_deed_466 : decode cX12_deed 466 = .ok (.iload_n 1, 1) := by decide +kernel
theorem dX12_deed_467 : decode cX12_deed 467 = .ok (.imul, 1) := by decide +kernel
theorem dX12_deed_468 : decode cX12_deed 468 = .ok (.aload_n 0, 1) := by decide +kernel
theorem dX12_deed_469 : decode cX12_deed 469 = .ok (.getfield 164, 3) := by decide +kernel
theorem dX12_deed_472 : decode cX12_deed 472 = .ok (.iload_n 1, 1) := by decide +kernel
theorem dX12_deed_473 : decode cX12_deed 473 = .ok (.iaload, 1) := by decide +kernel
theorem dX12_deed_474 : decode cX12_deed 474 = .ok (.iadd, 1) := by decide +kernel
theorem dX12_deed_475 : decode cX12_deed 475 = .ok (.iconst 1, 1) := by decide +kernel
theorem dX12_deed_476 : decode cX12_deed 476 = .ok (.isub, 1) := by decide +kernel
theorem dX12_deed_477 : decode cX12_deed 477 = .ok (.dup2, 1) := by decide +kernel
theorem dX12_deed_478 : decode cX12_deed 478 = .ok (.iaload, 1) := by decide +kernel
theorem dX12_deed_479 : decode cX12_deed 479 = .ok (.iconst 1, 1) := by decide +kernel
theorem dX12_deed_480 : decode cX12_deed 480 = .ok (.isub, 1) := by decide +kernel
theorem dX12_deed_481 : decode cX12_deed 481 = .ok (.iastore, 1) := by decide +kernel
theorem dX12_deed_482 : decode cX12_deed 482 = .ok (.aload_n 0, 1) := by decide +kernel
theorem dX12_deed_483 : decode cX12_deed 483 = .ok (.getfield 146, 3) := by decide +kernel
theorem dX12_deed_486 : decode cX12_deed 486 = .ok (.iload_n 1, 1) := by decide +kernel
theorem dX12_deed_487 : decode cX12_deed 487 = .ok (.iload_n 3, 1) := by decide +kernel
theorem dX12_deed_488 : decode cX12_deed 488 = .ok (.iastore, 1) := by decide +kernel
theorem dX12_deed_489 : decode cX12_deed 489 = .ok (.return_, 1) := by decide +kernel
theorem dX12_deed_490 : decode cX12_deed 490 = .ok (.aload_n 0, 1) := by decide +kernel
theorem dX12_deed_491 : decode cX12_deed 491 = .ok (.iload_n 1, 1) := by decide +kernel
theorem dX12_deed_492 : decode cX12_deed 492 = .ok (.iload_n 3, 1) := by decide +kernel
theorem dX12_deed_493 : decode cX12_deed 493 = .ok (.iconst 2, 1) := by decide +kernel
theorem dX12_deed_494 : decode cX12_deed 494 = .ok (.idiv, 1) := by decide +kernel
theorem dX12_deed_495 : decode cX12_deed 495 = .ok (.aload_n 0, 1) := by decide +kernel
theorem dX12_deed_496 : decode cX12_deed 496 = .ok (.getfield 55, 3) := by decide +kernel
theorem dX12_deed_499 : decode cX12_deed 499 = .ok (.iload_n 2, 1) := by decide +kernel
theorem dX12_deed_500 : decode cX12_deed 500 = .ok (.iaload, 1) := by decide +kernel
theorem dX12_deed_501 : decode cX12_deed 501 = .ok (.invokevirtual 415, 3) := by decide +kernel
theorem dX12_deed_504 : decode cX12_deed 504 = .ok (.iload_n 3, 1) := by decide +kernel
theorem dX12_deed_505 : decode cX12_deed 505 = .ok (.iconst 2, 1) := by decide +kernel
theorem dX12_deed_506 : decode cX12_deed 506 = .ok (.irem, 1) := by decide +kernel
theorem dX12_deed_507 : decode cX12_deed 507 = .ok (.iconst 1, 1) := by decide +kernel
theorem dX12_deed_508 : decode cX12_deed 508 = .ok (.if_icmp .ne 7, 3) := by decide +kernel
theorem dX12_deed_511 : decode cX12_deed 511 = .ok (.iconst 1, 1) := by decide +kernel
theorem dX12_deed_512 : decode cX12_deed 512 = .ok (.goto 4, 3) := by decide +kernel
theorem dX12_deed_515 : decode cX12_deed 515 = .ok (.iconst 0, 1) := by decide +kernel
theorem dX12_deed_516 : decode cX12_deed 516 = .ok (.if_icmp .ne 15, 3) := by decide +kernel
theorem dX12_deed_519 : decode cX12_deed 519 = .ok (.aload_n 0, 1) := by decide +kernel
theorem dX12_deed_520 : decode cX12_deed 520 = .ok (.getfield 146, 3) := by decide +kernel
theorem dX12_deed_523 : decode cX12_deed 523 = .ok (.iload_n 1, 1) := by decide +kernel
theorem dX12_deed_524 : decode cX12_deed 524 = .ok (.aload_n 0, 1) := by decide +kernel
theorem dX12_deed_525 : decode cX12_deed 525 = .ok (.getfield 58, 3) := by decide +kernel
theorem dX12_deed_528 : decode cX12_deed 528 = .ok (.iload_n 2, 1) := by decide +kernel
theorem dX12_deed_529 : decode cX12_deed 529 = .ok (.iaload, 1) := by decide +kernel
theorem dX12_deed_530 : decode cX12_deed 530 = .ok (.iastore, 1) := by decide +kernel
theorem dX12_deed_531 : decode cX12_deed 531 = .ok (.return_, 1) := by decide +kernel
theorem dX12_deed_532 : decode cX12_deed 532 = .ok (.aload_n 0, 1) := by decide +kernel
theorem dX12_deed_533 : decode cX12_deed 533 = .ok (.getfield 161, 3) := by decide +kernel
theorem dX12_deed_536 : decode cX12_deed 536 = .ok (.iload_n 1, 1) := by decide +kernel
theorem dX12_deed_537 : decode cX12_deed 537 = .ok (.iload_n 3, 1) := by decide +kernel
theorem dX12_deed_538 : decode cX12_deed 538 = .ok (.iastore, 1) := by decide +kernel
theorem dX12_deed_539 : decode cX12_deed 539 = .ok (.aload_n 0, 1) := by decide +kernel
theorem dX12_deed_540 : decode cX12_deed 540 = .ok (.getfield 158, 3) := by decide +kernel
theorem dX12_deed_543 : decode cX12_deed 543 = .ok (.iload_n 1, 1) := by decide +kernel
theorem dX12_deed_544 : decode cX12_deed 544 = .ok (.aload_n 0, 1) := by decide +kernel
theorem dX12_deed_545 : decode cX12_deed 545 = .ok (.getfield 365, 3) := by decide +kernel
theorem dX12_deed_548 : decode cX12_deed 548 = .ok (.aload_n 0, 1) := by decide +kernel
theorem dX12_deed_549 : decode cX12_deed 549 = .ok (.getfield 55, 3) := by decide +kernel
theorem dX12_deed_552 : decode cX12_deed 552 = .ok (.iload_n 2, 1) := by decide +kernel
theorem dX12_deed_553 : decode cX12_deed 553 = .ok (.iaload, 1) := by decide +kernel
theorem dX12_deed_554 : decode cX12_deed 554 = .ok (.iadd, 1) := by decide +kernel
theorem dX12_deed_555 : decode cX12_deed 555 = .ok (.iastore, 1) := by decide +kernel
theorem dX12_deed_556 : decode cX12_deed 556 = .ok (.aload_n 0, 1) := by decide +kernel
theorem dX12_deed_557 : decode cX12_deed 557 = .ok (.iload_n 1, 1) := by decide +kernel
theorem dX12_deed_558 : decode cX12_deed 558 = .ok (.iload_n 3, 1) := by decide +kernel
theorem dX12_deed_559 : decode cX12_deed 559 = .ok (.invokevirtual 393, 3) := by decide +kernel
theorem dX12_deed_562 : decode cX12_deed 562 = .ok (.ifCond .eq 13, 3) := by decide +kernel
theorem dX12_deed_565 : decode cX12_deed 565 = .ok (.aload_n 0, 1) := by decide +kernel
theorem dX12_deed_566 : decode cX12_deed 566 = .ok (.iload_n 1, 1) := by decide +kernel
theorem dX12_deed_567 : decode cX12_deed 567 = .ok (.iconst 2, 1) := by decide +kernel
theorem dX12_deed_568 : decode cX12_deed 568 = .ok (.iload_n 3, 1) := by decide +kernel
theorem dX12_deed_569 : decode cX12_deed 569 = .ok (.invokevirtual 396, 3) := by decide +kernel
theorem dX12_deed_572 : decode cX12_deed 572 = .ok (.goto 41, 3) := by decide +kernel
theorem dX12_deed_575 : decode cX12_deed 575 = .ok (.aload_n 0, 1) := by decide +kernel
theorem dX12_deed_576 : decode cX12_deed 576 = .ok (.getfield 55, 3) := by decide +kernel
theorem dX12_deed_579 : decode cX12_deed 579 = .ok (.iload_n 2, 1) := by decide +kernel
theorem dX12_deed_580 : decode cX12_deed 580 = .ok (.iaload, 1) := by decide +kernel
theorem dX12_deed_581 : decode cX12_deed 581 = .ok (.ifCond .ne 18, 3) := by decide +kernel
theorem dX12_deed_584 : decode cX12_deed 584 = .ok (.aload_n 0, 1) := by decide +kernel
theorem dX12_deed_585 : decode cX12_deed 585 = .ok (.getfield 146, 3) := by decide +kernel
theorem dX12_deed_588 : decode cX12_deed 588 = .ok (.iload_n 1, 1) := by decide +kernel
theorem dX12_deed_589 : decode cX12_deed 589 = .ok (.aload_n 0, 1) := by decide +kernel
theorem dX12_deed_590 : decode cX12_deed 590 = .ok (.getfield 58, 3) := by decide +kernel
theorem dX12_deed_593 : decode cX12_deed 593 = .ok (.iload_n 2, 1) := by decide +kernel
theorem dX12_deed_594 : decode cX12_deed 594 = .ok (.iaload, 1) := by decide +kernel
theorem dX12_deed_595 : decode cX12_deed 595 = .ok (.iastore, 1) := by decide +kernel
theorem dX12_deed_596 : decode cX12_deed 596 = .ok (.goto 17, 3) := by decide +kernel
theorem dX12_deed_599 : decode cX12_deed 599 = .ok (.aload_n 0, 1) := by decide +kernel
theorem dX12_deed_600 : decode cX12_deed 600 = .ok (.getfield 146, 3) := by decide +kernel
theorem dX12_deed_603 : decode cX12_deed 603 = .ok (.iload_n 1, 1) := by decide +kernel
theorem dX12_deed_604 : decode cX12_deed 604 = .ok (.iload_n 2, 1) := by decide +kernel
theorem dX12_deed_605 : decode cX12_deed 605 = .ok (.iastore, 1) := by decide +kernel
theorem dX12_deed_606 : decode cX12_deed 606 = .ok (.aload_n 0, 1) := by decide +kernel
theorem dX12_deed_607 : decode cX12_deed 607 = .ok (.getfield 143, 3) := by decide +kernel
theorem dX12_deed_610 : decode cX12_deed 610 = .ok (.iload_n 1, 1) := by decide +kernel
theorem dX12_deed_611 : decode cX12_deed 611 = .ok (.iconst 2, 1) := by decide +kernel
theorem dX12_deed_612 : decode cX12_deed 612 = .ok (.iastore, 1) := by decide +kernel
theorem dX12_deed_613 : decode cX12_deed 613 = .ok (.return_, 1) := by decide +kernel
abbrev rm_X12_deed : Room := { frames := 2, cells := 0, slots := 0, locals := 47 }
set_option maxRecDepth 100000 in
set_option maxHeartbeats 4000000 in
theorem ct_X12_deed {w : Wd} {l : Launch} {a1 : Int} {σ : St} {σ' : St} (ia1 : InI a1) (h : m_X12_deed a1 σ = some σ') : Ct w l yX12_deed (Cond.code yX12_deed cX12_deed 6 none :: TB) rm_X12_deed [rv w 170, iv a1] σ none True σ' := by
  refine Ct.of2 [some (rv w 170), some (iv a1), none, none, none, none] 4 rfl pn_RX12 (Nat.le_of_ble_eq_true rfl) ?_
  intro p e s m args below meth c C hr hlk
  unfold m_X12_deed at h
  refine g_aload_n C dX12_deed_0 rfl ?_
  refine g_getR (j := 62) C dX12_deed_1 rfl (Nat.le_of_ble_eq_true rfl) (Nat.le_of_ble_eq_true rfl) fl_12_146 rfl rfl (r := 212) rfl ?_
  refine g_iload_n C dX12_deed_4 rfl ?_
  obtain ⟨x1, qx1, h⟩ := bnd h
  refine g_iald C dX12_deed_5 rfl rfl qx1 ia1 (fun ix1 => ?_)
  refine g_istore_n (L1 := [some (rv w 170), some (iv a1), some (iv x1), none, none, none]) C dX12_deed_6 rfl (Nat.le_of_ble_eq_true rfl) rfl ?_
  refine g_aload_n C dX12_deed_7 rfl ?_
  refine g_getR (j := 24) C dX12_deed_8 rfl (Nat.le_of_ble_eq_true rfl) (Nat.le_of_ble_eq_true rfl) fl_12_52 rfl rfl (r := 182) rfl ?_
  refine g_iload_n C dX12_deed_11 rfl ?_
  obtain ⟨x2, qx2, h⟩ := bnd h
  refine g_iald C dX12_deed_12 rfl rfl qx2 ix1 (fun ix2 => ?_)
  refine g_istore_n (L1 := [some (rv w 170), some (iv a1), some (iv x1), some (iv x2), none, none]) C dX12_deed_13 rfl (Nat.le_of_ble_eq_true rfl) rfl ?_
  refine g_aload_n C dX12_deed_14 rfl ?_
  refine g_getR (j := 63) C dX12_deed_15 rfl (Nat.le_of_ble_eq_true rfl) (Nat.le_of_ble_eq_true rfl) fl_12_149 rfl rfl (r := 213) rfl ?_
  refine g_iload_n C dX12_deed_18 rfl ?_
  obtain ⟨x3, qx3, h⟩ := bnd h
  refine g_iald C dX12_deed_19 rfl rfl qx3 ia1 (fun ix3 => ?_)
  refine g_istore (L1 := [some (rv w 170), some (iv a1), some (iv x1), some (iv x2), some (iv x3), none]) C dX12_deed_20 rfl (Nat.le_of_ble_eq_true rfl) rfl ?_
  refine g_aload_n C dX12_deed_22 rfl ?_
  refine g_getR (j := 62) C dX12_deed_23 rfl (Nat.le_of_ble_eq_true rfl) (Nat.le_of_ble_eq_true rfl) fl_12_146 rfl rfl (r := 212) rfl ?_
  refine g_iload_n C dX12_deed_26 rfl ?_
  refine g_dup2 C dX12_deed_27 rfl rfl ?_
  obtain ⟨x4, qx4, h⟩ := bnd h
  refine g_iald C dX12_deed_28 rfl rfl qx4 ia1 (fun ix4 => ?_)
  refine g_iconst C dX12_deed_29 ?_
  refine g_iadd C dX12_deed_30 ?_
  obtain ⟨σ5, qσ5, h⟩ := bnd h
  refine g_iast C dX12_deed_31 rfl rfl qσ5 ia1 (iwr _) ?_
  refine g_aload_n C dX12_deed_32 rfl ?_
  refine g_getR (j := 23) C dX12_deed_33 rfl (Nat.le_of_ble_eq_true rfl) (Nat.le_of_ble_eq_true rfl) fl_12_49 rfl rfl (r := 181) rfl ?_
  refine g_iload_n C dX12_deed_36 rfl ?_
  obtain ⟨x6, qx6, h⟩ := bnd h
  refine g_iald C dX12_deed_37 rfl rfl qx6 ix1 (fun ix6 => ?_)
  have hJ158_101 : m_X12_deed_J158 σ5 x1 a1 x2 = some σ' → GM w p l e rm_X12_deed s m args below meth c none True σ' 6 158 [some (rv w 170), some (iv a1), some (iv x1), some (iv x2), none, none] [] σ5 := by
    intro h
    unfold m_X12_deed_J158 at h
    refine g_aload_n C dX12_deed_158 rfl ?_
    refine g_getR (j := 66) C dX12_deed_159 rfl (Nat.le_of_ble_eq_true rfl) (Nat.le_of_ble_eq_true rfl) fl_12_158 rfl rfl (r := 216) rfl ?_
    refine g_iload_n C dX12_deed_162 rfl ?_
    refine g_aload_n C dX12_deed_163 rfl ?_
    refine g_getR (j := 23) C dX12_deed_164 rfl (Nat.le_of_ble_eq_true rfl) (Nat.le_of_ble_eq_true rfl) fl_12_49 rfl rfl (r := 181) rfl ?_
    refine g_iload_n C dX12_deed_167 rfl ?_
    obtain ⟨x91, qx91, h⟩ := bnd h
    refine g_iald C dX12_deed_168 rfl rfl qx91 ix1 (fun ix91 => ?_)
    refine g_iconst C dX12_deed_169 ?_
    have hJ183_100 : ∀ (x94 : Int) , InI x94 → m_X12_deed_J183 σ5 a1 x94 = some σ' → GM w p l e rm_X12_deed s m args below meth c none True σ' 6 183 [some (rv w 170), some (iv a1), none, none, none, none] [iv x94, iv a1, rv w 216] σ5 := by
      intro x94 ix94 h
      unfold m_X12_deed_J183 at h
      obtain ⟨σ95, qσ95, h⟩ := bnd h
      refine g_iast C dX12_deed_183 rfl rfl qσ95 ia1 ix94 ?_
      refine g_aload_n C dX12_deed_184 rfl ?_
      refine g_getR (j := 66) C dX12_deed_185 rfl (Nat.le_of_ble_eq_true rfl) (Nat.le_of_ble_eq_true rfl) fl_12_158 rfl rfl (r := 216) rfl ?_
      refine g_iload_n C dX12_deed_188 rfl ?_
      obtain ⟨x96, qx96, h⟩ := bnd h
      refine g_iald C dX12_deed_189 rfl rfl qx96 ia1 (fun ix96 => ?_)
      refine g_aload_n C dX12_deed_190 rfl ?_
      refine g_getI (j := 71) C dX12_deed_191 rfl (Nat.le_of_ble_eq_true rfl) (Nat.le_of_ble_eq_true rfl) fl_12_365 rfl rfl (fun i97 => ?_)
      refine g_icmp_le C dX12_deed_194 ix96 i97 rfl (tgt := 204) (fun c98 => ?_) (fun c98 => ?_)
      · have h := ifT c98 h
        exact g_vretP C dX12_deed_204 hr hlk h
      · have h := ifF c98 h
        refine g_aload_n C dX12_deed_197 rfl ?_
        refine g_getR (j := 61) C dX12_deed_198 rfl (Nat.le_of_ble_eq_true rfl) (Nat.le_of_ble_eq_true rfl) fl_12_143 rfl rfl (r := 211) rfl ?_
        refine g_iload_n C dX12_deed_201 rfl ?_
        refine g_iconst C dX12_deed_202 ?_
        obtain ⟨σ99, qσ99, h⟩ := bnd h
        refine g_iast C dX12_deed_203 rfl rfl qσ99 ia1 (by decide) ?_
        exact g_vretP C dX12_deed_204 hr hlk h
    refine g_icmp_ne C dX12_deed_170 ix91 (by decide) rfl (tgt := 182) (fun c92 => ?_) (fun c92 => ?_)
    · have h := ifF c92 h
      refine g_iload_n C dX12_deed_182 rfl ?_
      refine g_mask [true, true, false, false, true, true] ?_
      exact hJ183_100 x2 ix2 h
    · have h := ifT c92 h
      refine g_aload_n C dX12_deed_173 rfl ?_
      refine g_getI (j := 71) C dX12_deed_174 rfl (Nat.le_of_ble_eq_true rfl) (Nat.le_of_ble_eq_true rfl) fl_12_365 rfl rfl (fun i93 => ?_)
      refine g_iload_n C dX12_deed_177 rfl ?_
      refine g_iadd C dX12_deed_178 ?_
      refine g_goto C dX12_deed_179 rfl (tgt := 183) ?_
      refine g_mask [true, true, false, false, true, true] ?_
      exact hJ183_100 (wr (σ5 170 71 + x2)) (iwr _) h
  by_cases c7 : x6 = 0
  · have h := ifT c7 h
    refine g_tabI C dX12_deed_38 ix6 (by rw [c7]; decide) (by rw [c7]; decide) (by rw [c7] <;> rfl) rfl (tgt := 112) ?_
    refine g_iload_n C dX12_deed_112 rfl ?_
    refine g_aload_n C dX12_deed_113 rfl ?_
    refine g_getI (j := 30) C dX12_deed_114 rfl (Nat.le_of_ble_eq_true rfl) (Nat.le_of_ble_eq_true rfl) fl_12_330 rfl rfl (fun i8 => ?_)
    refine g_icmp_ge C dX12_deed_117 ix2 i8 rfl (tgt := 144) (fun c9 => ?_) (fun c9 => ?_)
    · have h := ifT c9 h
      exact g_vretP C dX12_deed_144 hr hlk h
    · have h := ifF c9 h
      refine g_iload_n C dX12_deed_120 rfl ?_
      refine g_iload C dX12_deed_121 rfl ?_
      refine g_icmp_eq C dX12_deed_123 ix2 ix3 rfl (tgt := 144) (fun c10 => ?_) (fun c10 => ?_)
      · have h := ifT c10 h
        exact g_vretP C dX12_deed_144 hr hlk h
      · have h := ifF c10 h
        refine g_aload_n C dX12_deed_126 rfl ?_
        refine g_getR (j := 40) C dX12_deed_127 rfl (Nat.le_of_ble_eq_true rfl) (Nat.le_of_ble_eq_true rfl) fl_12_88 rfl rfl (r := 194) rfl ?_
        refine g_bipush C dX12_deed_130 rfl ?_
        refine g_iload C dX12_deed_132 rfl ?_
        refine g_imul C dX12_deed_134 ?_
        refine g_iload_n C dX12_deed_135 rfl ?_
        refine g_iadd C dX12_deed_136 ?_
        obtain ⟨x11, qx11, h⟩ := bnd h
        refine g_iald C dX12_deed_137 rfl rfl qx11 (iwr _) (fun ix11 => ?_)
        refine g_sipush C dX12_deed_138 rfl ?_
        refine g_icmp_lt C dX12_deed_141 ix11 (by decide) rfl (tgt := 145) (fun c12 => ?_) (fun c12 => ?_)
        · have h := ifT c12 h
          refine g_aload_n C dX12_deed_145 rfl ?_
          refine g_getR (j := 65) C dX12_deed_146 rfl (Nat.le_of_ble_eq_true rfl) (Nat.le_of_ble_eq_true rfl) fl_12_155 rfl rfl (r := 215) rfl ?_
          refine g_iload_n C dX12_deed_149 rfl ?_
          refine g_iload_n C dX12_deed_150 rfl ?_
          obtain ⟨σ13, qσ13, h⟩ := bnd h
          refine g_iast C dX12_deed_151 rfl rfl qσ13 ia1 ix2 ?_
          refine g_aload_n C dX12_deed_152 rfl ?_
          refine g_iload_n C dX12_deed_153 rfl ?_
          obtain ⟨σ14, qσ14, h⟩ := bnd h
          refine g_callV0 (As := [iv a1]) C dX12_deed_154 mi_X12_walks ml_12_390 (ct_X12_walks ia1 qσ14) rfl rfl ⟨rfl, rfl⟩ ⟨Nat.le_of_ble_eq_true rfl, Nat.le_of_ble_eq_true rfl⟩ ⟨Nat.zero_le _, Nat.zero_le _⟩ rfl (Nat.le_of_ble_eq_true rfl) (fun _ => ?_)
          exact g_vretP C dX12_deed_157 hr hlk h
        · have h := ifF c12 h
          exact g_vretP C dX12_deed_144 hr hlk h
  have h := ifF c7 h
  by_cases c15 : x6 = 1
  · have h := ifT c15 h
    refine g_tabI C dX12_deed_38 ix6 (by rw [c15]; decide) (by rw [c15]; decide) (by rw [c15] <;> rfl) rfl (tgt := 158) ?_
    refine g_mask [true, true, true, true, false, true] ?_
    exact hJ158_101  h
  have h := ifF c15 h
  by_cases c16 : x6 = 2
  · have h := ifT c16 h
    refine g_tabI C dX12_deed_38 ix6 (by rw [c16]; decide) (by rw [c16]; decide) (by rw [c16] <;> rfl) rfl (tgt := 158) ?_
    refine g_mask [true, true, true, true, false, true] ?_
    exact hJ158_101  h
  have h := ifF c16 h
  by_cases c17 : x6 = 3
  · have h := ifT c17 h
    refine g_tabI C dX12_deed_38 ix6 (by rw [c17]; decide) (by rw [c17]; decide) (by rw [c17] <;> rfl) rfl (tgt := 205) ?_
    refine g_aload_n C dX12_deed_205 rfl ?_
    refine g_getR (j := 53) C dX12_deed_206 rfl (Nat.le_of_ble_eq_true rfl) (Nat.le_of_ble_eq_true rfl) fl_12_125 rfl rfl (r := 205) rfl ?_
    refine g_iload C dX12_deed_209 rfl ?_
    refine g_dup2 C dX12_deed_211 rfl rfl ?_
    obtain ⟨x18, qx18, h⟩ := bnd h
    refine g_iald C dX12_deed_212 rfl rfl qx18 ix3 (fun ix18 => ?_)
    refine g_iconst C dX12_deed_213 ?_
    refine g_iload_n C dX12_deed_214 rfl ?_
    refine g_ishl C dX12_deed_215 ?_
    refine g_ior C dX12_deed_216 ?_
    obtain ⟨σ19, qσ19, h⟩ := bnd h
    refine g_iast C dX12_deed_217 rfl rfl qσ19 ix3 (ior _ _) ?_
    exact g_vretP C dX12_deed_218 hr hlk h
  have h := ifF c17 h
  by_cases c20 : x6 = 4
  · have h := ifT c20 h
    refine g_tabI C dX12_deed_38 ix6 (by rw [c20]; decide) (by rw [c20]; decide) (by rw [c20] <;> rfl) rfl (tgt := 219) ?_
    refine g_aload_n C dX12_deed_219 rfl ?_
    refine g_getR (j := 53) C dX12_deed_220 rfl (Nat.le_of_ble_eq_true rfl) (Nat.le_of_ble_eq_true rfl) fl_12_125 rfl rfl (r := 205) rfl ?_
    refine g_iload C dX12_deed_223 rfl ?_
    refine g_dup2 C dX12_deed_225 rfl rfl ?_
    obtain ⟨x21, qx21, h⟩ := bnd h
    refine g_iald C dX12_deed_226 rfl rfl qx21 ix3 (fun ix21 => ?_)
    refine g_iconst C dX12_deed_227 ?_
    refine g_iload_n C dX12_deed_228 rfl ?_
    refine g_ishl C dX12_deed_229 ?_
    refine g_iconst C dX12_deed_230 ?_
    refine g_ixor C dX12_deed_231 ?_
    refine g_iand C dX12_deed_232 ?_
    obtain ⟨σ22, qσ22, h⟩ := bnd h
    refine g_iast C dX12_deed_233 rfl rfl qσ22 ix3 (iand _ _) ?_
    exact g_vretP C dX12_deed_234 hr hlk h
  have h := ifF c20 h
  by_cases c23 : x6 = 5
  · have h := ifT c23 h
    refine g_tabI C dX12_deed_38 ix6 (by rw [c23]; decide) (by rw [c23]; decide) (by rw [c23] <;> rfl) rfl (tgt := 235) ?_
    refine g_aload_n C dX12_deed_235 rfl ?_
    refine g_getR (j := 50) C dX12_deed_236 rfl (Nat.le_of_ble_eq_true rfl) (Nat.le_of_ble_eq_true rfl) fl_12_116 rfl rfl (r := 202) rfl ?_
    refine g_bipush C dX12_deed_239 rfl ?_
    refine g_iload_n C dX12_deed_241 rfl ?_
    refine g_imul C dX12_deed_242 ?_
    refine g_iload_n C dX12_deed_243 rfl ?_
    refine g_iadd C dX12_deed_244 ?_
    obtain ⟨x24, qx24, h⟩ := bnd h
    refine g_iald C dX12_deed_245 rfl rfl qx24 (iwr _) (fun ix24 => ?_)
    refine g_iconst C dX12_deed_246 ?_
    refine g_icmp_eq C dX12_deed_247 ix24 (by decide) rfl (tgt := 262) (fun c25 => ?_) (fun c25 => ?_)
    · have h := ifT c25 h
      exact g_vretP C dX12_deed_262 hr hlk h
    · have h := ifF c25 h
      refine g_aload_n C dX12_deed_250 rfl ?_
      refine g_getR (j := 52) C dX12_deed_251 rfl (Nat.le_of_ble_eq_true rfl) (Nat.le_of_ble_eq_true rfl) fl_12_122 rfl rfl (r := 204) rfl ?_
      refine g_iload_n C dX12_deed_254 rfl ?_
      refine g_dup2 C dX12_deed_255 rfl rfl ?_
      obtain ⟨x26, qx26, h⟩ := bnd h
      refine g_iald C dX12_deed_256 rfl rfl qx26 ia1 (fun ix26 => ?_)
      refine g_iconst C dX12_deed_257 ?_
      refine g_iload_n C dX12_deed_258 rfl ?_
      refine g_ishl C dX12_deed_259 ?_
      refine g_ior C dX12_deed_260 ?_
      obtain ⟨σ27, qσ27, h⟩ := bnd h
      refine g_iast C dX12_deed_261 rfl rfl qσ27 ia1 (ior _ _) ?_
      exact g_vretP C dX12_deed_262 hr hlk h
  have h := ifF c23 h
  by_cases c28 : x6 = 6
  · have h := ifT c28 h
    refine g_tabI C dX12_deed_38 ix6 (by rw [c28]; decide) (by rw [c28]; decide) (by rw [c28] <;> rfl) rfl (tgt := 263) ?_
    refine g_aload_n C dX12_deed_263 rfl ?_
    refine g_getR (j := 52) C dX12_deed_264 rfl (Nat.le_of_ble_eq_true rfl) (Nat.le_of_ble_eq_true rfl) fl_12_122 rfl rfl (r := 204) rfl ?_
    refine g_iload_n C dX12_deed_267 rfl ?_
    obtain ⟨x29, qx29, h⟩ := bnd h
    refine g_iald C dX12_deed_268 rfl rfl qx29 ia1 (fun ix29 => ?_)
    refine g_iload_n C dX12_deed_269 rfl ?_
    refine g_ishr C dX12_deed_270 ?_
    refine g_iconst C dX12_deed_271 ?_
    refine g_iand C dX12_deed_272 ?_
    refine g_if_ne C dX12_deed_273 (iand _ _) rfl (tgt := 277) (fun c30 => ?_) (fun c30 => ?_)
    · have h := ifF c30 h
      refine g_aload_n C dX12_deed_277 rfl ?_
      refine g_getR (j := 52) C dX12_deed_278 rfl (Nat.le_of_ble_eq_true rfl) (Nat.le_of_ble_eq_true rfl) fl_12_122 rfl rfl (r := 204) rfl ?_
      refine g_iload_n C dX12_deed_281 rfl ?_
      refine g_dup2 C dX12_deed_282 rfl rfl ?_
      obtain ⟨x31, qx31, h⟩ := bnd h
      refine g_iald C dX12_deed_283 rfl rfl qx31 ia1 (fun ix31 => ?_)
      refine g_iconst C dX12_deed_284 ?_
      refine g_iload_n C dX12_deed_285 rfl ?_
      refine g_ishl C dX12_deed_286 ?_
      refine g_iconst C dX12_deed_287 ?_
      refine g_ixor C dX12_deed_288 ?_
      refine g_iand C dX12_deed_289 ?_
      obtain ⟨σ32, qσ32, h⟩ := bnd h
      refine g_iast C dX12_deed_290 rfl rfl qσ32 ia1 (iand _ _) ?_
      refine g_aload_n C dX12_deed_291 rfl ?_
      refine g_getR (j := 54) C dX12_deed_292 rfl (Nat.le_of_ble_eq_true rfl) (Nat.le_of_ble_eq_true rfl) fl_12_128 rfl rfl (r := 206) rfl ?_
      refine g_bipush C dX12_deed_295 rfl ?_
      refine g_iload C dX12_deed_297 rfl ?_
      refine g_imul C dX12_deed_299 ?_
      refine g_iload_n C dX12_deed_300 rfl ?_
      refine g_iadd C dX12_deed_301 ?_
      refine g_iload_n C dX12_deed_302 rfl ?_
      obtain ⟨σ33, qσ33, h⟩ := bnd h
      refine g_iast C dX12_deed_303 rfl rfl qσ33 (iwr _) ia1 ?_
      exact g_vretP C dX12_deed_304 hr hlk h
    · have h := ifT c30 h
      exact g_vretP C dX12_deed_276 hr hlk h
  have h := ifF c28 h
  by_cases c34 : x6 = 7
  · have h := ifT c34 h
    refine g_tabI C dX12_deed_38 ix6 (by rw [c34]; decide) (by rw [c34]; decide) (by rw [c34] <;> rfl) rfl (tgt := 305) ?_
    refine g_aload_n C dX12_deed_305 rfl ?_
    refine g_getR (j := 54) C dX12_deed_306 rfl (Nat.le_of_ble_eq_true rfl) (Nat.le_of_ble_eq_true rfl) fl_12_128 rfl rfl (r := 206) rfl ?_
    refine g_bipush C dX12_deed_309 rfl ?_
    refine g_iload C dX12_deed_311 rfl ?_
    refine g_imul C dX12_deed_313 ?_
    refine g_iload_n C dX12_deed_314 rfl ?_
    refine g_iadd C dX12_deed_315 ?_
    obtain ⟨x35, qx35, h⟩ := bnd h
    refine g_iald C dX12_deed_316 rfl rfl qx35 (iwr _) (fun ix35 => ?_)
    refine g_istore (L1 := [some (rv w 170), some (iv a1), some (iv x1), some (iv x2), some (iv x3), some (iv x35)]) C dX12_deed_317 rfl (Nat.le_of_ble_eq_true rfl) rfl ?_
    refine g_iload C dX12_deed_319 rfl ?_
    refine g_iconst C dX12_deed_321 ?_
    refine g_icmp_ne C dX12_deed_322 ix35 (by decide) rfl (tgt := 326) (fun c36 => ?_) (fun c36 => ?_)
    · have h := ifF c36 h
      refine g_aload_n C dX12_deed_326 rfl ?_
      refine g_getR (j := 54) C dX12_deed_327 rfl (Nat.le_of_ble_eq_true rfl) (Nat.le_of_ble_eq_true rfl) fl_12_128 rfl rfl (r := 206) rfl ?_
      refine g_bipush C dX12_deed_330 rfl ?_
      refine g_iload C dX12_deed_332 rfl ?_
      refine g_imul C dX12_deed_334 ?_
      refine g_iload_n C dX12_deed_335 rfl ?_
      refine g_iadd C dX12_deed_336 ?_
      refine g_iconst C dX12_deed_337 ?_
      obtain ⟨σ37, qσ37, h⟩ := bnd h
      refine g_iast C dX12_deed_338 rfl rfl qσ37 (iwr _) (by decide) ?_
      refine g_aload_n C dX12_deed_339 rfl ?_
      refine g_getR (j := 52) C dX12_deed_340 rfl (Nat.le_of_ble_eq_true rfl) (Nat.le_of_ble_eq_true rfl) fl_12_122 rfl rfl (r := 204) rfl ?_
      refine g_iload_n C dX12_deed_343 rfl ?_
      refine g_dup2 C dX12_deed_344 rfl rfl ?_
      obtain ⟨x38, qx38, h⟩ := bnd h
      refine g_iald C dX12_deed_345 rfl rfl qx38 ia1 (fun ix38 => ?_)
      refine g_iconst C dX12_deed_346 ?_
      refine g_iload_n C dX12_deed_347 rfl ?_
      refine g_ishl C dX12_deed_348 ?_
      refine g_ior C dX12_deed_349 ?_
      obtain ⟨σ39, qσ39, h⟩ := bnd h
      refine g_iast C dX12_deed_350 rfl rfl qσ39 ia1 (ior _ _) ?_
      refine g_aload_n C dX12_deed_351 rfl ?_
      refine g_iload_n C dX12_deed_352 rfl ?_
      refine g_iload_n C dX12_deed_353 rfl ?_
      refine g_iload C dX12_deed_354 rfl ?_
      obtain ⟨σ40, qσ40, h⟩ := bnd h
      refine g_callV0 (As := [iv a1, iv x2, iv x35]) C dX12_deed_356 mi_X12_learns ml_12_409 (ct_X12_learns ia1 ix2 ix35 qσ40) rfl rfl ⟨rfl, rfl⟩ ⟨Nat.le_of_ble_eq_true rfl, Nat.le_of_ble_eq_true rfl⟩ ⟨Nat.zero_le _, Nat.zero_le _⟩ rfl (Nat.le_of_ble_eq_true rfl) (fun _ => ?_)
      exact g_vretP C dX12_deed_359 hr hlk h
    · have h := ifT c36 h
      exact g_vretP C dX12_deed_325 hr hlk h
  have h := ifF c34 h
  by_cases c41 : x6 = 8
  · have h := ifT c41 h
    refine g_tabI C dX12_deed_38 ix6 (by rw [c41]; decide) (by rw [c41]; decide) (by rw [c41] <;> rfl) rfl (tgt := 360) ?_
    refine g_aload_n C dX12_deed_360 rfl ?_
    refine g_getR (j := 52) C dX12_deed_361 rfl (Nat.le_of_ble_eq_true rfl) (Nat.le_of_ble_eq_true rfl) fl_12_122 rfl rfl (r := 204) rfl ?_
    refine g_iload_n C dX12_deed_364 rfl ?_
    refine g_dup2 C dX12_deed_365 rfl rfl ?_
    obtain ⟨x42, qx42, h⟩ := bnd h
    refine g_iald C dX12_deed_366 rfl rfl qx42 ia1 (fun ix42 => ?_)
    refine g_iconst C dX12_deed_367 ?_
    refine g_iload_n C dX12_deed_368 rfl ?_
    refine g_ishl C dX12_deed_369 ?_
    refine g_iconst C dX12_deed_370 ?_
    refine g_ixor C dX12_deed_371 ?_
    refine g_iand C dX12_deed_372 ?_
    obtain ⟨σ43, qσ43, h⟩ := bnd h
    refine g_iast C dX12_deed_373 rfl rfl qσ43 ia1 (iand _ _) ?_
    exact g_vretP C dX12_deed_374 hr hlk h
  have h := ifF c41 h
  by_cases c44 : x6 = 9
  · have h := ifT c44 h
    refine g_tabI C dX12_deed_38 ix6 (by rw [c44]; decide) (by rw [c44]; decide) (by rw [c44] <;> rfl) rfl (tgt := 375) ?_
    refine g_aload_n C dX12_deed_375 rfl ?_
    refine g_iload_n C dX12_deed_376 rfl ?_
    refine g_iload_n C dX12_deed_377 rfl ?_
    obtain ⟨σ45, qσ45, h⟩ := bnd h
    refine g_callV0 (As := [iv a1, iv x2]) C dX12_deed_378 mi_X12_tells ml_12_412 (ct_X12_tells ia1 ix2 qσ45) rfl rfl ⟨rfl, rfl⟩ ⟨Nat.le_of_ble_eq_true rfl, Nat.le_of_ble_eq_true rfl⟩ ⟨Nat.zero_le _, Nat.zero_le _⟩ rfl (Nat.le_of_ble_eq_true rfl) (fun _ => ?_)
    exact g_vretP C dX12_deed_381 hr hlk h
  have h := ifF c44 h
  by_cases c46 : x6 = 10
  · have h := ifT c46 h
    refine g_tabI C dX12_deed_38 ix6 (by rw [c46]; decide) (by rw [c46]; decide) (by rw [c46] <;> rfl) rfl (tgt := 382) ?_
    refine g_aload_n C dX12_deed_382 rfl ?_
    refine g_getR (j := 61) C dX12_deed_383 rfl (Nat.le_of_ble_eq_true rfl) (Nat.le_of_ble_eq_true rfl) fl_12_143 rfl rfl (r := 211) rfl ?_
    refine g_iload_n C dX12_deed_386 rfl ?_
    refine g_iconst C dX12_deed_387 ?_
    obtain ⟨σ47, qσ47, h⟩ := bnd h
    refine g_iast C dX12_deed_388 rfl rfl qσ47 ia1 (by decide) ?_
    refine g_aload_n C dX12_deed_389 rfl ?_
    refine g_getR (j := 56) C dX12_deed_390 rfl (Nat.le_of_ble_eq_true rfl) (Nat.le_of_ble_eq_true rfl) fl_12_134 rfl rfl (r := 208) rfl ?_
    refine g_iload_n C dX12_deed_393 rfl ?_
    refine g_aload_n C dX12_deed_394 rfl ?_
    refine g_getI (j := 71) C dX12_deed_395 rfl (Nat.le_of_ble_eq_true rfl) (Nat.le_of_ble_eq_true rfl) fl_12_365 rfl rfl (fun i48 => ?_)
    obtain ⟨σ49, qσ49, h⟩ := bnd h
    refine g_iast C dX12_deed_398 rfl rfl qσ49 ia1 i48 ?_
    exact g_vretP C dX12_deed_399 hr hlk h
  have h := ifF c46 h
  by_cases c50 : x6 = 11
  · have h := ifT c50 h
    refine g_tabI C dX12_deed_38 ix6 (by rw [c50]; decide) (by rw [c50]; decide) (by rw [c50] <;> rfl) rfl (tgt := 400) ?_
    refine g_aload_n C dX12_deed_400 rfl ?_
    refine g_iload_n C dX12_deed_401 rfl ?_
    refine g_iconst C dX12_deed_402 ?_
    refine g_aload_n C dX12_deed_403 rfl ?_
    refine g_getR (j := 62) C dX12_deed_404 rfl (Nat.le_of_ble_eq_true rfl) (Nat.le_of_ble_eq_true rfl) fl_12_146 rfl rfl (r := 212) rfl ?_
    refine g_iload_n C dX12_deed_407 rfl ?_
    obtain ⟨x51, qx51, h⟩ := bnd h
    refine g_iald C dX12_deed_408 rfl rfl qx51 ia1 (fun ix51 => ?_)
    obtain ⟨σ52, qσ52, h⟩ := bnd h
    refine g_callV0 (As := [iv a1, iv 0, iv x51]) C dX12_deed_409 mi_X12_pushes ml_12_396 (ct_X12_pushes ia1 (by decide) ix51 qσ52) rfl rfl ⟨rfl, rfl⟩ ⟨Nat.le_of_ble_eq_true rfl, Nat.le_of_ble_eq_true rfl⟩ ⟨Nat.zero_le _, Nat.zero_le _⟩ rfl (Nat.le_of_ble_eq_true rfl) (fun _ => ?_)
    refine g_aload_n C dX12_deed_412 rfl ?_
    refine g_getR (j := 62) C dX12_deed_413 rfl (Nat.le_of_ble_eq_true rfl) (Nat.le_of_ble_eq_true rfl) fl_12_146 rfl rfl (r := 212) rfl ?_
    refine g_iload_n C dX12_deed_416 rfl ?_
    refine g_aload_n C dX12_deed_417 rfl ?_
    refine g_getR (j := 21) C dX12_deed_418 rfl (Nat.le_of_ble_eq_true rfl) (Nat.le_of_ble_eq_true rfl) fl_12_46 rfl rfl (r := 180) rfl ?_
    refine g_bipush C dX12_deed_421 rfl ?_
    refine g_aload_n C dX12_deed_423 rfl ?_
    refine g_getI (j := 17) C dX12_deed_424 rfl (Nat.le_of_ble_eq_true rfl) (Nat.le_of_ble_eq_true rfl) fl_12_283 rfl rfl (fun i53 => ?_)
    refine g_imul C dX12_deed_427 ?_
    refine g_iload_n C dX12_deed_428 rfl ?_
    refine g_iadd C dX12_deed_429 ?_
    obtain ⟨x54, qx54, h⟩ := bnd h
    refine g_iald C dX12_deed_430 rfl rfl qx54 (iwr _) (fun ix54 => ?_)
    obtain ⟨σ55, qσ55, h⟩ := bnd h
    refine g_iast C dX12_deed_431 rfl rfl qσ55 ia1 ix54 ?_
    exact g_vretP C dX12_deed_432 hr hlk h
  have h := ifF c50 h
  by_cases c56 : x6 = 12
  · have h := ifT c56 h
    refine g_tabI C dX12_deed_38 ix6 (by rw [c56]; decide) (by rw [c56]; decide) (by rw [c56] <;> rfl) rfl (tgt := 433) ?_
    refine g_iload_n C dX12_deed_433 rfl ?_
    refine g_if_ne C dX12_deed_434 ix2 rfl (tgt := 452) (fun c57 => ?_) (fun c57 => ?_)
    · have h := ifF c57 h
      refine g_aload_n C dX12_deed_452 rfl ?_
      refine g_iload_n C dX12_deed_453 rfl ?_
      refine g_iconst C dX12_deed_454 ?_
      refine g_iload_n C dX12_deed_455 rfl ?_
      obtain ⟨σ58, qσ58, h⟩ := bnd h
      refine g_callV0 (As := [iv a1, iv 1, iv x2]) C dX12_deed_456 mi_X12_pushes ml_12_396 (ct_X12_pushes ia1 (by decide) ix2 qσ58) rfl rfl ⟨rfl, rfl⟩ ⟨Nat.le_of_ble_eq_true rfl, Nat.le_of_ble_eq_true rfl⟩ ⟨Nat.zero_le _, Nat.zero_le _⟩ rfl (Nat.le_of_ble_eq_true rfl) (fun _ => ?_)
      exact g_vretP C dX12_deed_459 hr hlk h
    · have h := ifT c57 h
      refine g_aload_n C dX12_deed_437 rfl ?_
      refine g_getR (j := 62) C dX12_deed_438 rfl (Nat.le_of_ble_eq_true rfl) (Nat.le_of_ble_eq_true rfl) fl_12_146 rfl rfl (r := 212) rfl ?_
      refine g_iload_n C dX12_deed_441 rfl ?_
      refine g_aload_n C dX12_deed_442 rfl ?_
      refine g_getR (j := 26) C dX12_deed_443 rfl (Nat.le_of_ble_eq_true rfl) (Nat.le_of_ble_eq_true rfl) fl_12_58 rfl rfl (r := 184) rfl ?_
      refine g_iload_n C dX12_deed_446 rfl ?_
      obtain ⟨x59, qx59, h⟩ := bnd h
      refine g_iald C dX12_deed_447 rfl rfl qx59 ix1 (fun ix59 => ?_)
      obtain ⟨σ60, qσ60, h⟩ := bnd h
      refine g_iast C dX12_deed_448 rfl rfl qσ60 ia1 ix59 ?_
      refine g_goto C dX12_deed_449 rfl (tgt := 459) ?_
      exact g_vretP C dX12_deed_459 hr hlk h
  have h := ifF c56 h
  by_cases c61 : x6 = 13
  · have h := ifT c61 h
    refine g_tabI C dX12_deed_38 ix6 (by rw [c61]; decide) (by rw [c61]; decide) (by rw [c61] <;> rfl) rfl (tgt := 460) ?_
    refine g_aload_n C dX12_deed_460 rfl ?_
    refine g_getR (j := 70) C dX12_deed_461 rfl (Nat.le_of_ble_eq_true rfl) (Nat.le_of_ble_eq_true rfl) fl_12_170 rfl rfl (r := 220) rfl ?_
    refine g_bipush C dX12_deed_464 rfl ?_
    refine g_iload_n C dX12_deed_466 rfl ?_
    refine g_imul C dX12_deed_467 ?_
    refine g_aload_n C dX12_deed_468 rfl ?_
    refine g_getR (j := 68) C dX12_deed_469 rfl (Nat.le_of_ble_eq_true rfl) (Nat.le_of_ble_eq_true rfl) fl_12_164 rfl rfl (r := 218) rfl ?_
    refine g_iload_n C dX12_deed_472 rfl ?_
    obtain ⟨x62, qx62, h⟩ := bnd h
    refine g_iald C dX12_deed_473 rfl rfl qx62 ia1 (fun ix62 => ?_)
    refine g_iadd C dX12_deed_474 ?_
    refine g_iconst C dX12_deed_475 ?_
    refine g_isub C dX12_deed_476 ?_
    refine g_dup2 C dX12_deed_477 rfl rfl ?_
    obtain ⟨x63, qx63, h⟩ := bnd h
    refine g_iald C dX12_deed_478 rfl rfl qx63 (iwr _) (fun ix63 => ?_)
    refine g_iconst C dX12_deed_479 ?_
    refine g_isub C dX12_deed_480 ?_
    obtain ⟨σ64, qσ64, h⟩ := bnd h
    refine g_iast C dX12_deed_481 rfl rfl qσ64 (iwr _) (iwr _) ?_
    refine g_aload_n C dX12_deed_482 rfl ?_
    refine g_getR (j := 62) C dX12_deed_483 rfl (Nat.le_of_ble_eq_true rfl) (Nat.le_of_ble_eq_true rfl) fl_12_146 rfl rfl (r := 212) rfl ?_
    refine g_iload_n C dX12_deed_486 rfl ?_
    refine g_iload_n C dX12_deed_487 rfl ?_
    obtain ⟨σ65, qσ65, h⟩ := bnd h
    refine g_iast C dX12_deed_488 rfl rfl qσ65 ia1 ix2 ?_
    exact g_vretP C dX12_deed_489 hr hlk h
  have h := ifF c61 h
  by_cases c66 : x6 = 14
  · have h := ifT c66 h
    refine g_tabI C dX12_deed_38 ix6 (by rw [c66]; decide) (by rw [c66]; decide) (by rw [c66] <;> rfl) rfl (tgt := 490) ?_
    refine g_aload_n C dX12_deed_490 rfl ?_
    refine g_iload_n C dX12_deed_491 rfl ?_
    refine g_iload_n C dX12_deed_492 rfl ?_
    refine g_iconst C dX12_deed_493 ?_
    obtain ⟨x67, qx67, h⟩ := bnd h
    refine g_idiv C dX12_deed_494 (by decide) qx67 (fun ix67 => ?_)
    refine g_aload_n C dX12_deed_495 rfl ?_
    refine g_getR (j := 25) C dX12_deed_496 rfl (Nat.le_of_ble_eq_true rfl) (Nat.le_of_ble_eq_true rfl) fl_12_55 rfl rfl (r := 183) rfl ?_
    refine g_iload_n C dX12_deed_499 rfl ?_
    obtain ⟨x68, qx68, h⟩ := bnd h
    refine g_iald C dX12_deed_500 rfl rfl qx68 ix1 (fun ix68 => ?_)
    obtain ⟨x69, qx69, h⟩ := bnd h
    refine g_callV1 (As := [iv a1, iv x67, iv x68]) C dX12_deed_501 mi_X12_holds ml_12_415 (ct_X12_holds ia1 ix67 ix68 qx69) rfl rfl ⟨rfl, rfl⟩ ⟨Nat.le_of_ble_eq_true rfl, Nat.le_of_ble_eq_true rfl⟩ ⟨Nat.zero_le _, Nat.zero_le _⟩ rfl (Nat.le_of_ble_eq_true rfl) (fun ix69 => ?_)
    refine g_iload_n C dX12_deed_504 rfl ?_
    refine g_iconst C dX12_deed_505 ?_
    obtain ⟨x70, qx70, h⟩ := bnd h
    refine g_irem C dX12_deed_506 (by decide) qx70 (fun ix70 => ?_)
    refine g_iconst C dX12_deed_507 ?_
    have hJ516_76 : ∀ (x72 : Int) , InZ x72 → m_X12_deed_J516 x69 σ5 x1 a1 x72 = some σ' → GM w p l e rm_X12_deed s m args below meth c none True σ' 6 516 [some (rv w 170), some (iv a1), some (iv x1), none, none, none] [iv x72, iv x69] σ5 := by
      intro x72 ix72 h
      unfold m_X12_deed_J516 at h
      refine g_icmp_ne C dX12_deed_516 (zI ix69) (zI ix72) rfl (tgt := 531) (fun c73 => ?_) (fun c73 => ?_)
      · have h := ifF c73 h
        exact g_vretP C dX12_deed_531 hr hlk h
      · have h := ifT c73 h
        refine g_aload_n C dX12_deed_519 rfl ?_
        refine g_getR (j := 62) C dX12_deed_520 rfl (Nat.le_of_ble_eq_true rfl) (Nat.le_of_ble_eq_true rfl) fl_12_146 rfl rfl (r := 212) rfl ?_
        refine g_iload_n C dX12_deed_523 rfl ?_
        refine g_aload_n C dX12_deed_524 rfl ?_
        refine g_getR (j := 26) C dX12_deed_525 rfl (Nat.le_of_ble_eq_true rfl) (Nat.le_of_ble_eq_true rfl) fl_12_58 rfl rfl (r := 184) rfl ?_
        refine g_iload_n C dX12_deed_528 rfl ?_
        obtain ⟨x74, qx74, h⟩ := bnd h
        refine g_iald C dX12_deed_529 rfl rfl qx74 ix1 (fun ix74 => ?_)
        obtain ⟨σ75, qσ75, h⟩ := bnd h
        refine g_iast C dX12_deed_530 rfl rfl qσ75 ia1 ix74 ?_
        exact g_vretP C dX12_deed_531 hr hlk h
    refine g_icmp_ne C dX12_deed_508 ix70 (by decide) rfl (tgt := 515) (fun c71 => ?_) (fun c71 => ?_)
    · have h := ifF c71 h
      refine g_iconst C dX12_deed_515 ?_
      refine g_mask [true, true, true, false, false, true] ?_
      exact hJ516_76 0 (Or.inl rfl) h
    · have h := ifT c71 h
      refine g_iconst C dX12_deed_511 ?_
      refine g_goto C dX12_deed_512 rfl (tgt := 516) ?_
      refine g_mask [true, true, true, false, false, true] ?_
      exact hJ516_76 1 (Or.inr rfl) h
  have h := ifF c66 h
  refine g_tabO C dX12_deed_38 ix6 (by omega) rfl (tgt := 532) ?_
  refine g_aload_n C dX12_deed_532 rfl ?_
  refine g_getR (j := 67) C dX12_deed_533 rfl (Nat.le_of_ble_eq_true rfl) (Nat.le_of_ble_eq_true rfl) fl_12_161 rfl rfl (r := 217) rfl ?_
  refine g_iload_n C dX12_deed_536 rfl ?_
  refine g_iload_n C dX12_deed_537 rfl ?_
  obtain ⟨σ77, qσ77, h⟩ := bnd h
  refine g_iast C dX12_deed_538 rfl rfl qσ77 ia1 ix2 ?_
  refine g_aload_n C dX12_deed_539 rfl ?_
  refine g_getR (j := 66) C dX12_deed_540 rfl (Nat.le_of_ble_eq_true rfl) (Nat.le_of_ble_eq_true rfl) fl_12_158 rfl rfl (r := 216) rfl ?_
  refine g_iload_n C dX12_deed_543 rfl ?_
  refine g_aload_n C dX12_deed_544 rfl ?_
  refine g_getI (j := 71) C dX12_deed_545 rfl (Nat.le_of_ble_eq_true rfl) (Nat.le_of_ble_eq_true rfl) fl_12_365 rfl rfl (fun i78 => ?_)
  refine g_aload_n C dX12_deed_548 rfl ?_
  refine g_getR (j := 25) C dX12_deed_549 rfl (Nat.le_of_ble_eq_true rfl) (Nat.le_of_ble_eq_true rfl) fl_12_55 rfl rfl (r := 183) rfl ?_
  refine g_iload_n C dX12_deed_552 rfl ?_
  obtain ⟨x79, qx79, h⟩ := bnd h
  refine g_iald C dX12_deed_553 rfl rfl qx79 ix1 (fun ix79 => ?_)
  refine g_iadd C dX12_deed_554 ?_
  obtain ⟨σ80, qσ80, h⟩ := bnd h
  refine g_iast C dX12_deed_555 rfl rfl qσ80 ia1 (iwr _) ?_
  refine g_aload_n C dX12_deed_556 rfl ?_
  refine g_iload_n C dX12_deed_557 rfl ?_
  refine g_iload_n C dX12_deed_558 rfl ?_
  obtain ⟨⟨x81, σ82⟩, qx81, h⟩ := bnd h
  refine g_callV1 (As := [iv a1, iv x2]) C dX12_deed_559 mi_X12_comesAbout ml_12_393 (ct_X12_comesAbout ia1 ix2 qx81) rfl rfl ⟨rfl, rfl⟩ ⟨Nat.le_of_ble_eq_true rfl, Nat.le_of_ble_eq_true rfl⟩ ⟨Nat.zero_le _, Nat.zero_le _⟩ rfl (Nat.le_of_ble_eq_true rfl) (fun ix81 => ?_)
  refine g_if_eq C dX12_deed_562 (zI ix81) rfl (tgt := 575) (fun c83 => ?_) (fun c83 => ?_)
  · have h := ifT c83 h
    refine g_aload_n C dX12_deed_575 rfl ?_
    refine g_getR (j := 25) C dX12_deed_576 rfl (Nat.le_of_ble_eq_true rfl) (Nat.le_of_ble_eq_true rfl) fl_12_55 rfl rfl (r := 183) rfl ?_
    refine g_iload_n C dX12_deed_579 rfl ?_
    obtain ⟨x84, qx84, h⟩ := bnd h
    refine g_iald C dX12_deed_580 rfl rfl qx84 ix1 (fun ix84 => ?_)
    refine g_if_ne C dX12_deed_581 ix84 rfl (tgt := 599) (fun c85 => ?_) (fun c85 => ?_)
    · have h := ifF c85 h
      refine g_aload_n C dX12_deed_599 rfl ?_
      refine g_getR (j := 62) C dX12_deed_600 rfl (Nat.le_of_ble_eq_true rfl) (Nat.le_of_ble_eq_true rfl) fl_12_146 rfl rfl (r := 212) rfl ?_
      refine g_iload_n C dX12_deed_603 rfl ?_
      refine g_iload_n C dX12_deed_604 rfl ?_
      obtain ⟨σ86, qσ86, h⟩ := bnd h
      refine g_iast C dX12_deed_605 rfl rfl qσ86 ia1 ix1 ?_
      refine g_aload_n C dX12_deed_606 rfl ?_
      refine g_getR (j := 61) C dX12_deed_607 rfl (Nat.le_of_ble_eq_true rfl) (Nat.le_of_ble_eq_true rfl) fl_12_143 rfl rfl (r := 211) rfl ?_
      refine g_iload_n C dX12_deed_610 rfl ?_
      refine g_iconst C dX12_deed_611 ?_
      obtain ⟨σ87, qσ87, h⟩ := bnd h
      refine g_iast C dX12_deed_612 rfl rfl qσ87 ia1 (by decide) ?_
      exact g_vretP C dX12_deed_613 hr hlk h
    · have h := ifT c85 h
      refine g_aload_n C dX12_deed_584 rfl ?_
      refine g_getR (j := 62) C dX12_deed_585 rfl (Nat.le_of_ble_eq_true rfl) (Nat.le_of_ble_eq_true rfl) fl_12_146 rfl rfl (r := 212) rfl ?_
      refine g_iload_n C dX12_deed_588 rfl ?_
      refine g_aload_n C dX12_deed_589 rfl ?_
      refine g_getR (j := 26) C dX12_deed_590 rfl (Nat.le_of_ble_eq_true rfl) (Nat.le_of_ble_eq_true rfl) fl_12_58 rfl rfl (r := 184) rfl ?_
      refine g_iload_n C dX12_deed_593 rfl ?_
      obtain ⟨x88, qx88, h⟩ := bnd h
      refine g_iald C dX12_deed_594 rfl rfl qx88 ix1 (fun ix88 => ?_)
      obtain ⟨σ89, qσ89, h⟩ := bnd h
      refine g_iast C dX12_deed_595 rfl rfl qσ89 ia1 ix88 ?_
      refine g_goto C dX12_deed_596 rfl (tgt := 613) ?_
      exact g_vretP C dX12_deed_613 hr hlk h
  · have h := ifF c83 h
    refine g_aload_n C dX12_deed_565 rfl ?_
    refine g_iload_n C dX12_deed_566 rfl ?_
    refine g_iconst C dX12_deed_567 ?_
    refine g_iload_n C dX12_deed_568 rfl ?_
    obtain ⟨σ90, qσ90, h⟩ := bnd h
    refine g_callV0 (As := [iv a1, iv 2, iv x2]) C dX12_deed_569 mi_X12_pushes ml_12_396 (ct_X12_pushes ia1 (by decide) ix2 qσ90) rfl rfl ⟨rfl, rfl⟩ ⟨Nat.le_of_ble_eq_true rfl, Nat.le_of_ble_eq_true rfl⟩ ⟨Nat.zero_le _, Nat.zero_le _⟩ rfl (Nat.le_of_ble_eq_true rfl) (fun _ => ?_)
    refine g_goto C dX12_deed_572 rfl (tgt := 613) ?_
    exact g_vretP C dX12_deed_613 hr hlk h
