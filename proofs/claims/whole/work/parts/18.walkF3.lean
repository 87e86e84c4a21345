theorem dX12_goes_0 : decode cX12_goes 0 = .ok (.aload_n 0, 1) := by decide +kernel
theorem dX12_goes_1 : decode cX12_goes 1 = .ok (.getfield 173, 3) := by decide +kernel
theorem dX12_goes_4 : decode cX12_goes 4 = .ok (.iload_n 1, 1) := by decide +kernel
theorem dX12_goes_5 : decode cX12_goes 5 = .ok (.if_icmp .ne 4, 3) := by decide +kernel
theorem dX12_goes_8 : decode cX12_goes 8 = .ok (.return_, 1) := by decide +kernel
theorem dX12_goes_9 : decode cX12_goes 9 = .ok (.aload_n 0, 1) := by decide +kernel
theorem dX12_goes_10 : decode cX12_goes 10 = .ok (.iload_n 1, 1) := by decide +kernel
theorem dX12_goes_11 : decode cX12_goes 11 = .ok (.putfield 173, 3) := by decide +kernel
theorem dX12_goes_14 : decode cX12_goes 14 = .ok (.aload_n 0, 1) := by decide +kernel
theorem dX12_goes_15 : decode cX12_goes 15 = .ok (.invokevirtual 345, 3) := by decide +kernel
theorem dX12_goes_18 : decode cX12_goes 18 = .ok (.aload_n 0, 1) := by decide +kernel
theorem dX12_goes_19 : decode cX12_goes 19 = .ok (.iload_n 1, 1) := by decide +kernel
theorem dX12_goes_20 : decode cX12_goes 20 = .ok (.invokevirtual 371, 3) := by decide +kernel
theorem dX12_goes_23 : decode cX12_goes 23 = .ok (.iconst 0, 1) := by decide +kernel
theorem dX12_goes_24 : decode cX12_goes 24 = .ok (.istore_n 2, 1) := by decide +kernel
theorem dX12_goes_25 : decode cX12_goes 25 = .ok (.iload_n 2, 1) := by decide +kernel
theorem dX12_goes_26 : decode cX12_goes 26 = .ok (.sipush 768, 3) := by decide +kernel
theorem dX12_goes_29 : decode cX12_goes 29 = .ok (.if_icmp .ge 16, 3) := by decide +kernel
theorem dX12_goes_32 : decode cX12_goes 32 = .ok (.aload_n 0, 1) := by decide +kernel
theorem dX12_goes_33 : decode cX12_goes 33 = .ok (.getfield 188, 3) := by decide +kernel
theorem dX12_goes_36 : decode cX12_goes 36 = .ok (.iload_n 2, 1) := by decide +kernel
theorem dX12_goes_37 : decode cX12_goes 37 = .ok (.iconst 0, 1) := by decide +kernel
theorem dX12_goes_38 : decode cX12_goes 38 = .ok (.bastore, 1) := by decide +kernel
theorem dX12_goes_39 : decode cX12_goes 39 = .ok (.iinc 2 1, 3) := by decide +kernel
theorem dX12_goes_42 : decode cX12_goes 42 = .ok (.goto (-17), 3) := by decide +kernel
theorem dX12_goes_45 : decode cX12_goes 45 = .ok (.iconst 0, 1) := by decide +kernel
theorem dX12_goes_46 : decode cX12_goes 46 = .ok (.istore_n 2, 1) := by decide +kernel
theorem dX12_goes_47 : decode cX12_goes 47 = .ok (.iload_n 2, 1) := by decide +kernel
theorem dX12_goes_48 : decode cX12_goes 48 = .ok (.aload_n 0, 1) := by decide +kernel
theorem dX12_goes_49 : decode cX12_goes 49 = .ok (.getfield 333, 3) := by decide +kernel
theorem dX12_goes_52 : decode cX12_goes 52 = .ok (.if_icmp .ge 15, 3) := by decide +kernel
theorem dX12_goes_55 : decode cX12_goes 55 = .ok (.aload_n 0, 1) := by decide +kernel
theorem dX12_goes_56 : decode cX12_goes 56 = .ok (.iload_n 2, 1) := by decide +kernel
theorem dX12_goes_57 : decode cX12_goes 57 = .ok (.iload_n 1, 1) := by decide +kernel
theorem dX12_goes_58 : decode cX12_goes 58 = .ok (.invokevirtual 434, 3) := by decide +kernel
theorem dX12_goes_61 : decode cX12_goes 61 = .ok (.iinc 2 1, 3) := by decide +kernel
theorem dX12_goes_64 : decode cX12_goes 64 = .ok (.goto (-17), 3) := by decide +kernel
theorem dX12_goes_67 : decode cX12_goes 67 = .ok (.return_, 1) := by decide +kernel
abbrev rm_X12_goes : Room := { frames := 2, cells := 0, slots := 0, locals := 52 }
set_option maxRecDepth 100000 in
set_option maxHeartbeats 4000000 in
theorem ct_X12_goes {w : Wd} {l : Launch} {a1 : Int} {σ : St} {σ' : St} (ia1 : InI a1) (h : m_X12_goes a1 σ = some σ') : Ct w l yX12_goes (Cond.code yX12_goes cX12_goes 3 none :: TB) rm_X12_goes [rv w 170, iv a1] σ none True σ' := by
  refine Ct.of2 [some (rv w 170), some (iv a1), none] 1 rfl pn_RX12 (Nat.le_of_ble_eq_true rfl) ?_
  intro p e s m args below meth c C hr hlk
  unfold m_X12_goes at h
  refine g_aload_n C dX12_goes_0 rfl ?_
  refine g_getI (j := 74) C dX12_goes_1 rfl (Nat.le_of_ble_eq_true rfl) (Nat.le_of_ble_eq_true rfl) fl_12_173 rfl rfl (fun i1 => ?_)
  refine g_iload_n C dX12_goes_4 rfl ?_
  refine g_icmp_ne C dX12_goes_5 i1 ia1 rfl (tgt := 9) (fun c2 => ?_) (fun c2 => ?_)
  · have h := ifF c2 h
    refine g_aload_n C dX12_goes_9 rfl ?_
    refine g_iload_n C dX12_goes_10 rfl ?_
    obtain ⟨σ3, qσ3, h⟩ := bnd h
    refine g_putI (j := 74) C dX12_goes_11 rfl (Nat.le_of_ble_eq_true rfl) (Nat.le_of_ble_eq_true rfl) fl_12_173 rfl rfl rfl rfl qσ3 ia1 ?_
    refine g_aload_n C dX12_goes_14 rfl ?_
    obtain ⟨σ4, qσ4, h⟩ := bnd h
    refine g_callV0 (As := []) C dX12_goes_15 mi_X12_measures ml_12_345 (ct_X12_measures qσ4) rfl rfl ⟨rfl, rfl⟩ ⟨Nat.le_of_ble_eq_true rfl, Nat.le_of_ble_eq_true rfl⟩ ⟨Nat.zero_le _, Nat.zero_le _⟩ rfl (Nat.le_of_ble_eq_true rfl) (fun _ => ?_)
    refine g_aload_n C dX12_goes_18 rfl ?_
    refine g_iload_n C dX12_goes_19 rfl ?_
    obtain ⟨σ5, qσ5, h⟩ := bnd h
    refine g_callV0 (As := [iv a1]) C dX12_goes_20 mi_X12_posts ml_12_371 (ct_X12_posts ia1 qσ5) rfl rfl ⟨rfl, rfl⟩ ⟨Nat.le_of_ble_eq_true rfl, Nat.le_of_ble_eq_true rfl⟩ ⟨Nat.zero_le _, Nat.zero_le _⟩ rfl (Nat.le_of_ble_eq_true rfl) (fun _ => ?_)
    refine g_iconst C dX12_goes_23 ?_
    refine g_istore_n (L1 := [some (rv w 170), some (iv a1), some (iv 0)]) C dX12_goes_24 rfl (Nat.le_of_ble_eq_true rfl) rfl ?_
    obtain ⟨b6, hb6, hF6⟩ := bnd h
    have hX6 : ∀ (σ11 : St) , σ11 = b6 → GM w p l e rm_X12_goes s m args below meth c none True σ' 3 45 [some (rv w 170), some (iv a1), none] [] σ11 := by
      intro σ11 q
      subst q
      have h := hF6
      refine g_iconst C dX12_goes_45 ?_
      refine g_istore_n (L1 := [some (rv w 170), some (iv a1), some (iv 0)]) C dX12_goes_46 rfl (Nat.le_of_ble_eq_true rfl) rfl ?_
      obtain ⟨b12, hb12, hF12⟩ := bnd h
      have hX12 : ∀ (σ18 : St) , σ18 = b12 → GM w p l e rm_X12_goes s m args below meth c none True σ' 3 67 [none, none, none] [] σ18 := by
        intro σ18 q
        subst q
        have h := hF12
        exact g_vretP C dX12_goes_67 hr hlk h
      have hL12 : ∀ (n : Nat) (x13 : Int) (σ14 : St) , InI x13 → lpN (fun a => m_X12_goes_L47 a1 a.1 a.2) n (x13, σ14) = some b12 → GM w p l e rm_X12_goes s m args below meth c none True σ' 3 47 [some (rv w 170), some (iv a1), some (iv x13)] [] σ14 := by
        intro n
        induction n with
        | zero => intro x13 σ14 ix13 q; cases q
        | succ n ih12 =>
          intro x13 σ14 ix13 q
          obtain ⟨o12, h, hk12⟩ := lp_step q
          replace h : m_X12_goes_L47 a1 x13 σ14 = some o12 := h
          unfold m_X12_goes_L47 at h
          refine g_iload_n C dX12_goes_47 rfl ?_
          refine g_aload_n C dX12_goes_48 rfl ?_
          refine g_getI (j := 35) C dX12_goes_49 rfl (Nat.le_of_ble_eq_true rfl) (Nat.le_of_ble_eq_true rfl) fl_12_333 rfl rfl (fun i15 => ?_)
          refine g_icmp_ge C dX12_goes_52 ix13 i15 rfl (tgt := 67) (fun c16 => ?_) (fun c16 => ?_)
          · have h := ifT c16 h
            refine g_mask [false, false, false] ?_
            obtain rfl := Option.some.inj h
            exact hX12 σ14 (lpR hk12).symm
          · have h := ifF c16 h
            refine g_aload_n C dX12_goes_55 rfl ?_
            refine g_iload_n C dX12_goes_56 rfl ?_
            refine g_iload_n C dX12_goes_57 rfl ?_
            obtain ⟨σ17, qσ17, h⟩ := bnd h
            refine g_callV0 (As := [iv x13, iv a1]) C dX12_goes_58 mi_X12_goesOne ml_12_434 (ct_X12_goesOne ix13 ia1 qσ17) rfl rfl ⟨rfl, rfl⟩ ⟨Nat.le_of_ble_eq_true rfl, Nat.le_of_ble_eq_true rfl⟩ ⟨Nat.zero_le _, Nat.zero_le _⟩ rfl (Nat.le_of_ble_eq_true rfl) (fun _ => ?_)
            refine g_iinc (L1 := [some (rv w 170), some (iv a1), some (iv (wr (x13 + 1)))]) C dX12_goes_61 rfl rfl (Nat.le_of_ble_eq_true rfl) rfl ?_
            refine g_goto C dX12_goes_64 rfl (tgt := 47) ?_
            obtain rfl := Option.some.inj h
            exact ih12 _ _ (iwr _) (lpL hk12)
      exact hL12 FU _ _ (by decide) hb12
    have hL6 : ∀ (n : Nat) (x7 : Int) (σ8 : St) , InI x7 → lpN (fun a => m_X12_goes_L25 a.1 a.2) n (x7, σ8) = some b6 → GM w p l e rm_X12_goes s m args below meth c none True σ' 3 25 [some (rv w 170), some (iv a1), some (iv x7)] [] σ8 := by
      intro n
      induction n with
      | zero => intro x7 σ8 ix7 q; cases q
      | succ n ih6 =>
        intro x7 σ8 ix7 q
        obtain ⟨o6, h, hk6⟩ := lp_step q
        replace h : m_X12_goes_L25 x7 σ8 = some o6 := h
        unfold m_X12_goes_L25 at h
        refine g_iload_n C dX12_goes_25 rfl ?_
        refine g_sipush C dX12_goes_26 rfl ?_
        refine g_icmp_ge C dX12_goes_29 ix7 (by decide) rfl (tgt := 45) (fun c9 => ?_) (fun c9 => ?_)
        · have h := ifT c9 h
          refine g_mask [true, true, false] ?_
          obtain rfl := Option.some.inj h
          exact hX6 σ8 (lpR hk6).symm
        · have h := ifF c9 h
          refine g_aload_n C dX12_goes_32 rfl ?_
          refine g_getR (j := 79) C dX12_goes_33 rfl (Nat.le_of_ble_eq_true rfl) (Nat.le_of_ble_eq_true rfl) fl_12_188 rfl rfl (r := 225) rfl ?_
          refine g_iload_n C dX12_goes_36 rfl ?_
          refine g_iconst C dX12_goes_37 ?_
          obtain ⟨σ10, qσ10, h⟩ := bnd h
          refine g_zast C dX12_goes_38 rfl rfl qσ10 ix7 (Or.inl rfl) ?_
          refine g_iinc (L1 := [some (rv w 170), some (iv a1), some (iv (wr (x7 + 1)))]) C dX12_goes_39 rfl rfl (Nat.le_of_ble_eq_true rfl) rfl ?_
          refine g_goto C dX12_goes_42 rfl (tgt := 25) ?_
          obtain rfl := Option.some.inj h
          exact ih6 _ _ (iwr _) (lpL hk6)
    exact hL6 FU _ _ (by decide) hb6
  · have h := ifT c2 h
    exact g_vretP C dX12_goes_8 hr hlk h
theorem dX12_canBe_0 : decode cX12_canBe 0 = .ok (.aload_n 0, 1) := by decide +kernel
theorem dX12_canBe_1 : decode cX12_canBe 1 = .ok (.iconst 0, 1) := by decide +kernel
theorem dX12_canBe_2 : decode cX12_canBe 2 = .ok (.putfield 1, 3) := by decide +kernel
theorem dX12_canBe_5 : decode cX12_canBe 5 = .ok (.aload_n 0, 1) := by decide +kernel
theorem dX12_canBe_6 : decode cX12_canBe 6 = .ok (.iload_n 1, 1) := by decide +kernel
theorem dX12_canBe_7 : decode cX12_canBe 7 = .ok (.invokevirtual 342, 3) := by decide +kernel
theorem dX12_canBe_10 : decode cX12_canBe 10 = .ok (.ifCond .eq 27, 3) := by decide +kernel
theorem dX12_canBe_13 : decode cX12_canBe 13 = .ok (.aload_n 0, 1) := by decide +kernel
theorem dX12_canBe_14 : decode cX12_canBe 14 = .ok (.iload_n 2, 1) := by decide +kernel
theorem dX12_canBe_15 : decode cX12_canBe 15 = .ok (.invokevirtual 339, 3) := by decide +kernel
theorem dX12_canBe_18 : decode cX12_canBe 18 = .ok (.ifCond .eq 19, 3) := by decide +kernel
theorem dX12_canBe_21 : decode cX12_canBe 21 = .ok (.iload_n 3, 1) := by decide +kernel
theorem dX12_canBe_22 : decode cX12_canBe 22 = .ok (.invokestatic 359, 3) := by decide +kernel
theorem dX12_canBe_25 : decode cX12_canBe 25 = .ok (.ifCond .eq 12, 3) := by decide +kernel
theorem dX12_canBe_28 : decode cX12_canBe 28 = .ok (.aload_n 0, 1) := by decide +kernel
theorem dX12_canBe_29 : decode cX12_canBe 29 = .ok (.iload 4, 2) := by decide +kernel
theorem dX12_canBe_31 : decode cX12_canBe 31 = .ok (.invokevirtual 362, 3) := by decide +kernel
theorem dX12_canBe_34 : decode cX12_canBe 34 = .ok (.ifCond .ne 5, 3) := by decide +kernel
theorem dX12_canBe_37 : decode cX12_canBe 37 = .ok (.iconst (-1), 1) := by decide +kernel
theorem dX12_canBe_38 : decode cX12_canBe 38 = .ok (.ireturn, 1) := by decide +kernel
theorem dX12_canBe_39 : decode cX12_canBe 39 = .ok (.aload_n 0, 1) := by decide +kernel
theorem dX12_canBe_40 : decode cX12_canBe 40 = .ok (.iload 4, 2) := by decide +kernel
theorem dX12_canBe_42 : decode cX12_canBe 42 = .ok (.invokevirtual 443, 3) := by decide +kernel
theorem dX12_canBe_45 : decode cX12_canBe 45 = .ok (.aload_n 0, 1) := by decide +kernel
theorem dX12_canBe_46 : decode cX12_canBe 46 = .ok (.getfield 176, 3) := by decide +kernel
theorem dX12_canBe_49 : decode cX12_canBe 49 = .ok (.sipush 960, 3) := by decide +kernel
theorem dX12_canBe_52 : decode cX12_canBe 52 = .ok (.iload_n 1, 1) := by decide +kernel
theorem dX12_canBe_53 : decode cX12_canBe 53 = .ok (.imul, 1) := by decide +kernel
theorem dX12_canBe_54 : decode cX12_canBe 54 = .ok (.bipush 10, 2) := by decide +kernel
theorem dX12_canBe_56 : decode cX12_canBe 56 = .ok (.iload_n 3, 1) := by decide +kernel
theorem dX12_canBe_57 : decode cX12_canBe 57 = .ok (.imul, 1) := by decide +kernel
theorem dX12_canBe_58 : decode cX12_canBe 58 = .ok (.iadd, 1) := by decide +kernel
theorem dX12_canBe_59 : decode cX12_canBe 59 = .ok (.iload_n 2, 1) := by decide +kernel
theorem dX12_canBe_60 : decode cX12_canBe 60 = .ok (.iadd, 1) := by decide +kernel
theorem dX12_canBe_61 : decode cX12_canBe 61 = .ok (.baload, 1) := by decide +kernel
theorem dX12_canBe_62 : decode cX12_canBe 62 = .ok (.ifCond .eq 7, 3) := by decide +kernel
theorem dX12_canBe_65 : decode cX12_canBe 65 = .ok (.iconst 1, 1) := by decide +kernel
theorem dX12_canBe_66 : decode cX12_canBe 66 = .ok (.goto 4, 3) := by decide +kernel
theorem dX12_canBe_69 : decode cX12_canBe 69 = .ok (.iconst 0, 1) := by decide +kernel
theorem dX12_canBe_70 : decode cX12_canBe 70 = .ok (.ireturn, 1) := by decide +kernel
abbrev rm_X12_canBe : Room := { frames := 3, cells := 0, slots := 0, locals := 74 }
set_option maxRecDepth 100000 in
set_option maxHeartbeats 4000000 in
theorem ct_X12_canBe {w : Wd} {l : Launch} {a1 : Int} {a2 : Int} {a3 : Int} {a4 : Int} {σ : St} {y : Int} {σ' : St} (ia1 : InI a1) (ia2 : InI a2) (ia3 : InI a3) (ia4 : InI a4) (h : m_X12_canBe a1 a2 a3 a4 σ = some (y, σ')) : Ct w l yX12_canBe (Cond.code yX12_canBe cX12_canBe 5 (some .int) :: TB) rm_X12_canBe [rv w 170, iv a1, iv a2, iv a3, iv a4] σ (some (iv y)) (InI y) σ' := by
  refine Ct.of2 [some (rv w 170), some (iv a1), some (iv a2), some (iv a3), some (iv a4)] 0 rfl pn_RX12 (Nat.le_of_ble_eq_true rfl) ?_
  intro p e s m args below meth c C hr hlk
  unfold m_X12_canBe at h
  refine g_aload_n C dX12_canBe_0 rfl ?_
  refine g_iconst C dX12_canBe_1 ?_
  obtain ⟨σ1, qσ1, h⟩ := bnd h
  refine g_putI (j := 0) C dX12_canBe_2 rfl (Nat.le_of_ble_eq_true rfl) (Nat.le_of_ble_eq_true rfl) fl_12_1 rfl rfl rfl rfl qσ1 (by decide) ?_
  refine g_aload_n C dX12_canBe_5 rfl ?_
  refine g_iload_n C dX12_canBe_6 rfl ?_
  obtain ⟨x2, qx2, h⟩ := bnd h
  refine g_callV1 (As := [iv a1]) C dX12_canBe_7 mi_X12_isAgent ml_12_342 (ct_X12_isAgent ia1 qx2) rfl rfl ⟨rfl, rfl⟩ ⟨Nat.le_of_ble_eq_true rfl, Nat.le_of_ble_eq_true rfl⟩ ⟨Nat.zero_le _, Nat.zero_le _⟩ rfl (Nat.le_of_ble_eq_true rfl) (fun ix2 => ?_)
  refine g_if_eq C dX12_canBe_10 (zI ix2) rfl (tgt := 37) (fun c3 => ?_) (fun c3 => ?_)
  · have h := ifT c3 h
    refine g_iconst C dX12_canBe_37 ?_
    exact g_iretP C dX12_canBe_38 hr hlk h (by decide)
  · have h := ifF c3 h
    refine g_aload_n C dX12_canBe_13 rfl ?_
    refine g_iload_n C dX12_canBe_14 rfl ?_
    obtain ⟨x4, qx4, h⟩ := bnd h
    refine g_callV1 (As := [iv a2]) C dX12_canBe_15 mi_X12_isSpot ml_12_339 (ct_X12_isSpot ia2 qx4) rfl rfl ⟨rfl, rfl⟩ ⟨Nat.le_of_ble_eq_true rfl, Nat.le_of_ble_eq_true rfl⟩ ⟨Nat.zero_le _, Nat.zero_le _⟩ rfl (Nat.le_of_ble_eq_true rfl) (fun ix4 => ?_)
    refine g_if_eq C dX12_canBe_18 (zI ix4) rfl (tgt := 37) (fun c5 => ?_) (fun c5 => ?_)
    · have h := ifT c5 h
      refine g_iconst C dX12_canBe_37 ?_
      exact g_iretP C dX12_canBe_38 hr hlk h (by decide)
    · have h := ifF c5 h
      refine g_iload_n C dX12_canBe_21 rfl ?_
      obtain ⟨x6, qx6, h⟩ := bnd h
      refine g_callS1 (As := [iv a3]) C dX12_canBe_22 mi_X12_isTick ml_12_359 (ct_X12_isTick ia3 qx6) rfl ⟨rfl, rfl⟩ ⟨Nat.le_of_ble_eq_true rfl, Nat.le_of_ble_eq_true rfl⟩ ⟨Nat.zero_le _, Nat.zero_le _⟩ rfl (Nat.le_of_ble_eq_true rfl) (fun ix6 => ?_)
      refine g_if_eq C dX12_canBe_25 (zI ix6) rfl (tgt := 37) (fun c7 => ?_) (fun c7 => ?_)
      · have h := ifT c7 h
        refine g_iconst C dX12_canBe_37 ?_
        exact g_iretP C dX12_canBe_38 hr hlk h (by decide)
      · have h := ifF c7 h
        refine g_aload_n C dX12_canBe_28 rfl ?_
        refine g_iload C dX12_canBe_29 rfl ?_
        obtain ⟨x8, qx8, h⟩ := bnd h
        refine g_callV1 (As := [iv a4]) C dX12_canBe_31 mi_X12_isKnown ml_12_362 (ct_X12_isKnown ia4 qx8) rfl rfl ⟨rfl, rfl⟩ ⟨Nat.le_of_ble_eq_true rfl, Nat.le_of_ble_eq_true rfl⟩ ⟨Nat.zero_le _, Nat.zero_le _⟩ rfl (Nat.le_of_ble_eq_true rfl) (fun ix8 => ?_)
        refine g_if_ne C dX12_canBe_34 (zI ix8) rfl (tgt := 39) (fun c9 => ?_) (fun c9 => ?_)
        · have h := ifF c9 h
          refine g_aload_n C dX12_canBe_39 rfl ?_
          refine g_iload C dX12_canBe_40 rfl ?_
          obtain ⟨σ10, qσ10, h⟩ := bnd h
          refine g_callV0 (As := [iv a4]) C dX12_canBe_42 mi_X12_goes ml_12_443 (ct_X12_goes ia4 qσ10) rfl rfl ⟨rfl, rfl⟩ ⟨Nat.le_of_ble_eq_true rfl, Nat.le_of_ble_eq_true rfl⟩ ⟨Nat.zero_le _, Nat.zero_le _⟩ rfl (Nat.le_of_ble_eq_true rfl) (fun _ => ?_)
          refine g_aload_n C dX12_canBe_45 rfl ?_
          refine g_getR (j := 75) C dX12_canBe_46 rfl (Nat.le_of_ble_eq_true rfl) (Nat.le_of_ble_eq_true rfl) fl_12_176 rfl rfl (r := 221) rfl ?_
          refine g_sipush C dX12_canBe_49 rfl ?_
          refine g_iload_n C dX12_canBe_52 rfl ?_
          refine g_imul C dX12_canBe_53 ?_
          refine g_bipush C dX12_canBe_54 rfl ?_
          refine g_iload_n C dX12_canBe_56 rfl ?_
          refine g_imul C dX12_canBe_57 ?_
          refine g_iadd C dX12_canBe_58 ?_
          refine g_iload_n C dX12_canBe_59 rfl ?_
          refine g_iadd C dX12_canBe_60 ?_
          obtain ⟨x11, qx11, h⟩ := bnd h
          refine g_zald C dX12_canBe_61 rfl rfl qx11 (iwr _) (fun ix11 => ?_)
          refine g_if_eq C dX12_canBe_62 (zI ix11) rfl (tgt := 69) (fun c12 => ?_) (fun c12 => ?_)
          · have h := ifT c12 h
            refine g_iconst C dX12_canBe_69 ?_
            exact g_iretP C dX12_canBe_70 hr hlk h (by decide)
          · have h := ifF c12 h
            refine g_iconst C dX12_canBe_65 ?_
            refine g_goto C dX12_canBe_66 rfl (tgt := 70) ?_
            exact g_iretP C dX12_canBe_70 hr hlk h (by decide)
        · have h := ifT c9 h
          refine g_iconst C dX12_canBe_37 ?_
          exact g_iretP C dX12_canBe_38 hr hlk h (by decide)
theorem dX12_fits_0 : decode cX12_fits 0 = .ok (.aload_n 0, 1) := by decide +kernel
theorem dX12_fits_1 : decode cX12_fits 1 = .ok (.iconst 0, 1) := by decide +kernel
theorem dX12_fits_2 : decode cX12_fits 2 = .ok (.putfield 1, 3) := by decide +kernel
theorem dX12_fits_5 : decode cX12_fits 5 = .ok (.aload_n 0, 1) := by decide +kernel
theorem dX12_fits_6 : decode cX12_fits 6 = .ok (.iload_n 1, 1) := by decide +kernel
theorem dX12_fits_7 : decode cX12_fits 7 = .ok (.invokevirtual 342, 3) := by decide +kernel
theorem dX12_fits_10 : decode cX12_fits 10 = .ok (.ifCond .eq 11, 3) := by decide +kernel
theorem dX12_fits_13 : decode cX12_fits 13 = .ok (.aload_n 0, 1) := by decide +kernel
theorem dX12_fits_14 : decode cX12_fits 14 = .ok (.iload_n 2, 1) := by decide +kernel
theorem dX12_fits_15 : decode cX12_fits 15 = .ok (.invokevirtual 362, 3) := by decide +kernel
theorem dX12_fits_18 : decode cX12_fits 18 = .ok (.ifCond .ne 5, 3) := by decide +kernel
theorem dX12_fits_21 : decode cX12_fits 21 = .ok (.iconst (-1), 1) := by decide +kernel
theorem dX12_fits_22 : decode cX12_fits 22 = .ok (.ireturn, 1) := by decide +kernel
theorem dX12_fits_23 : decode cX12_fits 23 = .ok (.aload_n 0, 1) := by decide +kernel
theorem dX12_fits_24 : decode cX12_fits 24 = .ok (.iload_n 2, 1) := by decide +kernel
theorem dX12_fits_25 : decode cX12_fits 25 = .ok (.invokevirtual 443, 3) := by decide +kernel
theorem dX12_fits_28 : decode cX12_fits 28 = .ok (.iconst 0, 1) := by decide +kernel
theorem dX12_fits_29 : decode cX12_fits 29 = .ok (.istore_n 3, 1) := by decide +kernel
theorem dX12_fits_30 : decode cX12_fits 30 = .ok (.iload_n 3, 1) := by decide +kernel
theorem dX12_fits_31 : decode cX12_fits 31 = .ok (.aload_n 0, 1) := by decide +kernel
theorem dX12_fits_32 : decode cX12_fits 32 = .ok (.getfield 330, 3) := by decide +kernel
theorem dX12_fits_35 : decode cX12_fits 35 = .ok (.if_icmp .ge 26, 3) := by decide +kernel
theorem dX12_fits_38 : decode cX12_fits 38 = .ok (.aload_n 0, 1) := by decide +kernel
theorem dX12_fits_39 : decode cX12_fits 39 = .ok (.getfield 176, 3) := by decide +kernel
theorem dX12_fits_42 : decode cX12_fits 42 = .ok (.sipush 960, 3) := by decide +kernel
theorem dX12_fits_45 : decode cX12_fits 45 = .ok (.iload_n 1, 1) := by decide +kernel
theorem dX12_fits_46 : decode cX12_fits 46 = .ok (.imul, 1) := by decide +kernel
theorem dX12_fits_47 : decode cX12_fits 47 = .ok (.iload_n 3, 1) := by decide +kernel
theorem dX12_fits_48 : decode cX12_fits 48 = .ok (.iadd, 1) := by decide +kernel
theorem dX12_fits_49 : decode cX12_fits 49 = .ok (.baload, 1) := by decide +kernel
theorem dX12_fits_50 : decode cX12_fits 50 = .ok (.ifCond .eq 5, 3) := by decide +kernel
theorem dX12_fits_53 : decode cX12_fits 53 = .ok (.iconst 1, 1) := by decide +kernel
theorem dX12_fits_54 : decode cX12_fits 54 = .ok (.ireturn, 1) := by decide +kernel
theorem dX12_fits_55 : decode cX12_fits 55 = .ok (.iinc 3 1, 3) := by decide +kernel
theorem dX12_fits_58 : decode cX12_fits 58 = .ok (.goto (-28), 3) := by decide +kernel
theorem dX12_fits_61 : decode cX12_fits 61 = .ok (.iconst 0, 1) := by decide +kernel
theorem dX12_fits_62 : decode cX12_fits 62 = .ok (.ireturn, 1) := by decide +kernel
abbrev rm_X12_fits : Room := { frames := 3, cells := 0, slots := 0, locals := 74 }
set_option maxRecDepth 100000 in
set_option maxHeartbeats 4000000 in
theorem ct_X12_fits {w : Wd} {l : Launch} {a1 : Int} {a2 : Int} {σ : St} {y : Int} {σ' : St} (ia1 : InI a1) (ia2 : InI a2) (h : m_X12_fits a1 a2 σ = some (y, σ')) : Ct w l yX12_fits (Cond.code yX12_fits cX12_fits 4 (some .int) :: TB) rm_X12_fits [rv w 170, iv a1, iv a2] σ (some (iv y)) (InI y) σ' := by
  refine Ct.of2 [some (rv w 170), some (iv a1), some (iv a2), none] 1 rfl pn_RX12 (Nat.le_of_ble_eq_true rfl) ?_
  intro p e s m args below meth c C hr hlk
  unfold m_X12_fits at h
  refine g_aload_n C dX12_fits_0 rfl ?_
  refine g_iconst C dX12_fits_1 ?_
  obtain ⟨σ1, qσ1, h⟩ := bnd h
  refine g_putI (j := 0) C dX12_fits_2 rfl (Nat.le_of_ble_eq_true rfl) (Nat.le_of_ble_eq_true rfl) fl_12_1 rfl rfl rfl rfl qσ1 (by decide) ?_
  refine g_aload_n C dX12_fits_5 rfl ?_
  refine g_iload_n C dX12_fits_6 rfl ?_
  obtain ⟨x2, qx2, h⟩ := bnd h
  refine g_callV1 (As := [iv a1]) C dX12_fits_7 mi_X12_isAgent ml_12_342 (ct_X12_isAgent ia1 qx2) rfl rfl ⟨rfl, rfl⟩ ⟨Nat.le_of_ble_eq_true rfl, Nat.le_of_ble_eq_true rfl⟩ ⟨Nat.zero_le _, Nat.zero_le _⟩ rfl (Nat.le_of_ble_eq_true rfl) (fun ix2 => ?_)
  refine g_if_eq C dX12_fits_10 (zI ix2) rfl (tgt := 21) (fun c3 => ?_) (fun c3 => ?_)
  · have h := ifT c3 h
    refine g_iconst C dX12_fits_21 ?_
    exact g_iretP C dX12_fits_22 hr hlk h (by decide)
  · have h := ifF c3 h
    refine g_aload_n C dX12_fits_13 rfl ?_
    refine g_iload_n C dX12_fits_14 rfl ?_
    obtain ⟨x4, qx4, h⟩ := bnd h
    refine g_callV1 (As := [iv a2]) C dX12_fits_15 mi_X12_isKnown ml_12_362 (ct_X12_isKnown ia2 qx4) rfl rfl ⟨rfl, rfl⟩ ⟨Nat.le_of_ble_eq_true rfl, Nat.le_of_ble_eq_true rfl⟩ ⟨Nat.zero_le _, Nat.zero_le _⟩ rfl (Nat.le_of_ble_eq_true rfl) (fun ix4 => ?_)
    refine g_if_ne C dX12_fits_18 (zI ix4) rfl (tgt := 23) (fun c5 => ?_) (fun c5 => ?_)
    · have h := ifF c5 h
      refine g_aload_n C dX12_fits_23 rfl ?_
      refine g_iload_n C dX12_fits_24 rfl ?_
      obtain ⟨σ6, qσ6, h⟩ := bnd h
      refine g_callV0 (As := [iv a2]) C dX12_fits_25 mi_X12_goes ml_12_443 (ct_X12_goes ia2 qσ6) rfl rfl ⟨rfl, rfl⟩ ⟨Nat.le_of_ble_eq_true rfl, Nat.le_of_ble_eq_true rfl⟩ ⟨Nat.zero_le _, Nat.zero_le _⟩ rfl (Nat.le_of_ble_eq_true rfl) (fun _ => ?_)
      refine g_iconst C dX12_fits_28 ?_
      refine g_istore_n (L1 := [some (rv w 170), some (iv a1), some (iv a2), some (iv 0)]) C dX12_fits_29 rfl (Nat.le_of_ble_eq_true rfl) rfl ?_
      refine g_mask [true, true, false, true] ?_
      obtain ⟨b7, hb7, hF7⟩ := bnd h
      have hX7 : Sum.inl () = b7 → GM w p l e rm_X12_fits s m args below meth c (some (iv y)) (InI y) σ' 4 61 [none, none, none, none] [] σ6 := by
        intro q
        subst q
        have h := hF7
        refine g_iconst C dX12_fits_61 ?_
        exact g_iretP C dX12_fits_62 hr hlk h (by decide)
      have hL7 : ∀ (n : Nat) (x8 : Int) , InI x8 → lpN (fun a => m_X12_fits_L30 σ6 a1 a) n x8 = some b7 → GM w p l e rm_X12_fits s m args below meth c (some (iv y)) (InI y) σ' 4 30 [some (rv w 170), some (iv a1), none, some (iv x8)] [] σ6 := by
        intro n
        induction n with
        | zero => intro x8 ix8 q; cases q
        | succ n ih7 =>
          intro x8 ix8 q
          obtain ⟨o7, h, hk7⟩ := lp_step q
          replace h : m_X12_fits_L30 σ6 a1 x8 = some o7 := h
          unfold m_X12_fits_L30 at h
          refine g_iload_n C dX12_fits_30 rfl ?_
          refine g_aload_n C dX12_fits_31 rfl ?_
          refine g_getI (j := 30) C dX12_fits_32 rfl (Nat.le_of_ble_eq_true rfl) (Nat.le_of_ble_eq_true rfl) fl_12_330 rfl rfl (fun i9 => ?_)
          refine g_icmp_ge C dX12_fits_35 ix8 i9 rfl (tgt := 61) (fun c10 => ?_) (fun c10 => ?_)
          · have h := ifT c10 h
            refine g_mask [false, false, true, false] ?_
            obtain rfl := Option.some.inj h
            exact hX7  (lpR hk7).symm
          · have h := ifF c10 h
            refine g_aload_n C dX12_fits_38 rfl ?_
            refine g_getR (j := 75) C dX12_fits_39 rfl (Nat.le_of_ble_eq_true rfl) (Nat.le_of_ble_eq_true rfl) fl_12_176 rfl rfl (r := 221) rfl ?_
            refine g_sipush C dX12_fits_42 rfl ?_
            refine g_iload_n C dX12_fits_45 rfl ?_
            refine g_imul C dX12_fits_46 ?_
            refine g_iload_n C dX12_fits_47 rfl ?_
            refine g_iadd C dX12_fits_48 ?_
            obtain ⟨x11, qx11, h⟩ := bnd h
            refine g_zald C dX12_fits_49 rfl rfl qx11 (iwr _) (fun ix11 => ?_)
            refine g_if_eq C dX12_fits_50 (zI ix11) rfl (tgt := 55) (fun c12 => ?_) (fun c12 => ?_)
            · have h := ifT c12 h
              refine g_iinc (L1 := [some (rv w 170), some (iv a1), none, some (iv (wr (x8 + 1)))]) C dX12_fits_55 rfl rfl (Nat.le_of_ble_eq_true rfl) rfl ?_
              refine g_goto C dX12_fits_58 rfl (tgt := 30) ?_
              obtain rfl := Option.some.inj h
              exact ih7 _ (iwr _) (lpL hk7)
            · have h := ifF c12 h
              refine g_iconst C dX12_fits_53 ?_
              obtain rfl := Option.some.inj h
              have e7 := (lpR hk7).symm
              subst e7
              have h := hF7
              exact g_iretP C dX12_fits_54 hr hlk h (by decide)
      exact hL7 FU _ (by decide) hb7
    · have h := ifT c5 h
      refine g_iconst C dX12_fits_21 ?_
      exact g_iretP C dX12_fits_22 hr hlk h (by decide)
theorem dX12_carries_0 : decode cX12_carries 0 = .ok (.iload_n 2, 1) := by decide +kernel
theorem dX12_carries_1 : decode cX12_carries 1 = .ok (.iload 4, 2) := by decide +kernel
theorem dX12_carries_3 : decode cX12_carries 3 = .ok (.if_icmp .ne 5, 3) := by decide +kernel
theorem dX12_carries_6 : decode cX12_carries 6 = .ok (.iconst 0, 1) := by decide +kernel
theorem dX12_carries_7 : decode cX12_carries 7 = .ok (.ireturn, 1) := by decide +kernel
theorem dX12_carries_8 : decode cX12_carries 8 = .ok (.aload_n 0, 1) := by decide +kernel
theorem dX12_carries_9 : decode cX12_carries 9 = .ok (.getfield 191, 3) := by decide +kernel
theorem dX12_carries_12 : decode cX12_carries 12 = .ok (.sipush 960, 3) := by decide +kernel
theorem dX12_carries_15 : decode cX12_carries 15 = .ok (.iload_n 1, 1) := by decide +kernel
theorem dX12_carries_16 : decode cX12_carries 16 = .ok (.imul, 1) := by decide +kernel
theorem dX12_carries_17 : decode cX12_carries 17 = .ok (.bipush 10, 2) := by decide +kernel
theorem dX12_carries_19 : decode cX12_carries 19 = .ok (.iload_n 2, 1) := by decide +kernel
theorem dX12_carries_20 : decode cX12_carries 20 = .ok (.imul, 1) := by decide +kernel
theorem dX12_carries_21 : decode cX12_carries 21 = .ok (.iadd, 1) := by decide +kernel
theorem dX12_carries_22 : decode cX12_carries 22 = .ok (.bipush 10, 2) := by decide +kernel
theorem dX12_carries_24 : decode cX12_carries 24 = .ok (.isub, 1) := by decide +kernel
theorem dX12_carries_25 : decode cX12_carries 25 = .ok (.iload_n 3, 1) := by decide +kernel
theorem dX12_carries_26 : decode cX12_carries 26 = .ok (.iadd, 1) := by decide +kernel
theorem dX12_carries_27 : decode cX12_carries 27 = .ok (.baload, 1) := by decide +kernel
theorem dX12_carries_28 : decode cX12_carries 28 = .ok (.ifCond .eq 5, 3) := by decide +kernel
theorem dX12_carries_31 : decode cX12_carries 31 = .ok (.iconst 1, 1) := by decide +kernel
theorem dX12_carries_32 : decode cX12_carries 32 = .ok (.ireturn, 1) := by decide +kernel
theorem dX12_carries_33 : decode cX12_carries 33 = .ok (.iconst 0, 1) := by decide +kernel
theorem dX12_carries_34 : decode cX12_carries 34 = .ok (.istore 5, 2) := by decide +kernel
theorem dX12_carries_36 : decode cX12_carries 36 = .ok (.iload 5, 2) := by decide +kernel
theorem dX12_carries_38 : decode cX12_carries 38 = .ok (.aload_n 0, 1) := by decide +kernel
theorem dX12_carries_39 : decode cX12_carries 39 = .ok (.getfield 336, 3) := by decide +kernel
theorem dX12_carries_42 : decode cX12_carries 42 = .ok (.if_icmp .ge 112, 3) := by decide +kernel
theorem dX12_carries_45 : decode cX12_carries 45 = .ok (.aload_n 0, 1) := by decide +kernel
theorem dX12_carries_46 : decode cX12_carries 46 = .ok (.getfield 67, 3) := by decide +kernel
theorem dX12_carries_49 : decode cX12_carries 49 = .ok (.iload 5, 2) := by decide +kernel
theorem dX12_carries_51 : decode cX12_carries 51 = .ok (.iaload, 1) := by decide +kernel
theorem dX12_carries_52 : decode cX12_carries 52 = .ok (.iload_n 3, 1) := by decide +kernel
theorem dX12_carries_53 : decode cX12_carries 53 = .ok (.if_icmp .eq 17, 3) := by decide +kernel
theorem dX12_carries_56 : decode cX12_carries 56 = .ok (.aload_n 0, 1) := by decide +kernel
theorem dX12_carries_57 : decode cX12_carries 57 = .ok (.getfield 70, 3) := by decide +kernel
theorem dX12_carries_60 : decode cX12_carries 60 = .ok (.iload 5, 2) := by decide +kernel
theorem dX12_carries_62 : decode cX12_carries 62 = .ok (.iaload, 1) := by decide +kernel
theorem dX12_carries_63 : decode cX12_carries 63 = .ok (.iload_n 3, 1) := by decide +kernel
theorem dX12_carries_64 : decode cX12_carries 64 = .ok (.if_icmp .eq 6, 3) := by decide +kernel
theorem dX12_carries_67 : decode cX12_carries 67 = .ok (.goto 81, 3) := by decide +kernel
theorem dX12_carries_70 : decode cX12_carries 70 = .ok (.aload_n 0, 1) := by decide +kernel
theorem dX12_carries_71 : decode cX12_carries 71 = .ok (.getfield 67, 3) := by decide +kernel
theorem dX12_carries_74 : decode cX12_carries 74 = .ok (.iload 5, 2) := by decide +kernel
theorem dX12_carries_76 : decode cX12_carries 76 = .ok (.iaload, 1) := by decide +kernel
theorem dX12_carries_77 : decode cX12_carries 77 = .ok (.aload_n 0, 1) := by decide +kernel
theorem dX12_carries_78 : decode cX12_carries 78 = .ok (.getfield 70, 3) := by decide +kernel
theorem dX12_carries_81 : decode cX12_carries 81 = .ok (.iload 5, 2) := by decide +kernel
theorem dX12_carries_83 : decode cX12_carries 83 = .ok (.iaload, 1) := by decide +kernel
theorem dX12_carries_84 : decode cX12_carries 84 = .ok (.iadd, 1) := by decide +kernel
theorem dX12_carries_85 : decode cX12_carries 85 = .ok (.iload_n 3, 1) := by decide +kernel
theorem dX12_carries_86 : decode cX12_carries 86 = .ok (.isub, 1) := by decide +kernel
theorem dX12_carries_87 : decode cX12_carries 87 = .ok (.istore 6, 2) := by decide +kernel
theorem dX12_carries_89 : decode cX12_carries 89 = .ok (.iload_n 2, 1) := by decide +kernel
theorem dX12_carries_90 : decode cX12_carries 90 = .ok (.aload_n 0, 1) := by decide +kernel
theorem dX12_carries_91 : decode cX12_carries 91 = .ok (.getfield 73, 3) := by decide +kernel
theorem dX12_carries_94 : decode cX12_carries 94 = .ok (.iload 5, 2) := by decide +kernel
theorem dX12_carries_96 : decode cX12_carries 96 = .ok (.iaload, 1) := by decide +kernel
theorem dX12_carries_97 : decode cX12_carries 97 = .ok (.isub, 1) := by decide +kernel
theorem dX12_carries_98 : decode cX12_carries 98 = .ok (.istore 7, 2) := by decide +kernel
theorem dX12_carries_100 : decode cX12_carries 100 = .ok (.iload 7, 2) := by decide +kernel
theorem dX12_carries_102 : decode cX12_carries 102 = .ok (.iload 4, 2) := by decide +kernel
theorem dX12_carries_104 : decode cX12_carries 104 = .ok (.if_icmp .lt 44, 3) := by decide +kernel
theorem dX12_carries_107 : decode cX12_carries 107 = .ok (.aload_n 0, 1) := by decide +kernel
theorem dX12_carries_108 : decode cX12_carries 108 = .ok (.getfield 191, 3) := by decide +kernel
theorem dX12_carries_111 : decode cX12_carries 111 = .ok (.sipush 960, 3) := by decide +kernel
theorem dX12_carries_114 : decode cX12_carries 114 = .ok (.iload_n 1, 1) := by decide +kernel
theorem dX12_carries_115 : decode cX12_carries 115 = .ok (.imul, 1) := by decide +kernel
theorem dX12_carries_116 : decode cX12_carries 116 = .ok (.bipush 10, 2) := by decide +kernel
theorem dX12_carries_118 : decode cX12_carries 118 = .ok (.iload 7, 2) := by decide +kernel
theorem dX12_carries_120 : decode cX12_carries 120 = .ok (.imul, 1) := by decide +kernel
theorem dX12_carries_121 : decode cX12_carries 121 = .ok (.iadd, 1) := by decide +kernel
theorem dX12_carries_122 : decode cX12_carries 122 = .ok (.iload 6, 2) := by decide +kernel
theorem dX12_carries_124 : decode cX12_carries 124 = .ok (.iadd, 1) := by decide +kernel
theorem dX12_carries_125 : decode cX12_carries 125 = .ok (.baload, 1) := by decide +kernel
theorem dX12_carries_126 : decode cX12_carries 126 = .ok (.ifCond .eq 22, 3) := by decide +kernel
theorem dX12_carries_129 : decode cX12_carries 129 = .ok (.aload_n 0, 1) := by decide +kernel
theorem dX12_carries_130 : decode cX12_carries 130 = .ok (.iload_n 1, 1) := by decide +kernel
theorem dX12_carries_131 : decode cX12_carries 131 = .ok (.iload 7, 2) := by decide +kernel
theorem dX12_carries_133 : decode cX12_carries 133 = .ok (.aload_n 0, 1) := by decide +kernel
theorem dX12_carries_134 : decode cX12_carries 134 = .ok (.getfield 73, 3) := by decide +kernel
theorem dX12_carries_137 : decode cX12_carries 137 = .ok (.iload 5, 2) := by decide +kernel
theorem dX12_carries_139 : decode cX12_carries 139 = .ok (.iaload, 1) := by decide +kernel
theorem dX12_carries_140 : decode cX12_carries 140 = .ok (.invokevirtual 440, 3) := by decide +kernel
theorem dX12_carries_143 : decode cX12_carries 143 = .ok (.ifCond .eq 5, 3) := by decide +kernel
theorem dX12_carries_146 : decode cX12_carries 146 = .ok (.iconst 1, 1) := by decide +kernel
theorem dX12_carries_147 : decode cX12_carries 147 = .ok (.ireturn, 1) := by decide +kernel
theorem dX12_carries_148 : decode cX12_carries 148 = .ok (.iinc 5 1, 3) := by decide +kernel
theorem dX12_carries_151 : decode cX12_carries 151 = .ok (.goto (-115), 3) := by decide +kernel
theorem dX12_carries_154 : decode cX12_carries 154 = .ok (.iconst 0, 1) := by decide +kernel
theorem dX12_carries_155 : decode cX12_carries 155 = .ok (.ireturn, 1) := by decide +kernel
abbrev rm_X12_carries : Room := { frames := 1, cells := 0, slots := 0, locals := 24 }
set_option maxRecDepth 100000 in
set_option maxHeartbeats 4000000 in
theorem ct_X12_carries {w : Wd} {l : Launch} {a1 : Int} {a2 : Int} {a3 : Int} {a4 : Int} {σ : St} {y : Int} (ia1 : InI a1) (ia2 : InI a2) (ia3 : InI a3) (ia4 : InI a4) (h : m_X12_carries a1 a2 a3 a4 σ = some y) : Ct w l yX12_carries (Cond.code yX12_carries cX12_carries 8 (some .boolean) :: TB) rm_X12_carries [rv w 170, iv a1, iv a2, iv a3, iv a4] σ (some (iv y)) (InZ y) σ := by
  refine Ct.of2 [some (rv w 170), some (iv a1), some (iv a2), some (iv a3), some (iv a4), none, none, none] 3 rfl pn_RX12 (Nat.le_of_ble_eq_true rfl) ?_
  intro p e s m args below meth c C hr hlk
  unfold m_X12_carries at h
  refine g_iload_n C dX12_carries_0 rfl ?_
  refine g_iload C dX12_carries_1 rfl ?_
  refine g_icmp_ne C dX12_carries_3 ia2 ia4 rfl (tgt := 8) (fun c1 => ?_) (fun c1 => ?_)
  · have h := ifF c1 h
    refine g_aload_n C dX12_carries_8 rfl ?_
    refine g_getR (j := 80) C dX12_carries_9 rfl (Nat.le_of_ble_eq_true rfl) (Nat.le_of_ble_eq_true rfl) fl_12_191 rfl rfl (r := 226) rfl ?_
    refine g_sipush C dX12_carries_12 rfl ?_
    refine g_iload_n C dX12_carries_15 rfl ?_
    refine g_imul C dX12_carries_16 ?_
    refine g_bipush C dX12_carries_17 rfl ?_
    refine g_iload_n C dX12_carries_19 rfl ?_
    refine g_imul C dX12_carries_20 ?_
    refine g_iadd C dX12_carries_21 ?_
    refine g_bipush C dX12_carries_22 rfl ?_
    refine g_isub C dX12_carries_24 ?_
    refine g_iload_n C dX12_carries_25 rfl ?_
    refine g_iadd C dX12_carries_26 ?_
    obtain ⟨x2, qx2, h⟩ := bnd h
    refine g_zald C dX12_carries_27 rfl rfl qx2 (iwr _) (fun ix2 => ?_)
    refine g_if_eq C dX12_carries_28 (zI ix2) rfl (tgt := 33) (fun c3 => ?_) (fun c3 => ?_)
    · have h := ifT c3 h
      refine g_iconst C dX12_carries_33 ?_
      refine g_istore (L1 := [some (rv w 170), some (iv a1), some (iv a2), some (iv a3), some (iv a4), some (iv 0), none, none]) C dX12_carries_34 rfl (Nat.le_of_ble_eq_true rfl) rfl ?_
      obtain ⟨b4, hb4, hF4⟩ := bnd h
      have hX4 : Sum.inl () = b4 → GM w p l e rm_X12_carries s m args below meth c (some (iv y)) (InZ y) σ 8 154 [none, none, none, none, none, none, none, none] [] σ := by
        intro q
        subst q
        have h := hF4
        refine g_iconst C dX12_carries_154 ?_
        exact g_zretU C dX12_carries_155 hr hlk h (Or.inl rfl)
      have hL4 : ∀ (n : Nat) (x5 : Int) , InI x5 → lpN (fun a => m_X12_carries_L36 σ a3 a2 a4 a1 a) n x5 = some b4 → GM w p l e rm_X12_carries s m args below meth c (some (iv y)) (InZ y) σ 8 36 [some (rv w 170), some (iv a1), some (iv a2), some (iv a3), some (iv a4), some (iv x5), none, none] [] σ := by
        intro n
        induction n with
        | zero => intro x5 ix5 q; cases q
        | succ n ih4 =>
          intro x5 ix5 q
          obtain ⟨o4, h, hk4⟩ := lp_step q
          replace h : m_X12_carries_L36 σ a3 a2 a4 a1 x5 = some o4 := h
          unfold m_X12_carries_L36 at h
          refine g_iload C dX12_carries_36 rfl ?_
          refine g_aload_n C dX12_carries_38 rfl ?_
          refine g_getI (j := 31) C dX12_carries_39 rfl (Nat.le_of_ble_eq_true rfl) (Nat.le_of_ble_eq_true rfl) fl_12_336 rfl rfl (fun i6 => ?_)
          refine g_icmp_ge C dX12_carries_42 ix5 i6 rfl (tgt := 154) (fun c7 => ?_) (fun c7 => ?_)
          · have h := ifT c7 h
            refine g_mask [false, false, false, false, false, false, true, true] ?_
            obtain rfl := Option.some.inj h
            exact hX4  (lpR hk4).symm
          · have h := ifF c7 h
            refine g_aload_n C dX12_carries_45 rfl ?_
            refine g_getR (j := 32) C dX12_carries_46 rfl (Nat.le_of_ble_eq_true rfl) (Nat.le_of_ble_eq_true rfl) fl_12_67 rfl rfl (r := 187) rfl ?_
            refine g_iload C dX12_carries_49 rfl ?_
            obtain ⟨x8, qx8, h⟩ := bnd h
            refine g_iald C dX12_carries_51 rfl rfl qx8 ix5 (fun ix8 => ?_)
            refine g_iload_n C dX12_carries_52 rfl ?_
            have hJ70_23 : m_X12_carries_J70 σ x5 a3 a2 a4 a1 = some o4 → GM w p l e rm_X12_carries s m args below meth c (some (iv y)) (InZ y) σ 8 70 [some (rv w 170), some (iv a1), some (iv a2), some (iv a3), some (iv a4), some (iv x5), none, none] [] σ := by
              intro h
              unfold m_X12_carries_J70 at h
              refine g_aload_n C dX12_carries_70 rfl ?_
              refine g_getR (j := 32) C dX12_carries_71 rfl (Nat.le_of_ble_eq_true rfl) (Nat.le_of_ble_eq_true rfl) fl_12_67 rfl rfl (r := 187) rfl ?_
              refine g_iload C dX12_carries_74 rfl ?_
              obtain ⟨x12, qx12, h⟩ := bnd h
              refine g_iald C dX12_carries_76 rfl rfl qx12 ix5 (fun ix12 => ?_)
              refine g_aload_n C dX12_carries_77 rfl ?_
              refine g_getR (j := 33) C dX12_carries_78 rfl (Nat.le_of_ble_eq_true rfl) (Nat.le_of_ble_eq_true rfl) fl_12_70 rfl rfl (r := 188) rfl ?_
              refine g_iload C dX12_carries_81 rfl ?_
              obtain ⟨x13, qx13, h⟩ := bnd h
              refine g_iald C dX12_carries_83 rfl rfl qx13 ix5 (fun ix13 => ?_)
              refine g_iadd C dX12_carries_84 ?_
              refine g_iload_n C dX12_carries_85 rfl ?_
              refine g_isub C dX12_carries_86 ?_
              obtain ⟨x14, qx14, h⟩ := bnd h
              have qx14 := Option.some.inj qx14
              have ix14 : InI x14 := by rw [← qx14]; exact (iwr _)
              refine g_E qx14 ?_
              refine g_istore (L1 := [some (rv w 170), some (iv a1), some (iv a2), some (iv a3), some (iv a4), some (iv x5), some (iv x14), none]) C dX12_carries_87 rfl (Nat.le_of_ble_eq_true rfl) rfl ?_
              refine g_iload_n C dX12_carries_89 rfl ?_
              refine g_aload_n C dX12_carries_90 rfl ?_
              refine g_getR (j := 34) C dX12_carries_91 rfl (Nat.le_of_ble_eq_true rfl) (Nat.le_of_ble_eq_true rfl) fl_12_73 rfl rfl (r := 189) rfl ?_
              refine g_iload C dX12_carries_94 rfl ?_
              obtain ⟨x15, qx15, h⟩ := bnd h
              refine g_iald C dX12_carries_96 rfl rfl qx15 ix5 (fun ix15 => ?_)
              refine g_isub C dX12_carries_97 ?_
              obtain ⟨x16, qx16, h⟩ := bnd h
              have qx16 := Option.some.inj qx16
              have ix16 : InI x16 := by rw [← qx16]; exact (iwr _)
              refine g_E qx16 ?_
              refine g_istore (L1 := [some (rv w 170), some (iv a1), some (iv a2), some (iv a3), some (iv a4), some (iv x5), some (iv x14), some (iv x16)]) C dX12_carries_98 rfl (Nat.le_of_ble_eq_true rfl) rfl ?_
              refine g_iload C dX12_carries_100 rfl ?_
              refine g_iload C dX12_carries_102 rfl ?_
              refine g_icmp_lt C dX12_carries_104 ix16 ia4 rfl (tgt := 148) (fun c17 => ?_) (fun c17 => ?_)
              · have h := ifT c17 h
                refine g_iinc (L1 := [some (rv w 170), some (iv a1), some (iv a2), some (iv a3), some (iv a4), some (iv (wr (x5 + 1))), some (iv x14), some (iv x16)]) C dX12_carries_148 rfl rfl (Nat.le_of_ble_eq_true rfl) rfl ?_
                refine g_goto C dX12_carries_151 rfl (tgt := 36) ?_
                refine g_mask [true, true, true, true, true, true, false, false] ?_
                obtain rfl := Option.some.inj h
                exact ih4 _ (iwr _) (lpL hk4)
              · have h := ifF c17 h
                refine g_aload_n C dX12_carries_107 rfl ?_
                refine g_getR (j := 80) C dX12_carries_108 rfl (Nat.le_of_ble_eq_true rfl) (Nat.le_of_ble_eq_true rfl) fl_12_191 rfl rfl (r := 226) rfl ?_
                refine g_sipush C dX12_carries_111 rfl ?_
                refine g_iload_n C dX12_carries_114 rfl ?_
                refine g_imul C dX12_carries_115 ?_
                refine g_bipush C dX12_carries_116 rfl ?_
                refine g_iload C dX12_carries_118 rfl ?_
                refine g_imul C dX12_carries_120 ?_
                refine g_iadd C dX12_carries_121 ?_
                refine g_iload C dX12_carries_122 rfl ?_
                refine g_iadd C dX12_carries_124 ?_
                obtain ⟨x18, qx18, h⟩ := bnd h
                refine g_zald C dX12_carries_125 rfl rfl qx18 (iwr _) (fun ix18 => ?_)
                refine g_if_eq C dX12_carries_126 (zI ix18) rfl (tgt := 148) (fun c19 => ?_) (fun c19 => ?_)
                · have h := ifT c19 h
                  refine g_iinc (L1 := [some (rv w 170), some (iv a1), some (iv a2), some (iv a3), some (iv a4), some (iv (wr (x5 + 1))), some (iv x14), some (iv x16)]) C dX12_carries_148 rfl rfl (Nat.le_of_ble_eq_true rfl) rfl ?_
                  refine g_goto C dX12_carries_151 rfl (tgt := 36) ?_
                  refine g_mask [true, true, true, true, true, true, false, false] ?_
                  obtain rfl := Option.some.inj h
                  exact ih4 _ (iwr _) (lpL hk4)
                · have h := ifF c19 h
                  refine g_aload_n C dX12_carries_129 rfl ?_
                  refine g_iload_n C dX12_carries_130 rfl ?_
                  refine g_iload C dX12_carries_131 rfl ?_
                  refine g_aload_n C dX12_carries_133 rfl ?_
                  refine g_getR (j := 34) C dX12_carries_134 rfl (Nat.le_of_ble_eq_true rfl) (Nat.le_of_ble_eq_true rfl) fl_12_73 rfl rfl (r := 189) rfl ?_
                  refine g_iload C dX12_carries_137 rfl ?_
                  obtain ⟨x20, qx20, h⟩ := bnd h
                  refine g_iald C dX12_carries_139 rfl rfl qx20 ix5 (fun ix20 => ?_)
                  obtain ⟨x21, qx21, h⟩ := bnd h
                  refine g_callV1 (As := [iv a1, iv x16, iv x20]) C dX12_carries_140 mi_X12_isFree ml_12_440 (ct_X12_isFree ia1 ix16 ix20 qx21) rfl rfl ⟨rfl, rfl⟩ ⟨Nat.le_of_ble_eq_true rfl, Nat.le_of_ble_eq_true rfl⟩ ⟨Nat.zero_le _, Nat.zero_le _⟩ rfl (Nat.le_of_ble_eq_true rfl) (fun ix21 => ?_)
                  refine g_if_eq C dX12_carries_143 (zI ix21) rfl (tgt := 148) (fun c22 => ?_) (fun c22 => ?_)
                  · have h := ifT c22 h
                    refine g_iinc (L1 := [some (rv w 170), some (iv a1), some (iv a2), some (iv a3), some (iv a4), some (iv (wr (x5 + 1))), some (iv x14), some (iv x16)]) C dX12_carries_148 rfl rfl (Nat.le_of_ble_eq_true rfl) rfl ?_
                    refine g_goto C dX12_carries_151 rfl (tgt := 36) ?_
                    refine g_mask [true, true, true, true, true, true, false, false] ?_
                    obtain rfl := Option.some.inj h
                    exact ih4 _ (iwr _) (lpL hk4)
                  · have h := ifF c22 h
                    refine g_iconst C dX12_carries_146 ?_
                    obtain rfl := Option.some.inj h
                    have e4 := (lpR hk4).symm
                    subst e4
                    have h := hF4
                    exact g_zretU C dX12_carries_147 hr hlk h (Or.inr rfl)
            refine g_icmp_eq C dX12_carries_53 ix8 ia3 rfl (tgt := 70) (fun c9 => ?_) (fun c9 => ?_)
            · have h := ifT c9 h
              exact hJ70_23  h
            · have h := ifF c9 h
              refine g_aload_n C dX12_carries_56 rfl ?_
              refine g_getR (j := 33) C dX12_carries_57 rfl (Nat.le_of_ble_eq_true rfl) (Nat.le_of_ble_eq_true rfl) fl_12_70 rfl rfl (r := 188) rfl ?_
              refine g_iload C dX12_carries_60 rfl ?_
              obtain ⟨x10, qx10, h⟩ := bnd h
              refine g_iald C dX12_carries_62 rfl rfl qx10 ix5 (fun ix10 => ?_)
              refine g_iload_n C dX12_carries_63 rfl ?_
              refine g_icmp_eq C dX12_carries_64 ix10 ia3 rfl (tgt := 70) (fun c11 => ?_) (fun c11 => ?_)
              · have h := ifT c11 h
                exact hJ70_23  h
              · have h := ifF c11 h
                refine g_goto C dX12_carries_67 rfl (tgt := 148) ?_
                refine g_iinc (L1 := [some (rv w 170), some (iv a1), some (iv a2), some (iv a3), some (iv a4), some (iv (wr (x5 + 1))), none, none]) C dX12_carries_148 rfl rfl (Nat.le_of_ble_eq_true rfl) rfl ?_
                refine g_goto C dX12_carries_151 rfl (tgt := 36) ?_
                obtain rfl := Option.some.inj h
                exact ih4 _ (iwr _) (lpL hk4)
      exact hL4 FU _ (by decide) hb4
    · have h := ifF c3 h
      refine g_iconst C dX12_carries_31 ?_
      exact g_zretU C dX12_carries_32 hr hlk h (Or.inr rfl)
  · have h := ifT c1 h
    refine g_iconst C dX12_carries_6 ?_
    exact g_zretU C dX12_carries_7 hr hlk h (Or.inl rfl)
theorem dX12_spreads_0 : decode cX12_spreads 0 = .ok (.iconst 0, 1) := by decide +kernel
theorem dX12_spreads_1 : decode cX12_spreads 1 = .ok (.istore 4, 2) := by decide +kernel
theorem dX12_spreads_3 : decode cX12_spreads 3 = .ok (.iload 4, 2) := by decide +kernel
theorem dX12_spreads_5 : decode cX12_spreads 5 = .ok (.sipush 7680, 3) := by decide +kernel
theorem dX12_spreads_8 : decode cX12_spreads 8 = .ok (.if_icmp .ge 17, 3) := by decide +kernel
theorem dX12_spreads_11 : decode cX12_spreads 11 = .ok (.aload_n 0, 1) := by decide +kernel
theorem dX12_spreads_12 : decode cX12_spreads 12 = .ok (.getfield 191, 3) := by decide +kernel
theorem dX12_spreads_15 : decode cX12_spreads 15 = .ok (.iload 4, 2) := by decide +kernel
theorem dX12_spreads_17 : decode cX12_spreads 17 = .ok (.iconst 0, 1) := by decide +kernel
theorem dX12_spreads_18 : decode cX12_spreads 18 = .ok (.bastore, 1) := by decide +kernel
theorem dX12_spreads_19 : decode cX12_spreads 19 = .ok (.iinc 4 1, 3) := by decide +kernel
theorem dX12_spreads_22 : decode cX12_spreads 22 = .ok (.goto (-19), 3) := by decide +kernel
theorem dX12_spreads_25 : decode cX12_spreads 25 = .ok (.iconst 0, 1) := by decide +kernel
theorem dX12_spreads_26 : decode cX12_spreads 26 = .ok (.istore 4, 2) := by decide +kernel
theorem dX12_spreads_28 : decode cX12_spreads 28 = .ok (.iload 4, 2) := by decide +kernel
theorem dX12_spreads_30 : decode cX12_spreads 30 = .ok (.bipush 10, 2) := by decide +kernel
theorem dX12_spreads_32 : decode cX12_spreads 32 = .ok (.if_icmp .ge 17, 3) := by decide +kernel
theorem dX12_spreads_35 : decode cX12_spreads 35 = .ok (.aload_n 0, 1) := by decide +kernel
theorem dX12_spreads_36 : decode cX12_spreads 36 = .ok (.getfield 194, 3) := by decide +kernel
theorem dX12_spreads_39 : decode cX12_spreads 39 = .ok (.iload 4, 2) := by decide +kernel
theorem dX12_spreads_41 : decode cX12_spreads 41 = .ok (.iconst 0, 1) := by decide +kernel
theorem dX12_spreads_42 : decode cX12_spreads 42 = .ok (.bastore, 1) := by decide +kernel
theorem dX12_spreads_43 : decode cX12_spreads 43 = .ok (.iinc 4 1, 3) := by decide +kernel
theorem dX12_spreads_46 : decode cX12_spreads 46 = .ok (.goto (-18), 3) := by decide +kernel
theorem dX12_spreads_49 : decode cX12_spreads 49 = .ok (.iload_n 2, 1) := by decide +kernel
theorem dX12_spreads_50 : decode cX12_spreads 50 = .ok (.istore 4, 2) := by decide +kernel
theorem dX12_spreads_52 : decode cX12_spreads 52 = .ok (.iload 4, 2) := by decide +kernel
theorem dX12_spreads_54 : decode cX12_spreads 54 = .ok (.bipush 96, 2) := by decide +kernel
theorem dX12_spreads_56 : decode cX12_spreads 56 = .ok (.if_icmp .ge 315, 3) := by decide +kernel
theorem dX12_spreads_59 : decode cX12_spreads 59 = .ok (.iconst 0, 1) := by decide +kernel
theorem dX12_spreads_60 : decode cX12_spreads 60 = .ok (.istore 5, 2) := by decide +kernel
theorem dX12_spreads_62 : decode cX12_spreads 62 = .ok (.iload 5, 2) := by decide +kernel
theorem dX12_spreads_64 : decode cX12_spreads 64 = .ok (.aload_n 0, 1) := by decide +kernel
theorem dX12_spreads_65 : decode cX12_spreads 65 = .ok (.getfield 333, 3) := by decide +kernel
theorem dX12_spreads_68 : decode cX12_spreads 68 = .ok (.if_icmp .ge 90, 3) := by decide +kernel
theorem dX12_spreads_71 : decode cX12_spreads 71 = .ok (.iconst 0, 1) := by decide +kernel
theorem dX12_spreads_72 : decode cX12_spreads 72 = .ok (.istore 6, 2) := by decide +kernel
theorem dX12_spreads_74 : decode cX12_spreads 74 = .ok (.iload 6, 2) := by decide +kernel
theorem dX12_spreads_76 : decode cX12_spreads 76 = .ok (.aload_n 0, 1) := by decide +kernel
theorem dX12_spreads_77 : decode cX12_spreads 77 = .ok (.getfield 330, 3) := by decide +kernel
theorem dX12_spreads_80 : decode cX12_spreads 80 = .ok (.if_icmp .ge 72, 3) := by decide +kernel
theorem dX12_spreads_83 : decode cX12_spreads 83 = .ok (.sipush 960, 3) := by decide +kernel
theorem dX12_spreads_86 : decode cX12_spreads 86 = .ok (.iload 5, 2) := by decide +kernel
theorem dX12_spreads_88 : decode cX12_spreads 88 = .ok (.imul, 1) := by decide +kernel
theorem dX12_spreads_89 : decode cX12_spreads 89 = .ok (.bipush 10, 2) := by decide +kernel
theorem dX12_spreads_91 : decode cX12_spreads 91 = .ok (.iload 4, 2) := by decide +kernel
theorem dX12_spreads_93 : decode cX12_spreads 93 = .ok (.imul, 1) := by decide +kernel
theorem dX12_spreads_94 : decode cX12_spreads 94 = .ok (.iadd, 1) := by decide +kernel
theorem dX12_spreads_95 : decode cX12_spreads 95 = .ok (.iload 6, 2) := by decide +kernel
theorem dX12_spreads_97 : decode cX12_spreads 97 = .ok (.iadd, 1) := by decide +kernel
theorem dX12_spreads_98 : decode cX12_spreads 98 = .ok (.istore 7, 2) := by decide +kernel
theorem dX12_spreads_100 : decode cX12_spreads 100 = .ok (.aload_n 0, 1) := by decide +kernel
theorem dX12_spreads_101 : decode cX12_spreads 101 = .ok (.getfield 191, 3) := by decide +kernel
theorem dX12_spreads_104 : decode cX12_spreads 104 = .ok (.iload 7, 2) := by decide +kernel
theorem dX12_spreads_106 : decode cX12_spreads 106 = .ok (.aload_n 0, 1) := by decide +kernel
theorem dX12_spreads_107 : decode cX12_spreads 107 = .ok (.getfield 176, 3) := by decide +kernel
theorem dX12_spreads_110 : decode cX12_spreads 110 = .ok (.iload 7, 2) := by decide +kernel
theorem dX12_spreads_112 : decode cX12_spreads 112 = .ok (.baload, 1) := by decide +kernel
theorem dX12_spreads_113 : decode cX12_spreads 113 = .ok (.ifCond .eq 31, 3) := by decide +kernel
theorem dX12_spreads_116 : decode cX12_spreads 116 = .ok (.iload_n 1, 1) := by decide +kernel
theorem dX12_spreads_117 : decode cX12_spreads 117 = .ok (.iload 5, 2) := by decide +kernel
theorem dX12_spreads_119 : decode cX12_spreads 119 = .ok (.ishr, 1) := by decide +kernel
theorem dX12_spreads_120 : decode cX12_spreads 120 = .ok (.iconst 1, 1) := by decide +kernel
theorem dX12_spreads_121 : decode cX12_spreads 121 = .ok (.iand, 1) := by decide +kernel
theorem dX12_spreads_122 : decode cX12_spreads 122 = .ok (.iconst 1, 1) := by decide +kernel
theorem dX12_spreads_123 : decode cX12_spreads 123 = .ok (.if_icmp .eq 17, 3) := by decide +kernel
theorem dX12_spreads_126 : decode cX12_spreads 126 = .ok (.aload_n 0, 1) := by decide +kernel
theorem dX12_spreads_127 : decode cX12_spreads 127 = .ok (.iload 5, 2) := by decide +kernel
theorem dX12_spreads_129 : decode cX12_spreads 129 = .ok (.iload 4, 2) := by decide +kernel
theorem dX12_spreads_131 : decode cX12_spreads 131 = .ok (.iload 6, 2) := by decide +kernel
theorem dX12_spreads_133 : decode cX12_spreads 133 = .ok (.iload_n 2, 1) := by decide +kernel
theorem dX12_spreads_134 : decode cX12_spreads 134 = .ok (.invokevirtual 446, 3) := by decide +kernel
theorem dX12_spreads_137 : decode cX12_spreads 137 = .ok (.ifCond .eq 7, 3) := by decide +kernel
theorem dX12_spreads_140 : decode cX12_spreads 140 = .ok (.iconst 1, 1) := by decide +kernel
theorem dX12_spreads_141 : decode cX12_spreads 141 = .ok (.goto 4, 3) := by decide +kernel
theorem dX12_spreads_144 : decode cX12_spreads 144 = .ok (.iconst 0, 1) := by decide +kernel
theorem dX12_spreads_145 : decode cX12_spreads 145 = .ok (.bastore, 1) := by decide +kernel
theorem dX12_spreads_146 : decode cX12_spreads 146 = .ok (.iinc 6 1, 3) := by decide +kernel
theorem dX12_spreads_149 : decode cX12_spreads 149 = .ok (.goto (-75), 3) := by decide +kernel
theorem dX12_spreads_152 : decode cX12_spreads 152 = .ok (.iinc 5 1, 3) := by decide +kernel
theorem dX12_spreads_155 : decode cX12_spreads 155 = .ok (.goto (-93), 3) := by decide +kernel
theorem dX12_spreads_158 : decode cX12_spreads 158 = .ok (.iconst 0, 1) := by decide +kernel
theorem dX12_spreads_159 : decode cX12_spreads 159 = .ok (.istore 5, 2) := by decide +kernel
theorem dX12_spreads_161 : decode cX12_spreads 161 = .ok (.iload 5, 2) := by decide +kernel
theorem dX12_spreads_163 : decode cX12_spreads 163 = .ok (.aload_n 0, 1) := by decide +kernel
theorem dX12_spreads_164 : decode cX12_spreads 164 = .ok (.getfield 330, 3) := by decide +kernel
theorem dX12_spreads_167 : decode cX12_spreads 167 = .ok (.if_icmp .ge 198, 3) := by decide +kernel
theorem dX12_spreads_170 : decode cX12_spreads 170 = .ok (.iload_n 3, 1) := by decide +kernel
theorem dX12_spreads_171 : decode cX12_spreads 171 = .ok (.ifCond .eq 17, 3) := by decide +kernel
theorem dX12_spreads_174 : decode cX12_spreads 174 = .ok (.aload_n 0, 1) := by decide +kernel
theorem dX12_spreads_175 : decode cX12_spreads 175 = .ok (.getfield 194, 3) := by decide +kernel
theorem dX12_spreads_178 : decode cX12_spreads 178 = .ok (.iload 5, 2) := by decide +kernel
theorem dX12_spreads_180 : decode cX12_spreads 180 = .ok (.baload, 1) := by decide +kernel
theorem dX12_spreads_181 : decode cX12_spreads 181 = .ok (.ifCond .eq 7, 3) := by decide +kernel
theorem dX12_spreads_184 : decode cX12_spreads 184 = .ok (.iconst 1, 1) := by decide +kernel
theorem dX12_spreads_185 : decode cX12_spreads 185 = .ok (.goto 4, 3) := by decide +kernel
theorem dX12_spreads_188 : decode cX12_spreads 188 = .ok (.iconst 0, 1) := by decide +kernel
theorem dX12_spreads_189 : decode cX12_spreads 189 = .ok (.istore 6, 2) := by decide +kernel
theorem dX12_spreads_191 : decode cX12_spreads 191 = .ok (.iconst 0, 1) := by decide +kernel
theorem dX12_spreads_192 : decode cX12_spreads 192 = .ok (.istore 7, 2) := by decide +kernel
theorem dX12_spreads_194 : decode cX12_spreads 194 = .ok (.iconst 0, 1) := by decide +kernel
theorem dX12_spreads_195 : decode cX12_spreads 195 = .ok (.istore 8, 2) := by decide +kernel
theorem dX12_spreads_197 : decode cX12_spreads 197 = .ok (.iload 8, 2) := by decide +kernel
theorem dX12_spreads_199 : decode cX12_spreads 199 = .ok (.aload_n 0, 1) := by decide +kernel
theorem dX12_spreads_200 : decode cX12_spreads 200 = .ok (.getfield 333, 3) := by decide +kernel
theorem dX12_spreads_203 : decode cX12_spreads 203 = .ok (.if_icmp .ge 35, 3) := by decide +kernel
theorem dX12_spreads_206 : decode cX12_spreads 206 = .ok (.aload_n 0, 1) := by decide +kernel
theorem dX12_spreads_207 : decode cX12_spreads 207 = .ok (.getfield 191, 3) := by decide +kernel
theorem dX12_spreads_210 : decode cX12_spreads 210 = .ok (.sipush 960, 3) := by decide +kernel
theorem dX12_spreads_213 : decode cX12_spreads 213 = .ok (.iload 8, 2) := by decide +kernel
theorem dX12_spreads_215 : decode cX12_spreads 215 = .ok (.imul, 1) := by decide +kernel
theorem dX12_spreads_216 : decode cX12_spreads 216 = .ok (.bipush 10, 2) := by decide +kernel
theorem dX12_spreads_218 : decode cX12_spreads 218 = .ok (.iload 4, 2) := by decide +kernel
theorem dX12_spreads_220 : decode cX12_spreads 220 = .ok (.imul, 1) := by decide +kernel
theorem dX12_spreads_221 : decode cX12_spreads 221 = .ok (.iadd, 1) := by decide +kernel
theorem dX12_spreads_222 : decode cX12_spreads 222 = .ok (.iload 5, 2) := by decide +kernel
theorem dX12_spreads_224 : decode cX12_spreads 224 = .ok (.iadd, 1) := by decide +kernel
theorem dX12_spreads_225 : decode cX12_spreads 225 = .ok (.baload, 1) := by decide +kernel
theorem dX12_spreads_226 : decode cX12_spreads 226 = .ok (.ifCond .eq 6, 3) := by decide +kernel
theorem dX12_spreads_229 : decode cX12_spreads 229 = .ok (.iconst 1, 1) := by decide +kernel
theorem dX12_spreads_230 : decode cX12_spreads 230 = .ok (.istore 7, 2) := by decide +kernel
theorem dX12_spreads_232 : decode cX12_spreads 232 = .ok (.iinc 8 1, 3) := by decide +kernel
theorem dX12_spreads_235 : decode cX12_spreads 235 = .ok (.goto (-38), 3) := by decide +kernel
theorem dX12_spreads_238 : decode cX12_spreads 238 = .ok (.iconst 0, 1) := by decide +kernel
theorem dX12_spreads_239 : decode cX12_spreads 239 = .ok (.istore 8, 2) := by decide +kernel
theorem dX12_spreads_241 : decode cX12_spreads 241 = .ok (.iload 8, 2) := by decide +kernel
theorem dX12_spreads_243 : decode cX12_spreads 243 = .ok (.aload_n 0, 1) := by decide +kernel
theorem dX12_spreads_244 : decode cX12_spreads 244 = .ok (.getfield 333, 3) := by decide +kernel
theorem dX12_spreads_247 : decode cX12_spreads 247 = .ok (.if_icmp .ge 63, 3) := by decide +kernel
theorem dX12_spreads_250 : decode cX12_spreads 250 = .ok (.iload 6, 2) := by decide +kernel
theorem dX12_spreads_252 : decode cX12_spreads 252 = .ok (.ifCond .ne 8, 3) := by decide +kernel
theorem dX12_spreads_255 : decode cX12_spreads 255 = .ok (.iload 7, 2) := by decide +kernel
theorem dX12_spreads_257 : decode cX12_spreads 257 = .ok (.ifCond .eq 47, 3) := by decide +kernel
theorem dX12_spreads_260 : decode cX12_spreads 260 = .ok (.aload_n 0, 1) := by decide +kernel
theorem dX12_spreads_261 : decode cX12_spreads 261 = .ok (.getfield 176, 3) := by decide +kernel
theorem dX12_spreads_264 : decode cX12_spreads 264 = .ok (.sipush 960, 3) := by decide +kernel
theorem dX12_spreads_267 : decode cX12_spreads 267 = .ok (.iload 8, 2) := by decide +kernel
theorem dX12_spreads_269 : decode cX12_spreads 269 = .ok (.imul, 1) := by decide +kernel
theorem dX12_spreads_270 : decode cX12_spreads 270 = .ok (.bipush 10, 2) := by decide +kernel
theorem dX12_spreads_272 : decode cX12_spreads 272 = .ok (.iload 4, 2) := by decide +kernel
theorem dX12_spreads_274 : decode cX12_spreads 274 = .ok (.imul, 1) := by decide +kernel
theorem dX12_spreads_275 : decode cX12_spreads 275 = .ok (.iadd, 1) := by decide +kernel
theorem dX12_spreads_276 : decode cX12_spreads 276 = .ok (.iload 5, 2) := by decide +kernel
theorem dX12_spreads_278 : decode cX12_spreads 278 = .ok (.iadd, 1) := by decide +kernel
theorem dX12_spreads_279 : decode cX12_spreads 279 = .ok (.baload, 1) := by decide +kernel
theorem dX12_spreads_280 : decode cX12_spreads 280 = .ok (.ifCond .eq 24, 3) := by decide +kernel
theorem dX12_spreads_283 : decode cX12_spreads 283 = .ok (.aload_n 0, 1) := by decide +kernel
theorem dX12_spreads_284 : decode cX12_spreads 284 = .ok (.getfield 191, 3) := by decide +kernel
theorem dX12_spreads_287 : decode cX12_spreads 287 = .ok (.sipush 960, 3) := by decide +kernel
theorem dX12_spreads_290 : decode cX12_spreads 290 = .ok (.iload 8, 2) := by decide +kernel
theorem dX12_spreads_292 : decode cX12_spreads 292 = .ok (.imul, 1) := by decide +kernel
theorem dX12_spreads_293 : decode cX12_spreads 293 = .ok (.bipush 10, 2) := by decide +kernel
theorem dX12_spreads_295 : decode cX12_spreads 295 = .ok (.iload 4, 2) := by decide +kernel
theorem dX12_spreads_297 : decode cX12_spreads 297 = .ok (.imul, 1) := by decide +kernel
theorem dX12_spreads_298 : decode cX12_spreads 298 = .ok (.iadd, 1) := by decide +kernel
theorem dX12_spreads_299 : decode cX12_spreads 299 = .ok (.iload 5, 2) := by decide +kernel
theorem dX12_spreads_301 : decode cX12_spreads 301 = .ok (.iadd, 1) := by decide +kernel
theorem dX12_spreads_302 : decode cX12_spreads 302 = .ok (.iconst 1, 1) := by decide +kernel
theorem dX12_spreads_303 : decode cX12_spreads 303 = .ok (.bastore, 1) := by decide +kernel
theorem dX12_spreads_304 : decode cX12_spreads 304 = .ok (.iinc 8 1, 3) := by decide +kernel
theorem dX12_spreads_307 : decode cX12_spreads 307 = .ok (.goto (-66), 3) := by decide +kernel
theorem dX12_spreads_310 : decode cX12_spreads 310 = .ok (.iconst 0, 1) := by decide +kernel
theorem dX12_spreads_311 : decode cX12_spreads 311 = .ok (.istore 8, 2) := by decide +kernel
theorem dX12_spreads_313 : decode cX12_spreads 313 = .ok (.iload 8, 2) := by decide +kernel
theorem dX12_spreads_315 : decode cX12_spreads 315 = .ok (.aload_n 0, 1) := by decide +kernel
theorem dX12_spreads_316 : decode cX12_spreads 316 = .ok (.getfield 333, 3) := by decide +kernel
theorem dX12_spreads_319 : decode cX12_spreads 319 = .ok (.if_icmp .ge 40, 3) := by decide +kernel
theorem dX12_spreads_322 : decode cX12_spreads 322 = .ok (.aload_n 0, 1) := by decide +kernel
theorem dX12_spreads_323 : decode cX12_spreads 323 = .ok (.getfield 191, 3) := by decide +kernel
theorem dX12_spreads_326 : decode cX12_spreads 326 = .ok (.sipush 960, 3) := by decide +kernel
theorem dX12_spreads_329 : decode cX12_spreads 329 = .ok (.iload 8, 2) := by decide +kernel
theorem dX12_spreads_331 : decode cX12_spreads 331 = .ok (.imul, 1) := by decide +kernel
theorem dX12_spreads_332 : decode cX12_spreads 332 = .ok (.bipush 10, 2) := by decide +kernel
theorem dX12_spreads_334 : decode cX12_spreads 334 = .ok (.iload 4, 2) := by decide +kernel
theorem dX12_spreads_336 : decode cX12_spreads 336 = .ok (.imul, 1) := by decide +kernel
theorem dX12_spreads_337 : decode cX12_spreads 337 = .ok (.iadd, 1) := by decide +kernel
theorem dX12_spreads_338 : decode cX12_spreads 338 = .ok (.iload 5, 2) := by decide +kernel
theorem dX12_spreads_340 : decode cX12_spreads 340 = .ok (.iadd, 1) := by decide +kernel
theorem dX12_spreads_341 : decode cX12_spreads 341 = .ok (.baload, 1) := by decide +kernel
theorem dX12_spreads_342 : decode cX12_spreads 342 = .ok (.ifCond .eq 11, 3) := by decide +kernel
theorem dX12_spreads_345 : decode cX12_spreads 345 = .ok (.aload_n 0, 1) := by decide +kernel
theorem dX12_spreads_346 : decode cX12_spreads 346 = .ok (.getfield 194, 3) := by decide +kernel
theorem dX12_spreads_349 : decode cX12_spreads 349 = .ok (.iload 5, 2) := by decide +kernel
theorem dX12_spreads_351 : decode cX12_spreads 351 = .ok (.iconst 1, 1) := by decide +kernel
theorem dX12_spreads_352 : decode cX12_spreads 352 = .ok (.bastore, 1) := by decide +kernel
theorem dX12_spreads_353 : decode cX12_spreads 353 = .ok (.iinc 8 1, 3) := by decide +kernel
theorem dX12_spreads_356 : decode cX12_spreads 356 = .ok (.goto (-43), 3) := by decide +kernel
theorem dX12_spreads_359 : decode cX12_spreads 359 = .ok (.iinc 5 1, 3) := by decide +kernel
theorem dX12_spreads_362 : decode cX12_spreads 362 = .ok (.goto (-201), 3) := by decide +kernel
theorem dX12_spreads_365 : decode cX12_spreads 365 = .ok (.iinc 4 1, 3) := by decide +kernel
theorem dX12_spreads_368 : decode cX12_spreads 368 = .ok (.goto (-316), 3) := by decide +kernel
theorem dX12_spreads_371 : decode cX12_spreads 371 = .ok (.return_, 1) := by decide +kernel
abbrev rm_X12_spreads : Room := { frames := 2, cells := 0, slots := 0, locals := 51 }
set_option maxRecDepth 100000 in
set_option maxHeartbeats 4000000 in
theorem ct_X12_spreads {w : Wd} {l : Launch} {a1 : Int} {a2 : Int} {a3 : Int} {σ : St} {σ' : St} (ia1 : InI a1) (ia2 : InI a2) (ia3 : InZ a3) (h : m_X12_spreads a1 a2 a3 σ = some σ') : Ct w l yX12_spreads (Cond.code yX12_spreads cX12_spreads 9 none :: TB) rm_X12_spreads [rv w 170, iv a1, iv a2, iv a3] σ none True σ' := by
  refine Ct.of2 [some (rv w 170), some (iv a1), some (iv a2), some (iv a3), none, none, none, none, none] 5 rfl pn_RX12 (Nat.le_of_ble_eq_true rfl) ?_
  intro p e s m args below meth c C hr hlk
  unfold m_X12_spreads at h
  refine g_iconst C dX12_spreads_0 ?_
  refine g_istore (L1 := [some (rv w 170), some (iv a1), some (iv a2), some (iv a3), some (iv 0), none, none, none, none]) C dX12_spreads_1 rfl (Nat.le_of_ble_eq_true rfl) rfl ?_
  obtain ⟨b1, hb1, hF1⟩ := bnd h
  have hX1 : ∀ (σ6 : St) , σ6 = b1 → GM w p l e rm_X12_spreads s m args below meth c none True σ' 9 25 [some (rv w 170), some (iv a1), some (iv a2), some (iv a3), none, none, none, none, none] [] σ6 := by
    intro σ6 q
    subst q
    have h := hF1
    refine g_iconst C dX12_spreads_25 ?_
    refine g_istore (L1 := [some (rv w 170), some (iv a1), some (iv a2), some (iv a3), some (iv 0), none, none, none, none]) C dX12_spreads_26 rfl (Nat.le_of_ble_eq_true rfl) rfl ?_
    obtain ⟨b7, hb7, hF7⟩ := bnd h
    have hX7 : ∀ (σ12 : St) , σ12 = b7 → GM w p l e rm_X12_spreads s m args below meth c none True σ' 9 49 [some (rv w 170), some (iv a1), some (iv a2), some (iv a3), none, none, none, none, none] [] σ12 := by
      intro σ12 q
      subst q
      have h := hF7
      refine g_iload_n C dX12_spreads_49 rfl ?_
      refine g_istore (L1 := [some (rv w 170), some (iv a1), some (iv a2), some (iv a3), some (iv a2), none, none, none, none]) C dX12_spreads_50 rfl (Nat.le_of_ble_eq_true rfl) rfl ?_
      obtain ⟨b13, hb13, hF13⟩ := bnd h
      have hX13 : ∀ (σ107 : St) , σ107 = b13 → GM w p l e rm_X12_spreads s m args below meth c none True σ' 9 371 [none, none, none, none, none, none, none, none, none] [] σ107 := by
        intro σ107 q
        subst q
        have h := hF13
        exact g_vretP C dX12_spreads_371 hr hlk h
      have hL13 : ∀ (n : Nat) (x14 : Int) (σ15 : St) , InI x14 → lpN (fun a => m_X12_spreads_L52 a1 a2 a3 a.1 a.2) n (x14, σ15) = some b13 → GM w p l e rm_X12_spreads s m args below meth c none True σ' 9 52 [some (rv w 170), some (iv a1), some (iv a2), some (iv a3), some (iv x14), none, none, none, none] [] σ15 := by
        intro n
        induction n with
        | zero => intro x14 σ15 ix14 q; cases q
        | succ n ih13 =>
          intro x14 σ15 ix14 q
          obtain ⟨o13, h, hk13⟩ := lp_step q
          replace h : m_X12_spreads_L52 a1 a2 a3 x14 σ15 = some o13 := h
          unfold m_X12_spreads_L52 at h
          refine g_iload C dX12_spreads_52 rfl ?_
          refine g_bipush C dX12_spreads_54 rfl ?_
          refine g_icmp_ge C dX12_spreads_56 ix14 (by decide) rfl (tgt := 371) (fun c16 => ?_) (fun c16 => ?_)
          · have h := ifT c16 h
            refine g_mask [false, false, false, false, false, true, true, true, true] ?_
            obtain rfl := Option.some.inj h
            exact hX13 σ15 (lpR hk13).symm
          · have h := ifF c16 h
            refine g_iconst C dX12_spreads_59 ?_
            refine g_istore (L1 := [some (rv w 170), some (iv a1), some (iv a2), some (iv a3), some (iv x14), some (iv 0), none, none, none]) C dX12_spreads_60 rfl (Nat.le_of_ble_eq_true rfl) rfl ?_
            obtain ⟨b17, hb17, hF17⟩ := bnd h
            have hX17 : ∀ (σ38 : St) , σ38 = b17 → GM w p l e rm_X12_spreads s m args below meth c none True σ' 9 158 [some (rv w 170), some (iv a1), some (iv a2), some (iv a3), some (iv x14), none, none, none, none] [] σ38 := by
              intro σ38 q
              subst q
              have h := hF17
              refine g_iconst C dX12_spreads_158 ?_
              refine g_istore (L1 := [some (rv w 170), some (iv a1), some (iv a2), some (iv a3), some (iv x14), some (iv 0), none, none, none]) C dX12_spreads_159 rfl (Nat.le_of_ble_eq_true rfl) rfl ?_
              obtain ⟨b39, hb39, hF39⟩ := bnd h
              have hX39 : ∀ (σ106 : St) , σ106 = b39 → GM w p l e rm_X12_spreads s m args below meth c none True σ' 9 365 [some (rv w 170), some (iv a1), some (iv a2), some (iv a3), some (iv x14), none, none, none, none] [] σ106 := by
                intro σ106 q
                subst q
                have h := hF39
                refine g_iinc (L1 := [some (rv w 170), some (iv a1), some (iv a2), some (iv a3), some (iv (wr (x14 + 1))), none, none, none, none]) C dX12_spreads_365 rfl rfl (Nat.le_of_ble_eq_true rfl) rfl ?_
                refine g_goto C dX12_spreads_368 rfl (tgt := 52) ?_
                obtain rfl := Option.some.inj h
                exact ih13 _ _ (iwr _) (lpL hk13)
              have hL39 : ∀ (n : Nat) (x40 : Int) (σ41 : St) , InI x40 → lpN (fun a => m_X12_spreads_L161 a3 x14 a.1 a.2) n (x40, σ41) = some b39 → GM w p l e rm_X12_spreads s m args below meth c none True σ' 9 161 [some (rv w 170), some (iv a1), some (iv a2), some (iv a3), some (iv x14), some (iv x40), none, none, none] [] σ41 := by
                intro n
                induction n with
                | zero => intro x40 σ41 ix40 q; cases q
                | succ n ih39 =>
                  intro x40 σ41 ix40 q
                  obtain ⟨o39, h, hk39⟩ := lp_step q
                  replace h : m_X12_spreads_L161 a3 x14 x40 σ41 = some o39 := h
                  unfold m_X12_spreads_L161 at h
                  refine g_iload C dX12_spreads_161 rfl ?_
                  refine g_aload_n C dX12_spreads_163 rfl ?_
                  refine g_getI (j := 30) C dX12_spreads_164 rfl (Nat.le_of_ble_eq_true rfl) (Nat.le_of_ble_eq_true rfl) fl_12_330 rfl rfl (fun i42 => ?_)
                  refine g_icmp_ge C dX12_spreads_167 ix40 i42 rfl (tgt := 365) (fun c43 => ?_) (fun c43 => ?_)
                  · have h := ifT c43 h
                    refine g_mask [true, true, true, true, true, false, true, true, true] ?_
                    obtain rfl := Option.some.inj h
                    exact hX39 σ41 (lpR hk39).symm
                  · have h := ifF c43 h
                    refine g_iload_n C dX12_spreads_170 rfl ?_
                    have hJ188_105 : m_X12_spreads_J188 σ41 x14 x40 = some o39 → GM w p l e rm_X12_spreads s m args below meth c none True σ' 9 188 [some (rv w 170), some (iv a1), some (iv a2), some (iv a3), some (iv x14), some (iv x40), none, none, none] [] σ41 := by
                      intro h
                      unfold m_X12_spreads_J188 at h
                      refine g_iconst C dX12_spreads_188 ?_
                      refine g_istore (L1 := [some (rv w 170), some (iv a1), some (iv a2), some (iv a3), some (iv x14), some (iv x40), some (iv 0), none, none]) C dX12_spreads_189 rfl (Nat.le_of_ble_eq_true rfl) rfl ?_
                      refine g_iconst C dX12_spreads_191 ?_
                      refine g_istore (L1 := [some (rv w 170), some (iv a1), some (iv a2), some (iv a3), some (iv x14), some (iv x40), some (iv 0), some (iv 0), none]) C dX12_spreads_192 rfl (Nat.le_of_ble_eq_true rfl) rfl ?_
                      refine g_iconst C dX12_spreads_194 ?_
                      refine g_istore (L1 := [some (rv w 170), some (iv a1), some (iv a2), some (iv a3), some (iv x14), some (iv x40), some (iv 0), some (iv 0), some (iv 0)]) C dX12_spreads_195 rfl (Nat.le_of_ble_eq_true rfl) rfl ?_
                      obtain ⟨b74, hb74, hF74⟩ := bnd h
                      have hX74 : ∀ (x81 : Int) , InZ x81 → x81 = b74 → GM w p l e rm_X12_spreads s m args below meth c none True σ' 9 238 [some (rv w 170), some (iv a1), some (iv a2), some (iv a3), some (iv x14), some (iv x40), some (iv 0), some (iv x81), none] [] σ41 := by
                        intro x81 ix81 q
                        subst q
                        have h := hF74
                        refine g_iconst C dX12_spreads_238 ?_
                        refine g_istore (L1 := [some (rv w 170), some (iv a1), some (iv a2), some (iv a3), some (iv x14), some (iv x40), some (iv 0), some (iv x81), some (iv 0)]) C dX12_spreads_239 rfl (Nat.le_of_ble_eq_true rfl) rfl ?_
                        obtain ⟨b83, hb83, hF83⟩ := bnd h
                        have hX83 : ∀ (σ93 : St) , σ93 = b83 → GM w p l e rm_X12_spreads s m args below meth c none True σ' 9 310 [some (rv w 170), some (iv a1), some (iv a2), some (iv a3), some (iv x14), some (iv x40), none, none, none] [] σ93 := by
                          intro σ93 q
                          subst q
                          have h := hF83
                          refine g_iconst C dX12_spreads_310 ?_
                          refine g_istore (L1 := [some (rv w 170), some (iv a1), some (iv a2), some (iv a3), some (iv x14), some (iv x40), none, none, some (iv 0)]) C dX12_spreads_311 rfl (Nat.le_of_ble_eq_true rfl) rfl ?_
                          obtain ⟨b95, hb95, hF95⟩ := bnd h
                          have hX95 : ∀ (σ103 : St) , σ103 = b95 → GM w p l e rm_X12_spreads s m args below meth c none True σ' 9 359 [some (rv w 170), some (iv a1), some (iv a2), some (iv a3), some (iv x14), some (iv x40), none, none, none] [] σ103 := by
                            intro σ103 q
                            subst q
                            have h := hF95
                            refine g_iinc (L1 := [some (rv w 170), some (iv a1), some (iv a2), some (iv a3), some (iv x14), some (iv (wr (x40 + 1))), none, none, none]) C dX12_spreads_359 rfl rfl (Nat.le_of_ble_eq_true rfl) rfl ?_
                            refine g_goto C dX12_spreads_362 rfl (tgt := 161) ?_
                            obtain rfl := Option.some.inj h
                            exact ih39 _ _ (iwr _) (lpL hk39)
                          have hL95 : ∀ (n : Nat) (x96 : Int) (σ97 : St) , InI x96 → lpN (fun a => m_X12_spreads_L313_104 x14 x40 a.1 a.2) n (x96, σ97) = some b95 → GM w p l e rm_X12_spreads s m args below meth c none True σ' 9 313 [some (rv w 170), some (iv a1), some (iv a2), some (iv a3), some (iv x14), some (iv x40), none, none, some (iv x96)] [] σ97 := by
                            intro n
                            induction n with
                            | zero => intro x96 σ97 ix96 q; cases q
                            | succ n ih95 =>
                              intro x96 σ97 ix96 q
                              obtain ⟨o95, h, hk95⟩ := lp_step q
                              replace h : m_X12_spreads_L313_104 x14 x40 x96 σ97 = some o95 := h
                              unfold m_X12_spreads_L313_104 at h
                              refine g_iload C dX12_spreads_313 rfl ?_
                              refine g_aload_n C dX12_spreads_315 rfl ?_
                              refine g_getI (j := 35) C dX12_spreads_316 rfl (Nat.le_of_ble_eq_true rfl) (Nat.le_of_ble_eq_true rfl) fl_12_333 rfl rfl (fun i98 => ?_)
                              refine g_icmp_ge C dX12_spreads_319 ix96 i98 rfl (tgt := 359) (fun c99 => ?_) (fun c99 => ?_)
                              · have h := ifT c99 h
                                refine g_mask [true, true, true, true, true, true, true, true, false] ?_
                                obtain rfl := Option.some.inj h
                                exact hX95 σ97 (lpR hk95).symm
                              · have h := ifF c99 h
                                refine g_aload_n C dX12_spreads_322 rfl ?_
                                refine g_getR (j := 80) C dX12_spreads_323 rfl (Nat.le_of_ble_eq_true rfl) (Nat.le_of_ble_eq_true rfl) fl_12_191 rfl rfl (r := 226) rfl ?_
                                refine g_sipush C dX12_spreads_326 rfl ?_
                                refine g_iload C dX12_spreads_329 rfl ?_
                                refine g_imul C dX12_spreads_331 ?_
                                refine g_bipush C dX12_spreads_332 rfl ?_
                                refine g_iload C dX12_spreads_334 rfl ?_
                                refine g_imul C dX12_spreads_336 ?_
                                refine g_iadd C dX12_spreads_337 ?_
                                refine g_iload C dX12_spreads_338 rfl ?_
                                refine g_iadd C dX12_spreads_340 ?_
                                obtain ⟨x100, qx100, h⟩ := bnd h
                                refine g_zald C dX12_spreads_341 rfl rfl qx100 (iwr _) (fun ix100 => ?_)
                                refine g_if_eq C dX12_spreads_342 (zI ix100) rfl (tgt := 353) (fun c101 => ?_) (fun c101 => ?_)
                                · have h := ifT c101 h
                                  refine g_iinc (L1 := [some (rv w 170), some (iv a1), some (iv a2), some (iv a3), some (iv x14), some (iv x40), none, none, some (iv (wr (x96 + 1)))]) C dX12_spreads_353 rfl rfl (Nat.le_of_ble_eq_true rfl) rfl ?_
                                  refine g_goto C dX12_spreads_356 rfl (tgt := 313) ?_
                                  obtain rfl := Option.some.inj h
                                  exact ih95 _ _ (iwr _) (lpL hk95)
                                · have h := ifF c101 h
                                  refine g_aload_n C dX12_spreads_345 rfl ?_
                                  refine g_getR (j := 81) C dX12_spreads_346 rfl (Nat.le_of_ble_eq_true rfl) (Nat.le_of_ble_eq_true rfl) fl_12_194 rfl rfl (r := 227) rfl ?_
                                  refine g_iload C dX12_spreads_349 rfl ?_
                                  refine g_iconst C dX12_spreads_351 ?_
                                  obtain ⟨σ102, qσ102, h⟩ := bnd h
                                  refine g_zast C dX12_spreads_352 rfl rfl qσ102 ix40 (Or.inr rfl) ?_
                                  refine g_iinc (L1 := [some (rv w 170), some (iv a1), some (iv a2), some (iv a3), some (iv x14), some (iv x40), none, none, some (iv (wr (x96 + 1)))]) C dX12_spreads_353 rfl rfl (Nat.le_of_ble_eq_true rfl) rfl ?_
                                  refine g_goto C dX12_spreads_356 rfl (tgt := 313) ?_
                                  obtain rfl := Option.some.inj h
                                  exact ih95 _ _ (iwr _) (lpL hk95)
                          exact hL95 FU _ _ (by decide) hb95
                        have hL83 : ∀ (n : Nat) (x84 : Int) (σ85 : St) , InI x84 → lpN (fun a => m_X12_spreads_L241_94 x81 x14 x40 a.1 a.2) n (x84, σ85) = some b83 → GM w p l e rm_X12_spreads s m args below meth c none True σ' 9 241 [some (rv w 170), some (iv a1), some (iv a2), some (iv a3), some (iv x14), some (iv x40), some (iv 0), some (iv x81), some (iv x84)] [] σ85 := by
                          intro n
                          induction n with
                          | zero => intro x84 σ85 ix84 q; cases q
                          | succ n ih83 =>
                            intro x84 σ85 ix84 q
                            obtain ⟨o83, h, hk83⟩ := lp_step q
                            replace h : m_X12_spreads_L241_94 x81 x14 x40 x84 σ85 = some o83 := h
                            unfold m_X12_spreads_L241_94 at h
                            refine g_iload C dX12_spreads_241 rfl ?_
                            refine g_aload_n C dX12_spreads_243 rfl ?_
                            refine g_getI (j := 35) C dX12_spreads_244 rfl (Nat.le_of_ble_eq_true rfl) (Nat.le_of_ble_eq_true rfl) fl_12_333 rfl rfl (fun i86 => ?_)
                            refine g_icmp_ge C dX12_spreads_247 ix84 i86 rfl (tgt := 310) (fun c87 => ?_) (fun c87 => ?_)
                            · have h := ifT c87 h
                              refine g_mask [true, true, true, true, true, true, false, false, false] ?_
                              obtain rfl := Option.some.inj h
                              exact hX83 σ85 (lpR hk83).symm
                            · have h := ifF c87 h
                              refine g_iload C dX12_spreads_250 rfl ?_
                              refine g_if_ne C dX12_spreads_252 (by decide) rfl (tgt := 260) (fun c88 => absurd c88 (by decide)) (fun c88 => ?_)
                              refine g_iload C dX12_spreads_255 rfl ?_
                              refine g_if_eq C dX12_spreads_257 (zI ix81) rfl (tgt := 304) (fun c89 => ?_) (fun c89 => ?_)
                              · have h := ifT c89 h
                                refine g_iinc (L1 := [some (rv w 170), some (iv a1), some (iv a2), some (iv a3), some (iv x14), some (iv x40), some (iv 0), some (iv x81), some (iv (wr (x84 + 1)))]) C dX12_spreads_304 rfl rfl (Nat.le_of_ble_eq_true rfl) rfl ?_
                                refine g_goto C dX12_spreads_307 rfl (tgt := 241) ?_
                                obtain rfl := Option.some.inj h
                                exact ih83 _ _ (iwr _) (lpL hk83)
                              · have h := ifF c89 h
                                refine g_aload_n C dX12_spreads_260 rfl ?_
                                refine g_getR (j := 75) C dX12_spreads_261 rfl (Nat.le_of_ble_eq_true rfl) (Nat.le_of_ble_eq_true rfl) fl_12_176 rfl rfl (r := 221) rfl ?_
                                refine g_sipush C dX12_spreads_264 rfl ?_
                                refine g_iload C dX12_spreads_267 rfl ?_
                                refine g_imul C dX12_spreads_269 ?_
                                refine g_bipush C dX12_spreads_270 rfl ?_
                                refine g_iload C dX12_spreads_272 rfl ?_
                                refine g_imul C dX12_spreads_274 ?_
                                refine g_iadd C dX12_spreads_275 ?_
                                refine g_iload C dX12_spreads_276 rfl ?_
                                refine g_iadd C dX12_spreads_278 ?_
                                obtain ⟨x90, qx90, h⟩ := bnd h
                                refine g_zald C dX12_spreads_279 rfl rfl qx90 (iwr _) (fun ix90 => ?_)
                                refine g_if_eq C dX12_spreads_280 (zI ix90) rfl (tgt := 304) (fun c91 => ?_) (fun c91 => ?_)
                                · have h := ifT c91 h
                                  refine g_iinc (L1 := [some (rv w 170), some (iv a1), some (iv a2), some (iv a3), some (iv x14), some (iv x40), some (iv 0), some (iv x81), some (iv (wr (x84 + 1)))]) C dX12_spreads_304 rfl rfl (Nat.le_of_ble_eq_true rfl) rfl ?_
                                  refine g_goto C dX12_spreads_307 rfl (tgt := 241) ?_
                                  obtain rfl := Option.some.inj h
                                  exact ih83 _ _ (iwr _) (lpL hk83)
                                · have h := ifF c91 h
                                  refine g_aload_n C dX12_spreads_283 rfl ?_
                                  refine g_getR (j := 80) C dX12_spreads_284 rfl (Nat.le_of_ble_eq_true rfl) (Nat.le_of_ble_eq_true rfl) fl_12_191 rfl rfl (r := 226) rfl ?_
                                  refine g_sipush C dX12_spreads_287 rfl ?_
                                  refine g_iload C dX12_spreads_290 rfl ?_
                                  refine g_imul C dX12_spreads_292 ?_
                                  refine g_bipush C dX12_spreads_293 rfl ?_
                                  refine g_iload C dX12_spreads_295 rfl ?_
                                  refine g_imul C dX12_spreads_297 ?_
                                  refine g_iadd C dX12_spreads_298 ?_
                                  refine g_iload C dX12_spreads_299 rfl ?_
                                  refine g_iadd C dX12_spreads_301 ?_
                                  refine g_iconst C dX12_spreads_302 ?_
                                  obtain ⟨σ92, qσ92, h⟩ := bnd h
                                  refine g_zast C dX12_spreads_303 rfl rfl qσ92 (iwr _) (Or.inr rfl) ?_
                                  refine g_iinc (L1 := [some (rv w 170), some (iv a1), some (iv a2), some (iv a3), some (iv x14), some (iv x40), some (iv 0), some (iv x81), some (iv (wr (x84 + 1)))]) C dX12_spreads_304 rfl rfl (Nat.le_of_ble_eq_true rfl) rfl ?_
                                  refine g_goto C dX12_spreads_307 rfl (tgt := 241) ?_
                                  obtain rfl := Option.some.inj h
                                  exact ih83 _ _ (iwr _) (lpL hk83)
                        exact hL83 FU _ _ (by decide) hb83
                      have hL74 : ∀ (n : Nat) (x75 : Int) (x76 : Int) , InZ x75 → InI x76 → lpN (fun a => m_X12_spreads_L197_82 σ41 x14 x40 a.1 a.2) n (x75, x76) = some b74 → GM w p l e rm_X12_spreads s m args below meth c none True σ' 9 197 [some (rv w 170), some (iv a1), some (iv a2), some (iv a3), some (iv x14), some (iv x40), some (iv 0), some (iv x75), some (iv x76)] [] σ41 := by
                        intro n
                        induction n with
                        | zero => intro x75 x76 ix75 ix76 q; cases q
                        | succ n ih74 =>
                          intro x75 x76 ix75 ix76 q
                          obtain ⟨o74, h, hk74⟩ := lp_step q
                          replace h : m_X12_spreads_L197_82 σ41 x14 x40 x75 x76 = some o74 := h
                          unfold m_X12_spreads_L197_82 at h
                          refine g_iload C dX12_spreads_197 rfl ?_
                          refine g_aload_n C dX12_spreads_199 rfl ?_
                          refine g_getI (j := 35) C dX12_spreads_200 rfl (Nat.le_of_ble_eq_true rfl) (Nat.le_of_ble_eq_true rfl) fl_12_333 rfl rfl (fun i77 => ?_)
                          refine g_icmp_ge C dX12_spreads_203 ix76 i77 rfl (tgt := 238) (fun c78 => ?_) (fun c78 => ?_)
                          · have h := ifT c78 h
                            refine g_mask [true, true, true, true, true, true, true, true, false] ?_
                            obtain rfl := Option.some.inj h
                            exact hX74 x75 ix75 (lpR hk74).symm
                          · have h := ifF c78 h
                            refine g_aload_n C dX12_spreads_206 rfl ?_
                            refine g_getR (j := 80) C dX12_spreads_207 rfl (Nat.le_of_ble_eq_true rfl) (Nat.le_of_ble_eq_true rfl) fl_12_191 rfl rfl (r := 226) rfl ?_
                            refine g_sipush C dX12_spreads_210 rfl ?_
                            refine g_iload C dX12_spreads_213 rfl ?_
                            refine g_imul C dX12_spreads_215 ?_
                            refine g_bipush C dX12_spreads_216 rfl ?_
                            refine g_iload C dX12_spreads_218 rfl ?_
                            refine g_imul C dX12_spreads_220 ?_
                            refine g_iadd C dX12_spreads_221 ?_
                            refine g_iload C dX12_spreads_222 rfl ?_
                            refine g_iadd C dX12_spreads_224 ?_
                            obtain ⟨x79, qx79, h⟩ := bnd h
                            refine g_zald C dX12_spreads_225 rfl rfl qx79 (iwr _) (fun ix79 => ?_)
                            refine g_if_eq C dX12_spreads_226 (zI ix79) rfl (tgt := 232) (fun c80 => ?_) (fun c80 => ?_)
                            · have h := ifT c80 h
                              refine g_iinc (L1 := [some (rv w 170), some (iv a1), some (iv a2), some (iv a3), some (iv x14), some (iv x40), some (iv 0), some (iv x75), some (iv (wr (x76 + 1)))]) C dX12_spreads_232 rfl rfl (Nat.le_of_ble_eq_true rfl) rfl ?_
                              refine g_goto C dX12_spreads_235 rfl (tgt := 197) ?_
                              obtain rfl := Option.some.inj h
                              exact ih74 _ _ ix75 (iwr _) (lpL hk74)
                            · have h := ifF c80 h
                              refine g_iconst C dX12_spreads_229 ?_
                              refine g_istore (L1 := [some (rv w 170), some (iv a1), some (iv a2), some (iv a3), some (iv x14), some (iv x40), some (iv 0), some (iv 1), some (iv x76)]) C dX12_spreads_230 rfl (Nat.le_of_ble_eq_true rfl) rfl ?_
                              refine g_iinc (L1 := [some (rv w 170), some (iv a1), some (iv a2), some (iv a3), some (iv x14), some (iv x40), some (iv 0), some (iv 1), some (iv (wr (x76 + 1)))]) C dX12_spreads_232 rfl rfl (Nat.le_of_ble_eq_true rfl) rfl ?_
                              refine g_goto C dX12_spreads_235 rfl (tgt := 197) ?_
                              obtain rfl := Option.some.inj h
                              exact ih74 _ _ (Or.inr rfl) (iwr _) (lpL hk74)
                      exact hL74 FU _ _ (Or.inl rfl) (by decide) hb74
                    refine g_if_eq C dX12_spreads_171 (zI ia3) rfl (tgt := 188) (fun c44 => ?_) (fun c44 => ?_)
                    · have h := ifT c44 h
                      exact hJ188_105  h
                    · have h := ifF c44 h
                      refine g_aload_n C dX12_spreads_174 rfl ?_
                      refine g_getR (j := 81) C dX12_spreads_175 rfl (Nat.le_of_ble_eq_true rfl) (Nat.le_of_ble_eq_true rfl) fl_12_194 rfl rfl (r := 227) rfl ?_
                      refine g_iload C dX12_spreads_178 rfl ?_
                      obtain ⟨x45, qx45, h⟩ := bnd h
                      refine g_zald C dX12_spreads_180 rfl rfl qx45 ix40 (fun ix45 => ?_)
                      refine g_if_eq C dX12_spreads_181 (zI ix45) rfl (tgt := 188) (fun c46 => ?_) (fun c46 => ?_)
                      · have h := ifT c46 h
                        exact hJ188_105  h
                      · have h := ifF c46 h
                        refine g_iconst C dX12_spreads_184 ?_
                        refine g_goto C dX12_spreads_185 rfl (tgt := 189) ?_
                        refine g_istore (L1 := [some (rv w 170), some (iv a1), some (iv a2), some (iv a3), some (iv x14), some (iv x40), some (iv 1), none, none]) C dX12_spreads_189 rfl (Nat.le_of_ble_eq_true rfl) rfl ?_
                        refine g_iconst C dX12_spreads_191 ?_
                        refine g_istore (L1 := [some (rv w 170), some (iv a1), some (iv a2), some (iv a3), some (iv x14), some (iv x40), some (iv 1), some (iv 0), none]) C dX12_spreads_192 rfl (Nat.le_of_ble_eq_true rfl) rfl ?_
                        refine g_iconst C dX12_spreads_194 ?_
                        refine g_istore (L1 := [some (rv w 170), some (iv a1), some (iv a2), some (iv a3), some (iv x14), some (iv x40), some (iv 1), some (iv 0), some (iv 0)]) C dX12_spreads_195 rfl (Nat.le_of_ble_eq_true rfl) rfl ?_
                        obtain ⟨b47, hb47, hF47⟩ := bnd h
                        have hX47 : ∀ (x54 : Int) , InZ x54 → x54 = b47 → GM w p l e rm_X12_spreads s m args below meth c none True σ' 9 238 [some (rv w 170), some (iv a1), some (iv a2), some (iv a3), some (iv x14), some (iv x40), some (iv 1), some (iv x54), none] [] σ41 := by
                          intro x54 ix54 q
                          subst q
                          have h := hF47
                          refine g_iconst C dX12_spreads_238 ?_
                          refine g_istore (L1 := [some (rv w 170), some (iv a1), some (iv a2), some (iv a3), some (iv x14), some (iv x40), some (iv 1), some (iv x54), some (iv 0)]) C dX12_spreads_239 rfl (Nat.le_of_ble_eq_true rfl) rfl ?_
                          obtain ⟨b55, hb55, hF55⟩ := bnd h
                          have hX55 : ∀ (σ64 : St) , σ64 = b55 → GM w p l e rm_X12_spreads s m args below meth c none True σ' 9 310 [some (rv w 170), some (iv a1), some (iv a2), some (iv a3), some (iv x14), some (iv x40), none, none, none] [] σ64 := by
                            intro σ64 q
                            subst q
                            have h := hF55
                            refine g_iconst C dX12_spreads_310 ?_
                            refine g_istore (L1 := [some (rv w 170), some (iv a1), some (iv a2), some (iv a3), some (iv x14), some (iv x40), none, none, some (iv 0)]) C dX12_spreads_311 rfl (Nat.le_of_ble_eq_true rfl) rfl ?_
                            obtain ⟨b65, hb65, hF65⟩ := bnd h
                            have hX65 : ∀ (σ73 : St) , σ73 = b65 → GM w p l e rm_X12_spreads s m args below meth c none True σ' 9 359 [some (rv w 170), some (iv a1), some (iv a2), some (iv a3), some (iv x14), some (iv x40), none, none, none] [] σ73 := by
                              intro σ73 q
                              subst q
                              have h := hF65
                              refine g_iinc (L1 := [some (rv w 170), some (iv a1), some (iv a2), some (iv a3), some (iv x14), some (iv (wr (x40 + 1))), none, none, none]) C dX12_spreads_359 rfl rfl (Nat.le_of_ble_eq_true rfl) rfl ?_
                              refine g_goto C dX12_spreads_362 rfl (tgt := 161) ?_
                              obtain rfl := Option.some.inj h
                              exact ih39 _ _ (iwr _) (lpL hk39)
                            have hL65 : ∀ (n : Nat) (x66 : Int) (σ67 : St) , InI x66 → lpN (fun a => m_X12_spreads_L313 x14 x40 a.1 a.2) n (x66, σ67) = some b65 → GM w p l e rm_X12_spreads s m args below meth c none True σ' 9 313 [some (rv w 170), some (iv a1), some (iv a2), some (iv a3), some (iv x14), some (iv x40), none, none, some (iv x66)] [] σ67 := by
                              intro n
                              induction n with
                              | zero => intro x66 σ67 ix66 q; cases q
                              | succ n ih65 =>
                                intro x66 σ67 ix66 q
                                obtain ⟨o65, h, hk65⟩ := lp_step q
                                replace h : m_X12_spreads_L313 x14 x40 x66 σ67 = some o65 := h
                                unfold m_X12_spreads_L313 at h
                                refine g_iload C dX12_spreads_313 rfl ?_
                                refine g_aload_n C dX12_spreads_315 rfl ?_
                                refine g_getI (j := 35) C dX12_spreads_316 rfl (Nat.le_of_ble_eq_true rfl) (Nat.le_of_ble_eq_true rfl) fl_12_333 rfl rfl (fun i68 => ?_)
                                refine g_icmp_ge C dX12_spreads_319 ix66 i68 rfl (tgt := 359) (fun c69 => ?_) (fun c69 => ?_)
                                · have h := ifT c69 h
                                  refine g_mask [true, true, true, true, true, true, true, true, false] ?_
                                  obtain rfl := Option.some.inj h
                                  exact hX65 σ67 (lpR hk65).symm
                                · have h := ifF c69 h
                                  refine g_aload_n C dX12_spreads_322 rfl ?_
                                  refine g_getR (j := 80) C dX12_spreads_323 rfl (Nat.le_of_ble_eq_true rfl) (Nat.le_of_ble_eq_true rfl) fl_12_191 rfl rfl (r := 226) rfl ?_
                                  refine g_sipush C dX12_spreads_326 rfl ?_
                                  refine g_iload C dX12_spreads_329 rfl ?_
                                  refine g_imul C dX12_spreads_331 ?_
                                  refine g_bipush C dX12_spreads_332 rfl ?_
                                  refine g_iload C dX12_spreads_334 rfl ?_
                                  refine g_imul C dX12_spreads_336 ?_
                                  refine g_iadd C dX12_spreads_337 ?_
                                  refine g_iload C dX12_spreads_338 rfl ?_
                                  refine g_iadd C dX12_spreads_340 ?_
                                  obtain ⟨x70, qx70, h⟩ := bnd h
                                  refine g_zald C dX12_spreads_341 rfl rfl qx70 (iwr _) (fun ix70 => ?_)
                                  refine g_if_eq C dX12_spreads_342 (zI ix70) rfl (tgt := 353) (fun c71 => ?_) (fun c71 => ?_)
                                  · have h := ifT c71 h
                                    refine g_iinc (L1 := [some (rv w 170), some (iv a1), some (iv a2), some (iv a3), some (iv x14), some (iv x40), none, none, some (iv (wr (x66 + 1)))]) C dX12_spreads_353 rfl rfl (Nat.le_of_ble_eq_true rfl) rfl ?_
                                    refine g_goto C dX12_spreads_356 rfl (tgt := 313) ?_
                                    obtain rfl := Option.some.inj h
                                    exact ih65 _ _ (iwr _) (lpL hk65)
                                  · have h := ifF c71 h
                                    refine g_aload_n C dX12_spreads_345 rfl ?_
                                    refine g_getR (j := 81) C dX12_spreads_346 rfl (Nat.le_of_ble_eq_true rfl) (Nat.le_of_ble_eq_true rfl) fl_12_194 rfl rfl (r := 227) rfl ?_
                                    refine g_iload C dX12_spreads_349 rfl ?_
                                    refine g_iconst C dX12_spreads_351 ?_
                                    obtain ⟨σ72, qσ72, h⟩ := bnd h
                                    refine g_zast C dX12_spreads_352 rfl rfl qσ72 ix40 (Or.inr rfl) ?_
                                    refine g_iinc (L1 := [some (rv w 170), some (iv a1), some (iv a2), some (iv a3), some (iv x14), some (iv x40), none, none, some (iv (wr (x66 + 1)))]) C dX12_spreads_353 rfl rfl (Nat.le_of_ble_eq_true rfl) rfl ?_
                                    refine g_goto C dX12_spreads_356 rfl (tgt := 313) ?_
                                    obtain rfl := Option.some.inj h
                                    exact ih65 _ _ (iwr _) (lpL hk65)
                            exact hL65 FU _ _ (by decide) hb65
                          have hL55 : ∀ (n : Nat) (x56 : Int) (σ57 : St) , InI x56 → lpN (fun a => m_X12_spreads_L241 x14 x40 a.1 a.2) n (x56, σ57) = some b55 → GM w p l e rm_X12_spreads s m args below meth c none True σ' 9 241 [some (rv w 170), some (iv a1), some (iv a2), some (iv a3), some (iv x14), some (iv x40), some (iv 1), some (iv x54), some (iv x56)] [] σ57 := by
                            intro n
                            induction n with
                            | zero => intro x56 σ57 ix56 q; cases q
                            | succ n ih55 =>
                              intro x56 σ57 ix56 q
                              obtain ⟨o55, h, hk55⟩ := lp_step q
                              replace h : m_X12_spreads_L241 x14 x40 x56 σ57 = some o55 := h
                              unfold m_X12_spreads_L241 at h
                              refine g_iload C dX12_spreads_241 rfl ?_
                              refine g_aload_n C dX12_spreads_243 rfl ?_
                              refine g_getI (j := 35) C dX12_spreads_244 rfl (Nat.le_of_ble_eq_true rfl) (Nat.le_of_ble_eq_true rfl) fl_12_333 rfl rfl (fun i58 => ?_)
                              refine g_icmp_ge C dX12_spreads_247 ix56 i58 rfl (tgt := 310) (fun c59 => ?_) (fun c59 => ?_)
                              · have h := ifT c59 h
                                refine g_mask [true, true, true, true, true, true, false, false, false] ?_
                                obtain rfl := Option.some.inj h
                                exact hX55 σ57 (lpR hk55).symm
                              · have h := ifF c59 h
                                refine g_iload C dX12_spreads_250 rfl ?_
                                refine g_if_ne C dX12_spreads_252 (by decide) rfl (tgt := 260) (fun c60 => ?_) (fun c60 => absurd c60 (by decide))
                                refine g_aload_n C dX12_spreads_260 rfl ?_
                                refine g_getR (j := 75) C dX12_spreads_261 rfl (Nat.le_of_ble_eq_true rfl) (Nat.le_of_ble_eq_true rfl) fl_12_176 rfl rfl (r := 221) rfl ?_
                                refine g_sipush C dX12_spreads_264 rfl ?_
                                refine g_iload C dX12_spreads_267 rfl ?_
                                refine g_imul C dX12_spreads_269 ?_
                                refine g_bipush C dX12_spreads_270 rfl ?_
                                refine g_iload C dX12_spreads_272 rfl ?_
                                refine g_imul C dX12_spreads_274 ?_
                                refine g_iadd C dX12_spreads_275 ?_
                                refine g_iload C dX12_spreads_276 rfl ?_
                                refine g_iadd C dX12_spreads_278 ?_
                                obtain ⟨x61, qx61, h⟩ := bnd h
                                refine g_zald C dX12_spreads_279 rfl rfl qx61 (iwr _) (fun ix61 => ?_)
                                refine g_if_eq C dX12_spreads_280 (zI ix61) rfl (tgt := 304) (fun c62 => ?_) (fun c62 => ?_)
                                · have h := ifT c62 h
                                  refine g_iinc (L1 := [some (rv w 170), some (iv a1), some (iv a2), some (iv a3), some (iv x14), some (iv x40), some (iv 1), some (iv x54), some (iv (wr (x56 + 1)))]) C dX12_spreads_304 rfl rfl (Nat.le_of_ble_eq_true rfl) rfl ?_
                                  refine g_goto C dX12_spreads_307 rfl (tgt := 241) ?_
                                  obtain rfl := Option.some.inj h
                                  exact ih55 _ _ (iwr _) (lpL hk55)
                                · have h := ifF c62 h
                                  refine g_aload_n C dX12_spreads_283 rfl ?_
                                  refine g_getR (j := 80) C dX12_spreads_284 rfl (Nat.le_of_ble_eq_true rfl) (Nat.le_of_ble_eq_true rfl) fl_12_191 rfl rfl (r := 226) rfl ?_
                                  refine g_sipush C dX12_spreads_287 rfl ?_
                                  refine g_iload C dX12_spreads_290 rfl ?_
                                  refine g_imul C dX12_spreads_292 ?_
                                  refine g_bipush C dX12_spreads_293 rfl ?_
                                  refine g_iload C dX12_spreads_295 rfl ?_
                                  refine g_imul C dX12_spreads_297 ?_
                                  refine g_iadd C dX12_spreads_298 ?_
                                  refine g_iload C dX12_spreads_299 rfl ?_
                                  refine g_iadd C dX12_spreads_301 ?_
                                  refine g_iconst C dX12_spreads_302 ?_
                                  obtain ⟨σ63, qσ63, h⟩ := bnd h
                                  refine g_zast C dX12_spreads_303 rfl rfl qσ63 (iwr _) (Or.inr rfl) ?_
                                  refine g_iinc (L1 := [some (rv w 170), some (iv a1), some (iv a2), some (iv a3), some (iv x14), some (iv x40), some (iv 1), some (iv x54), some (iv (wr (x56 + 1)))]) C dX12_spreads_304 rfl rfl (Nat.le_of_ble_eq_true rfl) rfl ?_
                                  refine g_goto C dX12_spreads_307 rfl (tgt := 241) ?_
                                  obtain rfl := Option.some.inj h
                                  exact ih55 _ _ (iwr _) (lpL hk55)
                          exact hL55 FU _ _ (by decide) hb55
                        have hL47 : ∀ (n : Nat) (x48 : Int) (x49 : Int) , InZ x48 → InI x49 → lpN (fun a => m_X12_spreads_L197 σ41 x14 x40 a.1 a.2) n (x48, x49) = some b47 → GM w p l e rm_X12_spreads s m args below meth c none True σ' 9 197 [some (rv w 170), some (iv a1), some (iv a2), some (iv a3), some (iv x14), some (iv x40), some (iv 1), some (iv x48), some (iv x49)] [] σ41 := by
                          intro n
                          induction n with
                          | zero => intro x48 x49 ix48 ix49 q; cases q
                          | succ n ih47 =>
                            intro x48 x49 ix48 ix49 q
                            obtain ⟨o47, h, hk47⟩ := lp_step q
                            replace h : m_X12_spreads_L197 σ41 x14 x40 x48 x49 = some o47 := h
                            unfold m_X12_spreads_L197 at h
                            refine g_iload C dX12_spreads_197 rfl ?_
                            refine g_aload_n C dX12_spreads_199 rfl ?_
                            refine g_getI (j := 35) C dX12_spreads_200 rfl (Nat.le_of_ble_eq_true rfl) (Nat.le_of_ble_eq_true rfl) fl_12_333 rfl rfl (fun i50 => ?_)
                            refine g_icmp_ge C dX12_spreads_203 ix49 i50 rfl (tgt := 238) (fun c51 => ?_) (fun c51 => ?_)
                            · have h := ifT c51 h
                              refine g_mask [true, true, true, true, true, true, true, true, false] ?_
                              obtain rfl := Option.some.inj h
                              exact hX47 x48 ix48 (lpR hk47).symm
                            · have h := ifF c51 h
                              refine g_aload_n C dX12_spreads_206 rfl ?_
                              refine g_getR (j := 80) C dX12_spreads_207 rfl (Nat.le_of_ble_eq_true rfl) (Nat.le_of_ble_eq_true rfl) fl_12_191 rfl rfl (r := 226) rfl ?_
                              refine g_sipush C dX12_spreads_210 rfl ?_
                              refine g_iload C dX12_spreads_213 rfl ?_
                              refine g_imul C dX12_spreads_215 ?_
                              refine g_bipush C dX12_spreads_216 rfl ?_
                              refine g_iload C dX12_spreads_218 rfl ?_
                              refine g_imul C dX12_spreads_220 ?_
                              refine g_iadd C dX12_spreads_221 ?_
                              refine g_iload C dX12_spreads_222 rfl ?_
                              refine g_iadd C dX12_spreads_224 ?_
                              obtain ⟨x52, qx52, h⟩ := bnd h
                              refine g_zald C dX12_spreads_225 rfl rfl qx52 (iwr _) (fun ix52 => ?_)
                              refine g_if_eq C dX12_spreads_226 (zI ix52) rfl (tgt := 232) (fun c53 => ?_) (fun c53 => ?_)
                              · have h := ifT c53 h
                                refine g_iinc (L1 := [some (rv w 170), some (iv a1), some (iv a2), some (iv a3), some (iv x14), some (iv x40), some (iv 1), some (iv x48), some (iv (wr (x49 + 1)))]) C dX12_spreads_232 rfl rfl (Nat.le_of_ble_eq_true rfl) rfl ?_
                                refine g_goto C dX12_spreads_235 rfl (tgt := 197) ?_
                                obtain rfl := Option.some.inj h
                                exact ih47 _ _ ix48 (iwr _) (lpL hk47)
                              · have h := ifF c53 h
                                refine g_iconst C dX12_spreads_229 ?_
                                refine g_istore (L1 := [some (rv w 170), some (iv a1), some (iv a2), some (iv a3), some (iv x14), some (iv x40), some (iv 1), some (iv 1), some (iv x49)]) C dX12_spreads_230 rfl (Nat.le_of_ble_eq_true rfl) rfl ?_
                                refine g_iinc (L1 := [some (rv w 170), some (iv a1), some (iv a2), some (iv a3), some (iv x14), some (iv x40), some (iv 1), some (iv 1), some (iv (wr (x49 + 1)))]) C dX12_spreads_232 rfl rfl (Nat.le_of_ble_eq_true rfl) rfl ?_
                                refine g_goto C dX12_spreads_235 rfl (tgt := 197) ?_
                                obtain rfl := Option.some.inj h
                                exact ih47 _ _ (Or.inr rfl) (iwr _) (lpL hk47)
                        exact hL47 FU _ _ (Or.inl rfl) (by decide) hb47
              exact hL39 FU _ _ (by decide) hb39
            have hL17 : ∀ (n : Nat) (x18 : Int) (σ19 : St) , InI x18 → lpN (fun a => m_X12_spreads_L62 x14 a1 a2 a.1 a.2) n (x18, σ19) = some b17 → GM w p l e rm_X12_spreads s m args below meth c none True σ' 9 62 [some (rv w 170), some (iv a1), some (iv a2), some (iv a3), some (iv x14), some (iv x18), none, none, none] [] σ19 := by
              intro n
              induction n with
              | zero => intro x18 σ19 ix18 q; cases q
              | succ n ih17 =>
                intro x18 σ19 ix18 q
                obtain ⟨o17, h, hk17⟩ := lp_step q
                replace h : m_X12_spreads_L62 x14 a1 a2 x18 σ19 = some o17 := h
                unfold m_X12_spreads_L62 at h
                refine g_iload C dX12_spreads_62 rfl ?_
                refine g_aload_n C dX12_spreads_64 rfl ?_
                refine g_getI (j := 35) C dX12_spreads_65 rfl (Nat.le_of_ble_eq_true rfl) (Nat.le_of_ble_eq_true rfl) fl_12_333 rfl rfl (fun i20 => ?_)
                refine g_icmp_ge C dX12_spreads_68 ix18 i20 rfl (tgt := 158) (fun c21 => ?_) (fun c21 => ?_)
                · have h := ifT c21 h
                  refine g_mask [true, true, true, true, true, false, true, true, true] ?_
                  obtain rfl := Option.some.inj h
                  exact hX17 σ19 (lpR hk17).symm
                · have h := ifF c21 h
                  refine g_iconst C dX12_spreads_71 ?_
                  refine g_istore (L1 := [some (rv w 170), some (iv a1), some (iv a2), some (iv a3), some (iv x14), some (iv x18), some (iv 0), none, none]) C dX12_spreads_72 rfl (Nat.le_of_ble_eq_true rfl) rfl ?_
                  obtain ⟨b22, hb22, hF22⟩ := bnd h
                  have hX22 : ∀ (σ37 : St) , σ37 = b22 → GM w p l e rm_X12_spreads s m args below meth c none True σ' 9 152 [some (rv w 170), some (iv a1), some (iv a2), some (iv a3), some (iv x14), some (iv x18), none, none, none] [] σ37 := by
                    intro σ37 q
                    subst q
                    have h := hF22
                    refine g_iinc (L1 := [some (rv w 170), some (iv a1), some (iv a2), some (iv a3), some (iv x14), some (iv (wr (x18 + 1))), none, none, none]) C dX12_spreads_152 rfl rfl (Nat.le_of_ble_eq_true rfl) rfl ?_
                    refine g_goto C dX12_spreads_155 rfl (tgt := 62) ?_
                    obtain rfl := Option.some.inj h
                    exact ih17 _ _ (iwr _) (lpL hk17)
                  have hL22 : ∀ (n : Nat) (x23 : Int) (σ24 : St) , InI x23 → lpN (fun a => m_X12_spreads_L74 x18 x14 a1 a2 a.1 a.2) n (x23, σ24) = some b22 → GM w p l e rm_X12_spreads s m args below meth c none True σ' 9 74 [some (rv w 170), some (iv a1), some (iv a2), some (iv a3), some (iv x14), some (iv x18), some (iv x23), none, none] [] σ24 := by
                    intro n
                    induction n with
                    | zero => intro x23 σ24 ix23 q; cases q
                    | succ n ih22 =>
                      intro x23 σ24 ix23 q
                      obtain ⟨o22, h, hk22⟩ := lp_step q
                      replace h : m_X12_spreads_L74 x18 x14 a1 a2 x23 σ24 = some o22 := h
                      unfold m_X12_spreads_L74 at h
                      refine g_iload C dX12_spreads_74 rfl ?_
                      refine g_aload_n C dX12_spreads_76 rfl ?_
                      refine g_getI (j := 30) C dX12_spreads_77 rfl (Nat.le_of_ble_eq_true rfl) (Nat.le_of_ble_eq_true rfl) fl_12_330 rfl rfl (fun i25 => ?_)
                      refine g_icmp_ge C dX12_spreads_80 ix23 i25 rfl (tgt := 152) (fun c26 => ?_) (fun c26 => ?_)
                      · have h := ifT c26 h
                        refine g_mask [true, true, true, true, true, true, false, true, true] ?_
                        obtain rfl := Option.some.inj h
                        exact hX22 σ24 (lpR hk22).symm
                      · have h := ifF c26 h
                        refine g_sipush C dX12_spreads_83 rfl ?_
                        refine g_iload C dX12_spreads_86 rfl ?_
                        refine g_imul C dX12_spreads_88 ?_
                        refine g_bipush C dX12_spreads_89 rfl ?_
                        refine g_iload C dX12_spreads_91 rfl ?_
                        refine g_imul C dX12_spreads_93 ?_
                        refine g_iadd C dX12_spreads_94 ?_
                        refine g_iload C dX12_spreads_95 rfl ?_
                        refine g_iadd C dX12_spreads_97 ?_
                        obtain ⟨x27, qx27, h⟩ := bnd h
                        have qx27 := Option.some.inj qx27
                        have ix27 : InI x27 := by rw [← qx27]; exact (iwr _)
                        refine g_E qx27 ?_
                        refine g_istore (L1 := [some (rv w 170), some (iv a1), some (iv a2), some (iv a3), some (iv x14), some (iv x18), some (iv x23), some (iv x27), none]) C dX12_spreads_98 rfl (Nat.le_of_ble_eq_true rfl) rfl ?_
                        refine g_aload_n C dX12_spreads_100 rfl ?_
                        refine g_getR (j := 80) C dX12_spreads_101 rfl (Nat.le_of_ble_eq_true rfl) (Nat.le_of_ble_eq_true rfl) fl_12_191 rfl rfl (r := 226) rfl ?_
                        refine g_iload C dX12_spreads_104 rfl ?_
                        refine g_aload_n C dX12_spreads_106 rfl ?_
                        refine g_getR (j := 75) C dX12_spreads_107 rfl (Nat.le_of_ble_eq_true rfl) (Nat.le_of_ble_eq_true rfl) fl_12_176 rfl rfl (r := 221) rfl ?_
                        refine g_iload C dX12_spreads_110 rfl ?_
                        obtain ⟨x28, qx28, h⟩ := bnd h
                        refine g_zald C dX12_spreads_112 rfl rfl qx28 ix27 (fun ix28 => ?_)
                        refine g_if_eq C dX12_spreads_113 (zI ix28) rfl (tgt := 144) (fun c29 => ?_) (fun c29 => ?_)
                        · have h := ifT c29 h
                          refine g_iconst C dX12_spreads_144 ?_
                          obtain ⟨σ30, qσ30, h⟩ := bnd h
                          refine g_zast C dX12_spreads_145 rfl rfl qσ30 ix27 (Or.inl rfl) ?_
                          refine g_iinc (L1 := [some (rv w 170), some (iv a1), some (iv a2), some (iv a3), some (iv x14), some (iv x18), some (iv (wr (x23 + 1))), some (iv x27), none]) C dX12_spreads_146 rfl rfl (Nat.le_of_ble_eq_true rfl) rfl ?_
                          refine g_goto C dX12_spreads_149 rfl (tgt := 74) ?_
                          refine g_mask [true, true, true, true, true, true, true, false, true] ?_
                          obtain rfl := Option.some.inj h
                          exact ih22 _ _ (iwr _) (lpL hk22)
                        · have h := ifF c29 h
                          refine g_iload_n C dX12_spreads_116 rfl ?_
                          refine g_iload C dX12_spreads_117 rfl ?_
                          refine g_ishr C dX12_spreads_119 ?_
                          refine g_iconst C dX12_spreads_120 ?_
                          refine g_iand C dX12_spreads_121 ?_
                          refine g_iconst C dX12_spreads_122 ?_
                          have hJ140_36 : m_X12_spreads_J140 σ24 x27 x23 = some o22 → GM w p l e rm_X12_spreads s m args below meth c none True σ' 9 140 [some (rv w 170), some (iv a1), some (iv a2), some (iv a3), some (iv x14), some (iv x18), some (iv x23), none, none] [iv x27, rv w 226] σ24 := by
                            intro h
                            unfold m_X12_spreads_J140 at h
                            refine g_iconst C dX12_spreads_140 ?_
                            refine g_goto C dX12_spreads_141 rfl (tgt := 145) ?_
                            obtain ⟨σ35, qσ35, h⟩ := bnd h
                            refine g_zast C dX12_spreads_145 rfl rfl qσ35 ix27 (Or.inr rfl) ?_
                            refine g_iinc (L1 := [some (rv w 170), some (iv a1), some (iv a2), some (iv a3), some (iv x14), some (iv x18), some (iv (wr (x23 + 1))), none, none]) C dX12_spreads_146 rfl rfl (Nat.le_of_ble_eq_true rfl) rfl ?_
                            refine g_goto C dX12_spreads_149 rfl (tgt := 74) ?_
                            obtain rfl := Option.some.inj h
                            exact ih22 _ _ (iwr _) (lpL hk22)
                          refine g_icmp_eq C dX12_spreads_123 (iand _ _) (by decide) rfl (tgt := 140) (fun c31 => ?_) (fun c31 => ?_)
                          · have h := ifT c31 h
                            refine g_mask [true, true, true, true, true, true, true, false, true] ?_
                            exact hJ140_36  h
                          · have h := ifF c31 h
                            refine g_aload_n C dX12_spreads_126 rfl ?_
                            refine g_iload C dX12_spreads_127 rfl ?_
                            refine g_iload C dX12_spreads_129 rfl ?_
                            refine g_iload C dX12_spreads_131 rfl ?_
                            refine g_iload_n C dX12_spreads_133 rfl ?_
                            obtain ⟨x32, qx32, h⟩ := bnd h
                            refine g_callV1 (As := [iv x18, iv x14, iv x23, iv a2]) C dX12_spreads_134 mi_X12_carries ml_12_446 (ct_X12_carries ix18 ix14 ix23 ia2 qx32) rfl rfl ⟨rfl, rfl⟩ ⟨Nat.le_of_ble_eq_true rfl, Nat.le_of_ble_eq_true rfl⟩ ⟨Nat.zero_le _, Nat.zero_le _⟩ rfl (Nat.le_of_ble_eq_true rfl) (fun ix32 => ?_)
                            refine g_if_eq C dX12_spreads_137 (zI ix32) rfl (tgt := 144) (fun c33 => ?_) (fun c33 => ?_)
                            · have h := ifT c33 h
                              refine g_iconst C dX12_spreads_144 ?_
                              obtain ⟨σ34, qσ34, h⟩ := bnd h
                              refine g_zast C dX12_spreads_145 rfl rfl qσ34 ix27 (Or.inl rfl) ?_
                              refine g_iinc (L1 := [some (rv w 170), some (iv a1), some (iv a2), some (iv a3), some (iv x14), some (iv x18), some (iv (wr (x23 + 1))), some (iv x27), none]) C dX12_spreads_146 rfl rfl (Nat.le_of_ble_eq_true rfl) rfl ?_
                              refine g_goto C dX12_spreads_149 rfl (tgt := 74) ?_
                              refine g_mask [true, true, true, true, true, true, true, false, true] ?_
                              obtain rfl := Option.some.inj h
                              exact ih22 _ _ (iwr _) (lpL hk22)
                            · have h := ifF c33 h
                              refine g_mask [true, true, true, true, true, true, true, false, true] ?_
                              exact hJ140_36  h
                  exact hL22 FU _ _ (by decide) hb22
            exact hL17 FU _ _ (by decide) hb17
      exact hL13 FU _ _ ia2 hb13
    have hL7 : ∀ (n : Nat) (x8 : Int) (σ9 : St) , InI x8 → lpN (fun a => m_X12_spreads_L28 a.1 a.2) n (x8, σ9) = some b7 → GM w p l e rm_X12_spreads s m args below meth c none True σ' 9 28 [some (rv w 170), some (iv a1), some (iv a2), some (iv a3), some (iv x8), none, none, none, none] [] σ9 := by
      intro n
      induction n with
      | zero => intro x8 σ9 ix8 q; cases q
      | succ n ih7 =>
        intro x8 σ9 ix8 q
        obtain ⟨o7, h, hk7⟩ := lp_step q
        replace h : m_X12_spreads_L28 x8 σ9 = some o7 := h
        unfold m_X12_spreads_L28 at h
        refine g_iload C dX12_spreads_28 rfl ?_
        refine g_bipush C dX12_spreads_30 rfl ?_
        refine g_icmp_ge C dX12_spreads_32 ix8 (by decide) rfl (tgt := 49) (fun c10 => ?_) (fun c10 => ?_)
        · have h := ifT c10 h
          refine g_mask [true, true, true, true, false, true, true, true, true] ?_
          obtain rfl := Option.some.inj h
          exact hX7 σ9 (lpR hk7).symm
        · have h := ifF c10 h
          refine g_aload_n C dX12_spreads_35 rfl ?_
          refine g_getR (j := 81) C dX12_spreads_36 rfl (Nat.le_of_ble_eq_true rfl) (Nat.le_of_ble_eq_true rfl) fl_12_194 rfl rfl (r := 227) rfl ?_
          refine g_iload C dX12_spreads_39 rfl ?_
          refine g_iconst C dX12_spreads_41 ?_
          obtain ⟨σ11, qσ11, h⟩ := bnd h
          refine g_zast C dX12_spreads_42 rfl rfl qσ11 ix8 (Or.inl rfl) ?_
          refine g_iinc (L1 := [some (rv w 170), some (iv a1), some (iv a2), some (iv a3), some (iv (wr (x8 + 1))), none, none, none, none]) C dX12_spreads_43 rfl rfl (Nat.le_of_ble_eq_true rfl) rfl ?_
          refine g_goto C dX12_spreads_46 rfl (tgt := 28) ?_
          obtain rfl := Option.some.inj h
          exact ih7 _ _ (iwr _) (lpL hk7)
    exact hL7 FU _ _ (by decide) hb7
  have hL1 : ∀ (n : Nat) (x2 : Int) (σ3 : St) , InI x2 → lpN (fun a => m_X12_spreads_L3 a.1 a.2) n (x2, σ3) = some b1 → GM w p l e rm_X12_spreads s m args below meth c none True σ' 9 3 [some (rv w 170), some (iv a1), some (iv a2), some (iv a3), some (iv x2), none, none, none, none] [] σ3 := by
    intro n
    induction n with
    | zero => intro x2 σ3 ix2 q; cases q
    | succ n ih1 =>
      intro x2 σ3 ix2 q
      obtain ⟨o1, h, hk1⟩ := lp_step q
      replace h : m_X12_spreads_L3 x2 σ3 = some o1 := h
      unfold m_X12_spreads_L3 at h
      refine g_iload C dX12_spreads_3 rfl ?_
      refine g_sipush C dX12_spreads_5 rfl ?_
      refine g_icmp_ge C dX12_spreads_8 ix2 (by decide) rfl (tgt := 25) (fun c4 => ?_) (fun c4 => ?_)
      · have h := ifT c4 h
        refine g_mask [true, true, true, true, false, true, true, true, true] ?_
        obtain rfl := Option.some.inj h
        exact hX1 σ3 (lpR hk1).symm
      · have h := ifF c4 h
        refine g_aload_n C dX12_spreads_11 rfl ?_
        refine g_getR (j := 80) C dX12_spreads_12 rfl (Nat.le_of_ble_eq_true rfl) (Nat.le_of_ble_eq_true rfl) fl_12_191 rfl rfl (r := 226) rfl ?_
        refine g_iload C dX12_spreads_15 rfl ?_
        refine g_iconst C dX12_spreads_17 ?_
        obtain ⟨σ5, qσ5, h⟩ := bnd h
        refine g_zast C dX12_spreads_18 rfl rfl qσ5 ix2 (Or.inl rfl) ?_
        refine g_iinc (L1 := [some (rv w 170), some (iv a1), some (iv a2), some (iv a3), some (iv (wr (x2 + 1))), none, none, none, none]) C dX12_spreads_19 rfl rfl (Nat.le_of_ble_eq_true rfl) rfl ?_
        refine g_goto C dX12_spreads_22 rfl (tgt := 3) ?_
        obtain rfl := Option.some.inj h
        exact ih1 _ _ (iwr _) (lpL hk1)
  exact hL1 FU _ _ (by decide) hb1
theorem dX12_first_0 : decode cX12_first 0 = .ok (.iload_n 2, 1) := by decide +kernel
theorem dX12_first_1 : decode cX12_first 1 = .ok (.istore_n 3, 1) := by decide +kernel
theorem dX12_first_2 : decode cX12_first 2 = .ok (.iload_n 3, 1) := by decide +kernel
theorem dX12_first_3 : decode cX12_first 3 = .ok (.bipush 96, 2) := by decide +kernel
theorem dX12_first_5 : decode cX12_first 5 = .ok (.if_icmp .ge 50, 3) := by decide +kernel
theorem dX12_first_8 : decode cX12_first 8 = .ok (.iconst 0, 1) := by decide +kernel
theorem dX12_first_9 : decode cX12_first 9 = .ok (.istore 4, 2) := by decide +kernel
theorem dX12_first_11 : decode cX12_first 11 = .ok (.iload 4, 2) := by decide +kernel
theorem dX12_first_13 : decode cX12_first 13 = .ok (.aload_n 0, 1) := by decide +kernel
theorem dX12_first_14 : decode cX12_first 14 = .ok (.getfield 330, 3) := by decide +kernel
theorem dX12_first_17 : decode cX12_first 17 = .ok (.if_icmp .ge 32, 3) := by decide +kernel
theorem dX12_first_20 : decode cX12_first 20 = .ok (.aload_n 0, 1) := by decide +kernel
theorem dX12_first_21 : decode cX12_first 21 = .ok (.getfield 191, 3) := by decide +kernel
theorem dX12_first_24 : decode cX12_first 24 = .ok (.sipush 960, 3) := by decide +kernel
theorem dX12_first_27 : decode cX12_first 27 = .ok (.iload_n 1, 1) := by decide +kernel
theorem dX12_first_28 : decode cX12_first 28 = .ok (.imul, 1) := by decide +kernel
theorem dX12_first_29 : decode cX12_first 29 = .ok (.bipush 10, 2) := by decide +kernel
theorem dX12_first_31 : decode cX12_first 31 = .ok (.iload_n 3, 1) := by decide +kernel
theorem dX12_first_32 : decode cX12_first 32 = .ok (.imul, 1) := by decide +kernel
theorem dX12_first_33 : decode cX12_first 33 = .ok (.iadd, 1) := by decide +kernel
theorem dX12_first_34 : decode cX12_first 34 = .ok (.iload 4, 2) := by decide +kernel
theorem dX12_first_36 : decode cX12_first 36 = .ok (.iadd, 1) := by decide +kernel
theorem dX12_first_37 : decode cX12_first 37 = .ok (.baload, 1) := by decide +kernel
theorem dX12_first_38 : decode cX12_first 38 = .ok (.ifCond .eq 5, 3) := by decide +kernel
theorem dX12_first_41 : decode cX12_first 41 = .ok (.iload_n 3, 1) := by decide +kernel
theorem dX12_first_42 : decode cX12_first 42 = .ok (.ireturn, 1) := by decide +kernel
theorem dX12_first_43 : decode cX12_first 43 = .ok (.iinc 4 1, 3) := by decide +kernel
theorem dX12_first_46 : decode cX12_first 46 = .ok (.goto (-35), 3) := by decide +kernel
theorem dX12_first_49 : decode cX12_first 49 = .ok (.iinc 3 1, 3) := by decide +kernel
theorem dX12_first_52 : decode cX12_first 52 = .ok (.goto (-50), 3) := by decide +kernel
theorem dX12_first_55 : decode cX12_first 55 = .ok (.iconst (-1), 1) := by decide +kernel
theorem dX12_first_56 : decode cX12_first 56 = .ok (.ireturn, 1) := by decide +kernel
abbrev rm_X12_first : Room := { frames := 0, cells := 0, slots := 0, locals := 0 }
set_option maxRecDepth 100000 in
set_option maxHeartbeats 4000000 in
theorem ct_X12_first {w : Wd} {l : Launch} {a1 : Int} {a2 : Int} {σ : St} {y : Int} (ia1 : InI a1) (ia2 : InI a2) (h : m_X12_first a1 a2 σ = some y) : Ct w l yX12_first (Cond.code yX12_first cX12_first 5 (some .int) :: TB) rm_X12_first [rv w 170, iv a1, iv a2] σ (some (iv y)) (InI y) σ := by
  refine Ct.of2 [some (rv w 170), some (iv a1), some (iv a2), none, none] 2 rfl pn_RX12 (Nat.le_of_ble_eq_true rfl) ?_
  intro p e s m args below meth c C hr hlk
  unfold m_X12_first at h
  refine g_iload_n C dX12_first_0 rfl ?_
  refine g_istore_n (L1 := [some (rv w 170), some (iv a1), some (iv a2), some (iv a2), none]) C dX12_first_1 rfl (Nat.le_of_ble_eq_true rfl) rfl ?_
  refine g_mask [true, true, false, true, true] ?_
  obtain ⟨b1, hb1, hF1⟩ := bnd h
  have hX1 : Sum.inl () = b1 → GM w p l e rm_X12_first s m args below meth c (some (iv y)) (InI y) σ 5 55 [none, none, none, none, none] [] σ := by
    intro q
    subst q
    have h := hF1
    refine g_iconst C dX12_first_55 ?_
    exact g_iretU C dX12_first_56 hr hlk h (by decide)
  have hL1 : ∀ (n : Nat) (x2 : Int) , InI x2 → lpN (fun a => m_X12_first_L2 σ a1 a) n x2 = some b1 → GM w p l e rm_X12_first s m args below meth c (some (iv y)) (InI y) σ 5 2 [some (rv w 170), some (iv a1), none, some (iv x2), none] [] σ := by
    intro n
    induction n with
    | zero => intro x2 ix2 q; cases q
    | succ n ih1 =>
      intro x2 ix2 q
      obtain ⟨o1, h, hk1⟩ := lp_step q
      replace h : m_X12_first_L2 σ a1 x2 = some o1 := h
      unfold m_X12_first_L2 at h
      refine g_iload_n C dX12_first_2 rfl ?_
      refine g_bipush C dX12_first_3 rfl ?_
      refine g_icmp_ge C dX12_first_5 ix2 (by decide) rfl (tgt := 55) (fun c3 => ?_) (fun c3 => ?_)
      · have h := ifT c3 h
        refine g_mask [false, false, true, false, true] ?_
        obtain rfl := Option.some.inj h
        exact hX1  (lpR hk1).symm
      · have h := ifF c3 h
        refine g_iconst C dX12_first_8 ?_
        refine g_istore (L1 := [some (rv w 170), some (iv a1), none, some (iv x2), some (iv 0)]) C dX12_first_9 rfl (Nat.le_of_ble_eq_true rfl) rfl ?_
        obtain ⟨b4, hb4, hF4⟩ := bnd h
        have hX4 : Sum.inl () = b4 → GM w p l e rm_X12_first s m args below meth c (some (iv y)) (InI y) σ 5 49 [some (rv w 170), some (iv a1), none, some (iv x2), none] [] σ := by
          intro q
          subst q
          have h := hF4
          refine g_iinc (L1 := [some (rv w 170), some (iv a1), none, some (iv (wr (x2 + 1))), none]) C dX12_first_49 rfl rfl (Nat.le_of_ble_eq_true rfl) rfl ?_
          refine g_goto C dX12_first_52 rfl (tgt := 2) ?_
          obtain rfl := Option.some.inj h
          exact ih1 _ (iwr _) (lpL hk1)
        have hL4 : ∀ (n : Nat) (x5 : Int) , InI x5 → lpN (fun a => m_X12_first_L11 σ a1 x2 a) n x5 = some b4 → GM w p l e rm_X12_first s m args below meth c (some (iv y)) (InI y) σ 5 11 [some (rv w 170), some (iv a1), none, some (iv x2), some (iv x5)] [] σ := by
          intro n
          induction n with
          | zero => intro x5 ix5 q; cases q
          | succ n ih4 =>
            intro x5 ix5 q
            obtain ⟨o4, h, hk4⟩ := lp_step q
            replace h : m_X12_first_L11 σ a1 x2 x5 = some o4 := h
            unfold m_X12_first_L11 at h
            refine g_iload C dX12_first_11 rfl ?_
            refine g_aload_n C dX12_first_13 rfl ?_
            refine g_getI (j := 30) C dX12_first_14 rfl (Nat.le_of_ble_eq_true rfl) (Nat.le_of_ble_eq_true rfl) fl_12_330 rfl rfl (fun i6 => ?_)
            refine g_icmp_ge C dX12_first_17 ix5 i6 rfl (tgt := 49) (fun c7 => ?_) (fun c7 => ?_)
            · have h := ifT c7 h
              refine g_mask [true, true, true, true, false] ?_
              obtain rfl := Option.some.inj h
              exact hX4  (lpR hk4).symm
            · have h := ifF c7 h
              refine g_aload_n C dX12_first_20 rfl ?_
              refine g_getR (j := 80) C dX12_first_21 rfl (Nat.le_of_ble_eq_true rfl) (Nat.le_of_ble_eq_true rfl) fl_12_191 rfl rfl (r := 226) rfl ?_
              refine g_sipush C dX12_first_24 rfl ?_
              refine g_iload_n C dX12_first_27 rfl ?_
              refine g_imul C dX12_first_28 ?_
              refine g_bipush C dX12_first_29 rfl ?_
              refine g_iload_n C dX12_first_31 rfl ?_
              refine g_imul C dX12_first_32 ?_
              refine g_iadd C dX12_first_33 ?_
              refine g_iload C dX12_first_34 rfl ?_
              refine g_iadd C dX12_first_36 ?_
              obtain ⟨x8, qx8, h⟩ := bnd h
              refine g_zald C dX12_first_37 rfl rfl qx8 (iwr _) (fun ix8 => ?_)
              refine g_if_eq C dX12_first_38 (zI ix8) rfl (tgt := 43) (fun c9 => ?_) (fun c9 => ?_)
              · have h := ifT c9 h
                refine g_iinc (L1 := [some (rv w 170), some (iv a1), none, some (iv x2), some (iv (wr (x5 + 1)))]) C dX12_first_43 rfl rfl (Nat.le_of_ble_eq_true rfl) rfl ?_
                refine g_goto C dX12_first_46 rfl (tgt := 11) ?_
                obtain rfl := Option.some.inj h
                exact ih4 _ (iwr _) (lpL hk4)
              · have h := ifF c9 h
                refine g_iload_n C dX12_first_41 rfl ?_
                obtain rfl := Option.some.inj h
                have e4 := (lpR hk4).symm
                subst e4
                have h := hF4
                obtain rfl := Option.some.inj h
                have e1 := (lpR hk1).symm
                subst e1
                have h := hF1
                exact g_iretU C dX12_first_42 hr hlk h ix2
        exact hL4 FU _ (by decide) hb4
  exact hL1 FU _ ia2 hb1
theorem dX12_isSet_0 : decode cX12_isSet 0 = .ok (.iload_n 1, 1) := by decide +kernel
theorem dX12_isSet_1 : decode cX12_isSet 1 = .ok (.ifCond .lt 17, 3) := by decide +kernel
theorem dX12_isSet_4 : decode cX12_isSet 4 = .ok (.iload_n 1, 1) := by decide +kernel
theorem dX12_isSet_5 : decode cX12_isSet 5 = .ok (.iconst 1, 1) := by decide +kernel
theorem dX12_isSet_6 : decode cX12_isSet 6 = .ok (.aload_n 0, 1) := by decide +kernel
theorem dX12_isSet_7 : decode cX12_isSet 7 = .ok (.getfield 333, 3) := by decide +kernel
theorem dX12_isSet_10 : decode cX12_isSet 10 = .ok (.ishl, 1) := by decide +kernel
theorem dX12_isSet_11 : decode cX12_isSet 11 = .ok (.if_icmp .ge 7, 3) := by decide +kernel
theorem dX12_isSet_14 : decode cX12_isSet 14 = .ok (.iconst 1, 1) := by decide +kernel
theorem dX12_isSet_15 : decode cX12_isSet 15 = .ok (.goto 4, 3) := by decide +kernel
theorem dX12_isSet_18 : decode cX12_isSet 18 = .ok (.iconst 0, 1) := by decide +kernel
theorem dX12_isSet_19 : decode cX12_isSet 19 = .ok (.ireturn, 1) := by decide +kernel
abbrev rm_X12_isSet : Room := { frames := 0, cells := 0, slots := 0, locals := 0 }
set_option maxRecDepth 100000 in
set_option maxHeartbeats 4000000 in
theorem ct_X12_isSet {w : Wd} {l : Launch} {a1 : Int} {σ : St} {y : Int} (ia1 : InI a1) (h : m_X12_isSet a1 σ = some y) : Ct w l yX12_isSet (Cond.code yX12_isSet cX12_isSet 2 (some .boolean) :: TB) rm_X12_isSet [rv w 170, iv a1] σ (some (iv y)) (InZ y) σ := by
  refine Ct.of2 [some (rv w 170), some (iv a1)] 0 rfl pn_RX12 (Nat.le_of_ble_eq_true rfl) ?_
  intro p e s m args below meth c C hr hlk
  unfold m_X12_isSet at h
  refine g_iload_n C dX12_isSet_0 rfl ?_
  refine g_if_lt C dX12_isSet_1 ia1 rfl (tgt := 18) (fun c1 => ?_) (fun c1 => ?_)
  · have h := ifT c1 h
    refine g_iconst C dX12_isSet_18 ?_
    exact g_zretU C dX12_isSet_19 hr hlk h (Or.inl rfl)
  · have h := ifF c1 h
    refine g_iload_n C dX12_isSet_4 rfl ?_
    refine g_iconst C dX12_isSet_5 ?_
    refine g_aload_n C dX12_isSet_6 rfl ?_
    refine g_getI (j := 35) C dX12_isSet_7 rfl (Nat.le_of_ble_eq_true rfl) (Nat.le_of_ble_eq_true rfl) fl_12_333 rfl rfl (fun i2 => ?_)
    refine g_ishl C dX12_isSet_10 ?_
    refine g_icmp_ge C dX12_isSet_11 ia1 (ishl _ _) rfl (tgt := 18) (fun c3 => ?_) (fun c3 => ?_)
    · have h := ifT c3 h
      refine g_iconst C dX12_isSet_18 ?_
      exact g_zretU C dX12_isSet_19 hr hlk h (Or.inl rfl)
    · have h := ifF c3 h
      refine g_iconst C dX12_isSet_14 ?_
      refine g_goto C dX12_isSet_15 rfl (tgt := 19) ?_
      exact g_zretU C dX12_isSet_19 hr hlk h (Or.inr rfl)
theorem dX12_know_0 : decode cX12_know 0 = .ok (.iconst 0, 1) := by decide +kernel
theorem dX12_know_1 : decode cX12_know 1 = .ok (.istore_n 3, 1) := by decide +kernel
theorem dX12_know_2 : decode cX12_know 2 = .ok (.iconst 0, 1) := by decide +kernel
theorem dX12_know_3 : decode cX12_know 3 = .ok (.istore 4, 2) := by decide +kernel
theorem dX12_know_5 : decode cX12_know 5 = .ok (.iload 4, 2) := by decide +kernel
theorem dX12_know_7 : decode cX12_know 7 = .ok (.aload_n 0, 1) := by decide +kernel
theorem dX12_know_8 : decode cX12_know 8 = .ok (.getfield 333, 3) := by decide +kernel
theorem dX12_know_11 : decode cX12_know 11 = .ok (.if_icmp .ge 37, 3) := by decide +kernel
theorem dX12_know_14 : decode cX12_know 14 = .ok (.aload_n 0, 1) := by decide +kernel
theorem dX12_know_15 : decode cX12_know 15 = .ok (.iload 4, 2) := by decide +kernel
theorem dX12_know_17 : decode cX12_know 17 = .ok (.iload_n 1, 1) := by decide +kernel
theorem dX12_know_18 : decode cX12_know 18 = .ok (.invokevirtual 450, 3) := by decide +kernel
theorem dX12_know_21 : decode cX12_know 21 = .ok (.istore 5, 2) := by decide +kernel
theorem dX12_know_23 : decode cX12_know 23 = .ok (.iload 5, 2) := by decide +kernel
theorem dX12_know_25 : decode cX12_know 25 = .ok (.iconst (-1), 1) := by decide +kernel
theorem dX12_know_26 : decode cX12_know 26 = .ok (.if_icmp .eq 16, 3) := by decide +kernel
theorem dX12_know_29 : decode cX12_know 29 = .ok (.iload 5, 2) := by decide +kernel
theorem dX12_know_31 : decode cX12_know 31 = .ok (.iload_n 2, 1) := by decide +kernel
theorem dX12_know_32 : decode cX12_know 32 = .ok (.if_icmp .gt 10, 3) := by decide +kernel
theorem dX12_know_35 : decode cX12_know 35 = .ok (.iload_n 3, 1) := by decide +kernel
theorem dX12_know_36 : decode cX12_know 36 = .ok (.iconst 1, 1) := by decide +kernel
theorem dX12_know_37 : decode cX12_know 37 = .ok (.iload 4, 2) := by decide +kernel
theorem dX12_know_39 : decode cX12_know 39 = .ok (.ishl, 1) := by decide +kernel
theorem dX12_know_40 : decode cX12_know 40 = .ok (.ior, 1) := by decide +kernel
theorem dX12_know_41 : decode cX12_know 41 = .ok (.istore_n 3, 1) := by decide +kernel
theorem dX12_know_42 : decode cX12_know 42 = .ok (.iinc 4 1, 3) := by decide +kernel
theorem dX12_know_45 : decode cX12_know 45 = .ok (.goto (-40), 3) := by decide +kernel
theorem dX12_know_48 : decode cX12_know 48 = .ok (.iload_n 3, 1) := by decide +kernel
theorem dX12_know_49 : decode cX12_know 49 = .ok (.ireturn, 1) := by decide +kernel
abbrev rm_X12_know : Room := { frames := 1, cells := 0, slots := 0, locals := 24 }
set_option maxRecDepth 100000 in
set_option maxHeartbeats 4000000 in
theorem ct_X12_know {w : Wd} {l : Launch} {a1 : Int} {a2 : Int} {σ : St} {y : Int} (ia1 : InI a1) (ia2 : InI a2) (h : m_X12_know a1 a2 σ = some y) : Ct w l yX12_know (Cond.code yX12_know cX12_know 6 (some .int) :: TB) rm_X12_know [rv w 170, iv a1, iv a2] σ (some (iv y)) (InI y) σ := by
  refine Ct.of2 [some (rv w 170), some (iv a1), some (iv a2), none, none, none] 3 rfl pn_RX12 (Nat.le_of_ble_eq_true rfl) ?_
  intro p e s m args below meth c C hr hlk
  unfold m_X12_know at h
  refine g_iconst C dX12_know_0 ?_
  refine g_istore_n (L1 := [some (rv w 170), some (iv a1), some (iv a2), some (iv 0), none, none]) C dX12_know_1 rfl (Nat.le_of_ble_eq_true rfl) rfl ?_
  refine g_iconst C dX12_know_2 ?_
  refine g_istore (L1 := [some (rv w 170), some (iv a1), some (iv a2), some (iv 0), some (iv 0), none]) C dX12_know_3 rfl (Nat.le_of_ble_eq_true rfl) rfl ?_
  obtain ⟨b1, hb1, hF1⟩ := bnd h
  have hX1 : ∀ (x10 : Int) , InI x10 → x10 = b1 → GM w p l e rm_X12_know s m args below meth c (some (iv y)) (InI y) σ 6 48 [none, none, none, some (iv x10), none, none] [] σ := by
    intro x10 ix10 q
    subst q
    have h := hF1
    refine g_iload_n C dX12_know_48 rfl ?_
    exact g_iretU C dX12_know_49 hr hlk h ix10
  have hL1 : ∀ (n : Nat) (x2 : Int) (x3 : Int) , InI x2 → InI x3 → lpN (fun a => m_X12_know_L5 σ a1 a2 a.1 a.2) n (x2, x3) = some b1 → GM w p l e rm_X12_know s m args below meth c (some (iv y)) (InI y) σ 6 5 [some (rv w 170), some (iv a1), some (iv a2), some (iv x2), some (iv x3), none] [] σ := by
    intro n
    induction n with
    | zero => intro x2 x3 ix2 ix3 q; cases q
    | succ n ih1 =>
      intro x2 x3 ix2 ix3 q
      obtain ⟨o1, h, hk1⟩ := lp_step q
      replace h : m_X12_know_L5 σ a1 a2 x2 x3 = some o1 := h
      unfold m_X12_know_L5 at h
      refine g_iload C dX12_know_5 rfl ?_
      refine g_aload_n C dX12_know_7 rfl ?_
      refine g_getI (j := 35) C dX12_know_8 rfl (Nat.le_of_ble_eq_true rfl) (Nat.le_of_ble_eq_true rfl) fl_12_333 rfl rfl (fun i4 => ?_)
      refine g_icmp_ge C dX12_know_11 ix3 i4 rfl (tgt := 48) (fun c5 => ?_) (fun c5 => ?_)
      · have h := ifT c5 h
        refine g_mask [false, false, false, true, false, true] ?_
        obtain rfl := Option.some.inj h
        exact hX1 x2 ix2 (lpR hk1).symm
      · have h := ifF c5 h
        refine g_aload_n C dX12_know_14 rfl ?_
        refine g_iload C dX12_know_15 rfl ?_
        refine g_iload_n C dX12_know_17 rfl ?_
        obtain ⟨x6, qx6, h⟩ := bnd h
        refine g_callV1 (As := [iv x3, iv a1]) C dX12_know_18 mi_X12_first ml_12_450 (ct_X12_first ix3 ia1 qx6) rfl rfl ⟨rfl, rfl⟩ ⟨Nat.le_of_ble_eq_true rfl, Nat.le_of_ble_eq_true rfl⟩ ⟨Nat.zero_le _, Nat.zero_le _⟩ rfl (Nat.le_of_ble_eq_true rfl) (fun ix6 => ?_)
        refine g_istore (L1 := [some (rv w 170), some (iv a1), some (iv a2), some (iv x2), some (iv x3), some (iv x6)]) C dX12_know_21 rfl (Nat.le_of_ble_eq_true rfl) rfl ?_
        refine g_iload C dX12_know_23 rfl ?_
        refine g_iconst C dX12_know_25 ?_
        refine g_icmp_eq C dX12_know_26 ix6 (by decide) rfl (tgt := 42) (fun c7 => ?_) (fun c7 => ?_)
        · have h := ifT c7 h
          refine g_iinc (L1 := [some (rv w 170), some (iv a1), some (iv a2), some (iv x2), some (iv (wr (x3 + 1))), some (iv x6)]) C dX12_know_42 rfl rfl (Nat.le_of_ble_eq_true rfl) rfl ?_
          refine g_goto C dX12_know_45 rfl (tgt := 5) ?_
          refine g_mask [true, true, true, true, true, false] ?_
          obtain rfl := Option.some.inj h
          exact ih1 _ _ ix2 (iwr _) (lpL hk1)
        · have h := ifF c7 h
          refine g_iload C dX12_know_29 rfl ?_
          refine g_iload_n C dX12_know_31 rfl ?_
          refine g_icmp_gt C dX12_know_32 ix6 ia2 rfl (tgt := 42) (fun c8 => ?_) (fun c8 => ?_)
          · have h := ifT c8 h
            refine g_iinc (L1 := [some (rv w 170), some (iv a1), some (iv a2), some (iv x2), some (iv (wr (x3 + 1))), some (iv x6)]) C dX12_know_42 rfl rfl (Nat.le_of_ble_eq_true rfl) rfl ?_
            refine g_goto C dX12_know_45 rfl (tgt := 5) ?_
            refine g_mask [true, true, true, true, true, false] ?_
            obtain rfl := Option.some.inj h
            exact ih1 _ _ ix2 (iwr _) (lpL hk1)
          · have h := ifF c8 h
            refine g_iload_n C dX12_know_35 rfl ?_
            refine g_iconst C dX12_know_36 ?_
            refine g_iload C dX12_know_37 rfl ?_
            refine g_ishl C dX12_know_39 ?_
            refine g_ior C dX12_know_40 ?_
            obtain ⟨x9, qx9, h⟩ := bnd h
            have qx9 := Option.some.inj qx9
            have ix9 : InI x9 := by rw [← qx9]; exact (ior _ _)
            refine g_E qx9 ?_
            refine g_istore_n (L1 := [some (rv w 170), some (iv a1), some (iv a2), some (iv x9), some (iv x3), some (iv x6)]) C dX12_know_41 rfl (Nat.le_of_ble_eq_true rfl) rfl ?_
            refine g_iinc (L1 := [some (rv w 170), some (iv a1), some (iv a2), some (iv x9), some (iv (wr (x3 + 1))), some (iv x6)]) C dX12_know_42 rfl rfl (Nat.le_of_ble_eq_true rfl) rfl ?_
            refine g_goto C dX12_know_45 rfl (tgt := 5) ?_
            refine g_mask [true, true, true, true, true, false] ?_
            obtain rfl := Option.some.inj h
            exact ih1 _ _ ix9 (iwr _) (lpL hk1)
  exact hL1 FU _ _ (by decide) (by decide) hb1
theorem dX12_could_0 : decode cX12_could 0 = .ok (.aload_n 0, 1) := by decide +kernel
theorem dX12_could_1 : decode cX12_could 1 = .ok (.iconst 0, 1) := by decide +kernel
theorem dX12_could_2 : decode cX12_could 2 = .ok (.putfield 1, 3) := by decide +kernel
theorem dX12_could_5 : decode cX12_could 5 = .ok (.aload_n 0, 1) := by decide +kernel
theorem dX12_could_6 : decode cX12_could 6 = .ok (.iload_n 1, 1) := by decide +kernel
theorem dX12_could_7 : decode cX12_could 7 = .ok (.invokevirtual 453, 3) := by decide +kernel
theorem dX12_could_10 : decode cX12_could 10 = .ok (.ifCond .eq 31, 3) := by decide +kernel
theorem dX12_could_13 : decode cX12_could 13 = .ok (.iload_n 2, 1) := by decide +kernel
theorem dX12_could_14 : decode cX12_could 14 = .ok (.invokestatic 359, 3) := by decide +kernel
theorem dX12_could_17 : decode cX12_could 17 = .ok (.ifCond .eq 24, 3) := by decide +kernel
theorem dX12_could_20 : decode cX12_could 20 = .ok (.iload_n 3, 1) := by decide +kernel
theorem dX12_could_21 : decode cX12_could 21 = .ok (.invokestatic 359, 3) := by decide +kernel
theorem dX12_could_24 : decode cX12_could 24 = .ok (.ifCond .eq 17, 3) := by decide +kernel
theorem dX12_could_27 : decode cX12_could 27 = .ok (.iload_n 3, 1) := by decide +kernel
theorem dX12_could_28 : decode cX12_could 28 = .ok (.iload_n 2, 1) := by decide +kernel
theorem dX12_could_29 : decode cX12_could 29 = .ok (.if_icmp .lt 12, 3) := by decide +kernel
theorem dX12_could_32 : decode cX12_could 32 = .ok (.aload_n 0, 1) := by decide +kernel
theorem dX12_could_33 : decode cX12_could 33 = .ok (.iload 5, 2) := by decide +kernel
theorem dX12_could_35 : decode cX12_could 35 = .ok (.invokevirtual 362, 3) := by decide +kernel
theorem dX12_could_38 : decode cX12_could 38 = .ok (.ifCond .ne 5, 3) := by decide +kernel
theorem dX12_could_41 : decode cX12_could 41 = .ok (.iconst (-1), 1) := by decide +kernel
theorem dX12_could_42 : decode cX12_could 42 = .ok (.ireturn, 1) := by decide +kernel
theorem dX12_could_43 : decode cX12_could 43 = .ok (.aload_n 0, 1) := by decide +kernel
theorem dX12_could_44 : decode cX12_could 44 = .ok (.iload 5, 2) := by decide +kernel
theorem dX12_could_46 : decode cX12_could 46 = .ok (.invokevirtual 443, 3) := by decide +kernel
theorem dX12_could_49 : decode cX12_could 49 = .ok (.aload_n 0, 1) := by decide +kernel
theorem dX12_could_50 : decode cX12_could 50 = .ok (.iload_n 1, 1) := by decide +kernel
theorem dX12_could_51 : decode cX12_could 51 = .ok (.iload_n 2, 1) := by decide +kernel
theorem dX12_could_52 : decode cX12_could 52 = .ok (.iload 4, 2) := by decide +kernel
theorem dX12_could_54 : decode cX12_could 54 = .ok (.invokevirtual 456, 3) := by decide +kernel
theorem dX12_could_57 : decode cX12_could 57 = .ok (.aload_n 0, 1) := by decide +kernel
theorem dX12_could_58 : decode cX12_could 58 = .ok (.iload_n 2, 1) := by decide +kernel
theorem dX12_could_59 : decode cX12_could 59 = .ok (.iload_n 3, 1) := by decide +kernel
theorem dX12_could_60 : decode cX12_could 60 = .ok (.invokevirtual 460, 3) := by decide +kernel
theorem dX12_could_63 : decode cX12_could 63 = .ok (.ireturn, 1) := by decide +kernel
abbrev rm_X12_could : Room := { frames := 3, cells := 0, slots := 0, locals := 79 }
set_option maxRecDepth 100000 in
set_option maxHeartbeats 4000000 in
theorem ct_X12_could {w : Wd} {l : Launch} {a1 : Int} {a2 : Int} {a3 : Int} {a4 : Int} {a5 : Int} {σ : St} {y : Int} {σ' : St} (ia1 : InI a1) (ia2 : InI a2) (ia3 : InI a3) (ia4 : InZ a4) (ia5 : InI a5) (h : m_X12_could a1 a2 a3 a4 a5 σ = some (y, σ')) : Ct w l yX12_could (Cond.code yX12_could cX12_could 6 (some .int) :: TB) rm_X12_could [rv w 170, iv a1, iv a2, iv a3, iv a4, iv a5] σ (some (iv y)) (InI y) σ' := by
  refine Ct.of2 [some (rv w 170), some (iv a1), some (iv a2), some (iv a3), some (iv a4), some (iv a5)] 0 rfl pn_RX12 (Nat.le_of_ble_eq_true rfl) ?_
  intro p e s m args below meth c C hr hlk
  unfold m_X12_could at h
  refine g_aload_n C dX12_could_0 rfl ?_
  refine g_iconst C dX12_could_1 ?_
  obtain ⟨σ1, qσ1, h⟩ := bnd h
  refine g_putI (j := 0) C dX12_could_2 rfl (Nat.le_of_ble_eq_true rfl) (Nat.le_of_ble_eq_true rfl) fl_12_1 rfl rfl rfl rfl qσ1 (by decide) ?_
  refine g_aload_n C dX12_could_5 rfl ?_
  refine g_iload_n C dX12_could_6 rfl ?_
  obtain ⟨x2, qx2, h⟩ := bnd h
  refine g_callV1 (As := [iv a1]) C dX12_could_7 mi_X12_isSet ml_12_453 (ct_X12_isSet ia1 qx2) rfl rfl ⟨rfl, rfl⟩ ⟨Nat.le_of_ble_eq_true rfl, Nat.le_of_ble_eq_true rfl⟩ ⟨Nat.zero_le _, Nat.zero_le _⟩ rfl (Nat.le_of_ble_eq_true rfl) (fun ix2 => ?_)
  refine g_if_eq C dX12_could_10 (zI ix2) rfl (tgt := 41) (fun c3 => ?_) (fun c3 => ?_)
  · have h := ifT c3 h
    refine g_iconst C dX12_could_41 ?_
    exact g_iretP C dX12_could_42 hr hlk h (by decide)
  · have h := ifF c3 h
    refine g_iload_n C dX12_could_13 rfl ?_
    obtain ⟨x4, qx4, h⟩ := bnd h
    refine g_callS1 (As := [iv a2]) C dX12_could_14 mi_X12_isTick ml_12_359 (ct_X12_isTick ia2 qx4) rfl ⟨rfl, rfl⟩ ⟨Nat.le_of_ble_eq_true rfl, Nat.le_of_ble_eq_true rfl⟩ ⟨Nat.zero_le _, Nat.zero_le _⟩ rfl (Nat.le_of_ble_eq_true rfl) (fun ix4 => ?_)
    refine g_if_eq C dX12_could_17 (zI ix4) rfl (tgt := 41) (fun c5 => ?_) (fun c5 => ?_)
    · have h := ifT c5 h
      refine g_iconst C dX12_could_41 ?_
      exact g_iretP C dX12_could_42 hr hlk h (by decide)
    · have h := ifF c5 h
      refine g_iload_n C dX12_could_20 rfl ?_
      obtain ⟨x6, qx6, h⟩ := bnd h
      refine g_callS1 (As := [iv a3]) C dX12_could_21 mi_X12_isTick ml_12_359 (ct_X12_isTick ia3 qx6) rfl ⟨rfl, rfl⟩ ⟨Nat.le_of_ble_eq_true rfl, Nat.le_of_ble_eq_true rfl⟩ ⟨Nat.zero_le _, Nat.zero_le _⟩ rfl (Nat.le_of_ble_eq_true rfl) (fun ix6 => ?_)
      refine g_if_eq C dX12_could_24 (zI ix6) rfl (tgt := 41) (fun c7 => ?_) (fun c7 => ?_)
      · have h := ifT c7 h
        refine g_iconst C dX12_could_41 ?_
        exact g_iretP C dX12_could_42 hr hlk h (by decide)
      · have h := ifF c7 h
        refine g_iload_n C dX12_could_27 rfl ?_
        refine g_iload_n C dX12_could_28 rfl ?_
        refine g_icmp_lt C dX12_could_29 ia3 ia2 rfl (tgt := 41) (fun c8 => ?_) (fun c8 => ?_)
        · have h := ifT c8 h
          refine g_iconst C dX12_could_41 ?_
          exact g_iretP C dX12_could_42 hr hlk h (by decide)
        · have h := ifF c8 h
          refine g_aload_n C dX12_could_32 rfl ?_
          refine g_iload C dX12_could_33 rfl ?_
          obtain ⟨x9, qx9, h⟩ := bnd h
          refine g_callV1 (As := [iv a5]) C dX12_could_35 mi_X12_isKnown ml_12_362 (ct_X12_isKnown ia5 qx9) rfl rfl ⟨rfl, rfl⟩ ⟨Nat.le_of_ble_eq_true rfl, Nat.le_of_ble_eq_true rfl⟩ ⟨Nat.zero_le _, Nat.zero_le _⟩ rfl (Nat.le_of_ble_eq_true rfl) (fun ix9 => ?_)
          refine g_if_ne C dX12_could_38 (zI ix9) rfl (tgt := 43) (fun c10 => ?_) (fun c10 => ?_)
          · have h := ifF c10 h
            refine g_aload_n C dX12_could_43 rfl ?_
            refine g_iload C dX12_could_44 rfl ?_
            obtain ⟨σ11, qσ11, h⟩ := bnd h
            refine g_callV0 (As := [iv a5]) C dX12_could_46 mi_X12_goes ml_12_443 (ct_X12_goes ia5 qσ11) rfl rfl ⟨rfl, rfl⟩ ⟨Nat.le_of_ble_eq_true rfl, Nat.le_of_ble_eq_true rfl⟩ ⟨Nat.zero_le _, Nat.zero_le _⟩ rfl (Nat.le_of_ble_eq_true rfl) (fun _ => ?_)
            refine g_aload_n C dX12_could_49 rfl ?_
            refine g_iload_n C dX12_could_50 rfl ?_
            refine g_iload_n C dX12_could_51 rfl ?_
            refine g_iload C dX12_could_52 rfl ?_
            obtain ⟨σ12, qσ12, h⟩ := bnd h
            refine g_callV0 (As := [iv a1, iv a2, iv a4]) C dX12_could_54 mi_X12_spreads ml_12_456 (ct_X12_spreads ia1 ia2 ia4 qσ12) rfl rfl ⟨rfl, rfl⟩ ⟨Nat.le_of_ble_eq_true rfl, Nat.le_of_ble_eq_true rfl⟩ ⟨Nat.zero_le _, Nat.zero_le _⟩ rfl (Nat.le_of_ble_eq_true rfl) (fun _ => ?_)
            refine g_aload_n C dX12_could_57 rfl ?_
            refine g_iload_n C dX12_could_58 rfl ?_
            refine g_iload_n C dX12_could_59 rfl ?_
            obtain ⟨x13, qx13, h⟩ := bnd h
            refine g_callV1 (As := [iv a2, iv a3]) C dX12_could_60 mi_X12_know ml_12_460 (ct_X12_know ia2 ia3 qx13) rfl rfl ⟨rfl, rfl⟩ ⟨Nat.le_of_ble_eq_true rfl, Nat.le_of_ble_eq_true rfl⟩ ⟨Nat.zero_le _, Nat.zero_le _⟩ rfl (Nat.le_of_ble_eq_true rfl) (fun ix13 => ?_)
            exact g_iretP C dX12_could_63 hr hlk h ix13
          · have h := ifT c10 h
            refine g_iconst C dX12_could_41 ?_
            exact g_iretP C dX12_could_42 hr hlk h (by decide)
theorem dX12_since_0 : decode cX12_since 0 = .ok (.aload_n 0, 1) := by decide +kernel
theorem dX12_since_1 : decode cX12_since 1 = .ok (.iconst 0, 1) := by decide +kernel
theorem dX12_since_2 : decode cX12_since 2 = .ok (.putfield 1, 3) := by decide +kernel
theorem dX12_since_5 : decode cX12_since 5 = .ok (.aload_n 0, 1) := by decide +kernel
theorem dX12_since_6 : decode cX12_since 6 = .ok (.iload_n 1, 1) := by decide +kernel
theorem dX12_since_7 : decode cX12_since 7 = .ok (.invokevirtual 342, 3) := by decide +kernel
theorem dX12_since_10 : decode cX12_since 10 = .ok (.ifCond .eq 27, 3) := by decide +kernel
theorem dX12_since_13 : decode cX12_since 13 = .ok (.aload_n 0, 1) := by decide +kernel
theorem dX12_since_14 : decode cX12_since 14 = .ok (.iload_n 2, 1) := by decide +kernel
theorem dX12_since_15 : decode cX12_since 15 = .ok (.invokevirtual 453, 3) := by decide +kernel
theorem dX12_since_18 : decode cX12_since 18 = .ok (.ifCond .eq 19, 3) := by decide +kernel
theorem dX12_since_21 : decode cX12_since 21 = .ok (.iload_n 3, 1) := by decide +kernel
theorem dX12_since_22 : decode cX12_since 22 = .ok (.invokestatic 359, 3) := by decide +kernel
theorem dX12_since_25 : decode cX12_since 25 = .ok (.ifCond .eq 12, 3) := by decide +kernel
theorem dX12_since_28 : decode cX12_since 28 = .ok (.aload_n 0, 1) := by decide +kernel
theorem dX12_since_29 : decode cX12_since 29 = .ok (.iload 5, 2) := by decide +kernel
theorem dX12_since_31 : decode cX12_since 31 = .ok (.invokevirtual 362, 3) := by decide +kernel
theorem dX12_since_34 : decode cX12_since 34 = .ok (.ifCond .ne 5, 3) := by decide +kernel
theorem dX12_since_37 : decode cX12_since 37 = .ok (.iconst (-1), 1) := by decide +kernel
theorem dX12_since_38 : decode cX12_since 38 = .ok (.ireturn, 1) := by decide +kernel
theorem dX12_since_39 : decode cX12_since 39 = .ok (.aload_n 0, 1) := by decide +kernel
theorem dX12_since_40 : decode cX12_since 40 = .ok (.iload 5, 2) := by decide +kernel
theorem dX12_since_42 : decode cX12_since 42 = .ok (.invokevirtual 443, 3) := by decide +kernel
theorem dX12_since_45 : decode cX12_since 45 = .ok (.aload_n 0, 1) := by decide +kernel
theorem dX12_since_46 : decode cX12_since 46 = .ok (.iload_n 2, 1) := by decide +kernel
theorem dX12_since_47 : decode cX12_since 47 = .ok (.iload_n 3, 1) := by decide +kernel
theorem dX12_since_48 : decode cX12_since 48 = .ok (.iload 4, 2) := by decide +kernel
theorem dX12_since_50 : decode cX12_since 50 = .ok (.invokevirtual 456, 3) := by decide +kernel
theorem dX12_since_53 : decode cX12_since 53 = .ok (.aload_n 0, 1) := by decide +kernel
theorem dX12_since_54 : decode cX12_since 54 = .ok (.iload_n 1, 1) := by decide +kernel
theorem dX12_since_55 : decode cX12_since 55 = .ok (.iload_n 3, 1) := by decide +kernel
theorem dX12_since_56 : decode cX12_since 56 = .ok (.invokevirtual 450, 3) := by decide +kernel
theorem dX12_since_59 : decode cX12_since 59 = .ok (.ireturn, 1) := by decide +kernel
abbrev rm_X12_since : Room := { frames := 3, cells := 0, slots := 0, locals := 79 }
set_option maxRecDepth 100000 in
set_option maxHeartbeats 4000000 in
theorem ct_X12_since {w : Wd} {l : Launch} {a1 : Int} {a2 : Int} {a3 : Int} {a4 : Int} {a5 : Int} {σ : St} {y : Int} {σ' : St} (ia1 : InI a1) (ia2 : InI a2) (ia3 : InI a3) (ia4 : InZ a4) (ia5 : InI a5) (h : m_X12_since a1 a2 a3 a4 a5 σ = some (y, σ')) : Ct w l yX12_since (Cond.code yX12_since cX12_since 6 (some .int) :: TB) rm_X12_since [rv w 170, iv a1, iv a2, iv a3, iv a4, iv a5] σ (some (iv y)) (InI y) σ' := by
  refine Ct.of2 [some (rv w 170), some (iv a1), some (iv a2), some (iv a3), some (iv a4), some (iv a5)] 0 rfl pn_RX12 (Nat.le_of_ble_eq_true rfl) ?_
  intro p e s m args below meth c C hr hlk
  unfold m_X12_since at h
  refine g_aload_n C dX12_since_0 rfl ?_
  refine g_iconst C dX12_since_1 ?_
  obtain ⟨σ1, qσ1, h⟩ := bnd h
  refine g_putI (j := 0) C dX12_since_2 rfl (Nat.le_of_ble_eq_true rfl) (Nat.le_of_ble_eq_true rfl) fl_12_1 rfl rfl rfl rfl qσ1 (by decide) ?_
  refine g_aload_n C dX12_since_5 rfl ?_
  refine g_iload_n C dX12_since_6 rfl ?_
  obtain ⟨x2, qx2, h⟩ := bnd h
  refine g_callV1 (As := [iv a1]) C dX12_since_7 mi_X12_isAgent ml_12_342 (ct_X12_isAgent ia1 qx2) rfl rfl ⟨rfl, rfl⟩ ⟨Nat.le_of_ble_eq_true rfl, Nat.le_of_ble_eq_true rfl⟩ ⟨Nat.zero_le _, Nat.zero_le _⟩ rfl (Nat.le_of_ble_eq_true rfl) (fun ix2 => ?_)
  refine g_if_eq C dX12_since_10 (zI ix2) rfl (tgt := 37) (fun c3 => ?_) (fun c3 => ?_)
  · have h := ifT c3 h
    refine g_iconst C dX12_since_37 ?_
    exact g_iretP C dX12_since_38 hr hlk h (by decide)
  · have h := ifF c3 h
    refine g_aload_n C dX12_since_13 rfl ?_
    refine g_iload_n C dX12_since_14 rfl ?_
    obtain ⟨x4, qx4, h⟩ := bnd h
    refine g_callV1 (As := [iv a2]) C dX12_since_15 mi_X12_isSet ml_12_453 (ct_X12_isSet ia2 qx4) rfl rfl ⟨rfl, rfl⟩ ⟨Nat.le_of_ble_eq_true rfl, Nat.le_of_ble_eq_true rfl⟩ ⟨Nat.zero_le _, Nat.zero_le _⟩ rfl (Nat.le_of_ble_eq_true rfl) (fun ix4 => ?_)
    refine g_if_eq C dX12_since_18 (zI ix4) rfl (tgt := 37) (fun c5 => ?_) (fun c5 => ?_)
    · have h := ifT c5 h
      refine g_iconst C dX12_since_37 ?_
      exact g_iretP C dX12_since_38 hr hlk h (by decide)
    · have h := ifF c5 h
      refine g_iload_n C dX12_since_21 rfl ?_
      obtain ⟨x6, qx6, h⟩ := bnd h
      refine g_callS1 (As := [iv a3]) C dX12_since_22 mi_X12_isTick ml_12_359 (ct_X12_isTick ia3 qx6) rfl ⟨rfl, rfl⟩ ⟨Nat.le_of_ble_eq_true rfl, Nat.le_of_ble_eq_true rfl⟩ ⟨Nat.zero_le _, Nat.zero_le _⟩ rfl (Nat.le_of_ble_eq_true rfl) (fun ix6 => ?_)
      refine g_if_eq C dX12_since_25 (zI ix6) rfl (tgt := 37) (fun c7 => ?_) (fun c7 => ?_)
      · have h := ifT c7 h
        refine g_iconst C dX12_since_37 ?_
        exact g_iretP C dX12_since_38 hr hlk h (by decide)
      · have h := ifF c7 h
        refine g_aload_n C dX12_since_28 rfl ?_
        refine g_iload C dX12_since_29 rfl ?_
        obtain ⟨x8, qx8, h⟩ := bnd h
        refine g_callV1 (As := [iv a5]) C dX12_since_31 mi_X12_isKnown ml_12_362 (ct_X12_isKnown ia5 qx8) rfl rfl ⟨rfl, rfl⟩ ⟨Nat.le_of_ble_eq_true rfl, Nat.le_of_ble_eq_true rfl⟩ ⟨Nat.zero_le _, Nat.zero_le _⟩ rfl (Nat.le_of_ble_eq_true rfl) (fun ix8 => ?_)
        refine g_if_ne C dX12_since_34 (zI ix8) rfl (tgt := 39) (fun c9 => ?_) (fun c9 => ?_)
        · have h := ifF c9 h
          refine g_aload_n C dX12_since_39 rfl ?_
          refine g_iload C dX12_since_40 rfl ?_
          obtain ⟨σ10, qσ10, h⟩ := bnd h
          refine g_callV0 (As := [iv a5]) C dX12_since_42 mi_X12_goes ml_12_443 (ct_X12_goes ia5 qσ10) rfl rfl ⟨rfl, rfl⟩ ⟨Nat.le_of_ble_eq_true rfl, Nat.le_of_ble_eq_true rfl⟩ ⟨Nat.zero_le _, Nat.zero_le _⟩ rfl (Nat.le_of_ble_eq_true rfl) (fun _ => ?_)
          refine g_aload_n C dX12_since_45 rfl ?_
          refine g_iload_n C dX12_since_46 rfl ?_
          refine g_iload_n C dX12_since_47 rfl ?_
          refine g_iload C dX12_since_48 rfl ?_
          obtain ⟨σ11, qσ11, h⟩ := bnd h
          refine g_callV0 (As := [iv a2, iv a3, iv a4]) C dX12_since_50 mi_X12_spreads ml_12_456 (ct_X12_spreads ia2 ia3 ia4 qσ11) rfl rfl ⟨rfl, rfl⟩ ⟨Nat.le_of_ble_eq_true rfl, Nat.le_of_ble_eq_true rfl⟩ ⟨Nat.zero_le _, Nat.zero_le _⟩ rfl (Nat.le_of_ble_eq_true rfl) (fun _ => ?_)
          refine g_aload_n C dX12_since_53 rfl ?_
          refine g_iload_n C dX12_since_54 rfl ?_
          refine g_iload_n C dX12_since_55 rfl ?_
          obtain ⟨x12, qx12, h⟩ := bnd h
          refine g_callV1 (As := [iv a1, iv a3]) C dX12_since_56 mi_X12_first ml_12_450 (ct_X12_first ia1 ia3 qx12) rfl rfl ⟨rfl, rfl⟩ ⟨Nat.le_of_ble_eq_true rfl, Nat.le_of_ble_eq_true rfl⟩ ⟨Nat.zero_le _, Nat.zero_le _⟩ rfl (Nat.le_of_ble_eq_true rfl) (fun ix12 => ?_)
          exact g_iretP C dX12_since_59 hr hlk h ix12
        · have h := ifT c9 h
          refine g_iconst C dX12_since_37 ?_
          exact g_iretP C dX12_since_38 hr hlk h (by decide)
theorem dX12_touched_0 : decode cX12_touched 0 = .ok (.aload_n 0, 1) := by decide +kernel
theorem dX12_touched_1 : decode cX12_touched 1 = .ok (.iconst 0, 1) := by decide +kernel
theorem dX12_touched_2 : decode cX12_touched 2 = .ok (.putfield 1, 3) := by decide +kernel
theorem dX12_touched_5 : decode cX12_touched 5 = .ok (.aload_n 0, 1) := by decide +kernel
theorem dX12_touched_6 : decode cX12_touched 6 = .ok (.iload_n 1, 1) := by decide +kernel
theorem dX12_touched_7 : decode cX12_touched 7 = .ok (.invokevirtual 342, 3) := by decide +kernel
theorem dX12_touched_10 : decode cX12_touched 10 = .ok (.ifCond .eq 11, 3) := by decide +kernel
theorem dX12_touched_13 : decode cX12_touched 13 = .ok (.aload_n 0, 1) := by decide +kernel
theorem dX12_touched_14 : decode cX12_touched 14 = .ok (.iload_n 2, 1) := by decide +kernel
theorem dX12_touched_15 : decode cX12_touched 15 = .ok (.invokevirtual 362, 3) := by decide +kernel
theorem dX12_touched_18 : decode cX12_touched 18 = .ok (.ifCond .ne 5, 3) := by decide +kernel
theorem dX12_touched_21 : decode cX12_touched 21 = .ok (.iconst (-1), 1) := by decide +kernel
theorem dX12_touched_22 : decode cX12_touched 22 = .ok (.ireturn, 1) := by decide +kernel
theorem dX12_touched_23 : decode cX12_touched 23 = .ok (.iconst (-1), 1) := by decide +kernel
theorem dX12_touched_24 : decode cX12_touched 24 = .ok (.istore_n 3, 1) := by decide +kernel
theorem dX12_touched_25 : decode cX12_touched 25 = .ok (.iconst 0, 1) := by decide +kernel
theorem dX12_touched_26 : decode cX12_touched 26 = .ok (.istore 4, 2) := by decide +kernel
theorem dX12_touched_28 : decode cX12_touched 28 = .ok (.iload 4, 2) := by decide +kernel
theorem dX12_touched_30 : decode cX12_touched 30 = .ok (.iload_n 2, 1) := by decide +kernel
theorem dX12_touched_31 : decode cX12_touched 31 = .ok (.if_icmp .ge 65, 3) := by decide +kernel
theorem dX12_touched_34 : decode cX12_touched 34 = .ok (.aload_n 0, 1) := by decide +kernel
theorem dX12_touched_35 : decode cX12_touched 35 = .ok (.getfield 91, 3) := by decide +kernel
theorem dX12_touched_38 : decode cX12_touched 38 = .ok (.iload 4, 2) := by decide +kernel
theorem dX12_touched_40 : decode cX12_touched 40 = .ok (.iaload, 1) := by decide +kernel
theorem dX12_touched_41 : decode cX12_touched 41 = .ok (.iconst 2, 1) := by decide +kernel
theorem dX12_touched_42 : decode cX12_touched 42 = .ok (.if_icmp .ne 48, 3) := by decide +kernel
theorem dX12_touched_45 : decode cX12_touched 45 = .ok (.aload_n 0, 1) := by decide +kernel
theorem dX12_touched_46 : decode cX12_touched 46 = .ok (.getfield 94, 3) := by decide +kernel
theorem dX12_touched_49 : decode cX12_touched 49 = .ok (.iload 4, 2) := by decide +kernel
theorem dX12_touched_51 : decode cX12_touched 51 = .ok (.iaload, 1) := by decide +kernel
theorem dX12_touched_52 : decode cX12_touched 52 = .ok (.iload_n 1, 1) := by decide +kernel
theorem dX12_touched_53 : decode cX12_touched 53 = .ok (.if_icmp .ne 37, 3) := by decide +kernel
theorem dX12_touched_56 : decode cX12_touched 56 = .ok (.aload_n 0, 1) := by decide +kernel
theorem dX12_touched_57 : decode cX12_touched 57 = .ok (.iload 4, 2) := by decide +kernel
theorem dX12_touched_59 : decode cX12_touched 59 = .ok (.iload_n 2, 1) := by decide +kernel
theorem dX12_touched_60 : decode cX12_touched 60 = .ok (.invokevirtual 351, 3) := by decide +kernel
theorem dX12_touched_63 : decode cX12_touched 63 = .ok (.ifCond .ne 27, 3) := by decide +kernel
theorem dX12_touched_66 : decode cX12_touched 66 = .ok (.iload_n 3, 1) := by decide +kernel
theorem dX12_touched_67 : decode cX12_touched 67 = .ok (.iconst (-1), 1) := by decide +kernel
theorem dX12_touched_68 : decode cX12_touched 68 = .ok (.if_icmp .eq 14, 3) := by decide +kernel
theorem dX12_touched_71 : decode cX12_touched 71 = .ok (.aload_n 0, 1) := by decide +kernel
theorem dX12_touched_72 : decode cX12_touched 72 = .ok (.getfield 100, 3) := by decide +kernel
theorem dX12_touched_75 : decode cX12_touched 75 = .ok (.iload 4, 2) := by decide +kernel
theorem dX12_touched_77 : decode cX12_touched 77 = .ok (.iaload, 1) := by decide +kernel
theorem dX12_touched_78 : decode cX12_touched 78 = .ok (.iload_n 3, 1) := by decide +kernel
theorem dX12_touched_79 : decode cX12_touched 79 = .ok (.if_icmp .ge 11, 3) := by decide +kernel
theorem dX12_touched_82 : decode cX12_touched 82 = .ok (.aload_n 0, 1) := by decide +kernel
theorem dX12_touched_83 : decode cX12_touched 83 = .ok (.getfield 100, 3) := by decide +kernel
theorem dX12_touched_86 : decode cX12_touched 86 = .ok (.iload 4, 2) := by decide +kernel
theorem dX12_touched_88 : decode cX12_touched 88 = .ok (.iaload, 1) := by decide +kernel
theorem dX12_touched_89 : decode cX12_touched 89 = .ok (.istore_n 3, 1) := by decide +kernel
theorem dX12_touched_90 : decode cX12_touched 90 = .ok (.iinc 4 1, 3) := by decide +kernel
theorem dX12_touched_93 : decode cX12_touched 93 = .ok (.goto (-65), 3) := by decide +kernel
theorem dX12_touched_96 : decode cX12_touched 96 = .ok (.iload_n 3, 1) := by decide +kernel
theorem dX12_touched_97 : decode cX12_touched 97 = .ok (.iconst (-1), 1) := by decide +kernel
theorem dX12_touched_98 : decode cX12_touched 98 = .ok (.if_icmp .ne 5, 3) := by decide +kernel
theorem dX12_touched_101 : decode cX12_touched 101 = .ok (.iconst (-1), 1) := by decide +kernel
theorem dX12_touched_102 : decode cX12_touched 102 = .ok (.ireturn, 1) := by decide +kernel
theorem dX12_touched_103 : decode cX12_touched 103 = .ok (.aload_n 0, 1) := by decide +kernel
theorem dX12_touched_104 : decode cX12_touched 104 = .ok (.iload_n 2, 1) := by decide +kernel
theorem dX12_touched_105 : decode cX12_touched 105 = .ok (.invokevirtual 443, 3) := by decide +kernel
theorem dX12_touched_108 : decode cX12_touched 108 = .ok (.iconst 0, 1) := by decide +kernel
theorem dX12_touched_109 : decode cX12_touched 109 = .ok (.istore 4, 2) := by decide +kernel
theorem dX12_touched_111 : decode cX12_touched 111 = .ok (.iconst 0, 1) := by decide +kernel
theorem dX12_touched_112 : decode cX12_touched 112 = .ok (.istore 5, 2) := by decide +kernel
theorem dX12_touched_114 : decode cX12_touched 114 = .ok (.iload 5, 2) := by decide +kernel
theorem dX12_touched_116 : decode cX12_touched 116 = .ok (.aload_n 0, 1) := by decide +kernel
theorem dX12_touched_117 : decode cX12_touched 117 = .ok (.getfield 333, 3) := by decide +kernel
theorem dX12_touched_120 : decode cX12_touched 120 = .ok (.if_icmp .ge 77, 3) := by decide +kernel
theorem dX12_touched_123 : decode cX12_touched 123 = .ok (.bipush 10, 2) := by decide +kernel
theorem dX12_touched_125 : decode cX12_touched 125 = .ok (.iload_n 3, 1) := by decide +kernel
theorem dX12_touched_126 : decode cX12_touched 126 = .ok (.imul, 1) := by decide +kernel
theorem dX12_touched_127 : decode cX12_touched 127 = .ok (.istore 6, 2) := by decide +kernel
theorem dX12_touched_129 : decode cX12_touched 129 = .ok (.iload 6, 2) := by decide +kernel
theorem dX12_touched_131 : decode cX12_touched 131 = .ok (.sipush 960, 3) := by decide +kernel
theorem dX12_touched_134 : decode cX12_touched 134 = .ok (.if_icmp .ge 57, 3) := by decide +kernel
theorem dX12_touched_137 : decode cX12_touched 137 = .ok (.iload 5, 2) := by decide +kernel
theorem dX12_touched_139 : decode cX12_touched 139 = .ok (.iload_n 1, 1) := by decide +kernel
theorem dX12_touched_140 : decode cX12_touched 140 = .ok (.if_icmp .eq 45, 3) := by decide +kernel
theorem dX12_touched_143 : decode cX12_touched 143 = .ok (.aload_n 0, 1) := by decide +kernel
theorem dX12_touched_144 : decode cX12_touched 144 = .ok (.getfield 176, 3) := by decide +kernel
theorem dX12_touched_147 : decode cX12_touched 147 = .ok (.sipush 960, 3) := by decide +kernel
theorem dX12_touched_150 : decode cX12_touched 150 = .ok (.iload_n 1, 1) := by decide +kernel
theorem dX12_touched_151 : decode cX12_touched 151 = .ok (.imul, 1) := by decide +kernel
theorem dX12_touched_152 : decode cX12_touched 152 = .ok (.iload 6, 2) := by decide +kernel
theorem dX12_touched_154 : decode cX12_touched 154 = .ok (.iadd, 1) := by decide +kernel
theorem dX12_touched_155 : decode cX12_touched 155 = .ok (.baload, 1) := by decide +kernel
theorem dX12_touched_156 : decode cX12_touched 156 = .ok (.ifCond .eq 29, 3) := by decide +kernel
theorem dX12_touched_159 : decode cX12_touched 159 = .ok (.aload_n 0, 1) := by decide +kernel
theorem dX12_touched_160 : decode cX12_touched 160 = .ok (.getfield 176, 3) := by decide +kernel
theorem dX12_touched_163 : decode cX12_touched 163 = .ok (.sipush 960, 3) := by decide +kernel
theorem dX12_touched_166 : decode cX12_touched 166 = .ok (.iload 5, 2) := by decide +kernel
theorem dX12_touched_168 : decode cX12_touched 168 = .ok (.imul, 1) := by decide +kernel
theorem dX12_touched_169 : decode cX12_touched 169 = .ok (.iload 6, 2) := by decide +kernel
theorem dX12_touched_171 : decode cX12_touched 171 = .ok (.iadd, 1) := by decide +kernel
theorem dX12_touched_172 : decode cX12_touched 172 = .ok (.baload, 1) := by decide +kernel
theorem dX12_touched_173 : decode cX12_touched 173 = .ok (.ifCond .eq 12, 3) := by decide +kernel
theorem dX12_touched_176 : decode cX12_touched 176 = .ok (.iload 4, 2) := by decide +kernel
theorem dX12_touched_178 : decode cX12_touched 178 = .ok (.iconst 1, 1) := by decide +kernel
theorem dX12_touched_179 : decode cX12_touched 179 = .ok (.iload 5, 2) := by decide +kernel
theorem dX12_touched_181 : decode cX12_touched 181 = .ok (.ishl, 1) := by decide +kernel
theorem dX12_touched_182 : decode cX12_touched 182 = .ok (.ior, 1) := by decide +kernel
theorem dX12_touched_183 : decode cX12_touched 183 = .ok (.istore 4, 2) := by decide +kernel
theorem dX12_touched_185 : decode cX12_touched 185 = .ok (.iinc 6 1, 3) := by decide +kernel
theorem dX12_touched_188 : decode cX12_touched 188 = .ok (.goto (-59), 3) := by decide +kernel
theorem dX12_touched_191 : decode cX12_touched 191 = .ok (.iinc 5 1, 3) := by decide +kernel
theorem dX12_touched_194 : decode cX12_touched 194 = .ok (.goto (-80), 3) := by decide +kernel
theorem dX12_touched_197 : decode cX12_touched 197 = .ok (.iload 4, 2) := by decide +kernel
theorem dX12_touched_199 : decode cX12_touched 199 = .ok (.ireturn, 1) := by decide +kernel
abbrev rm_X12_touched : Room := { frames := 3, cells := 0, slots := 0, locals := 74 }
set_option maxRecDepth 100000 in
set_option maxHeartbeats 4000000 in
theorem ct_X12_touched {w : Wd} {l : Launch} {a1 : Int} {a2 : Int} {σ : St} {y : Int} {σ' : St} (ia1 : InI a1) (ia2 : InI a2) (h : m_X12_touched a1 a2 σ = some (y, σ')) : Ct w l yX12_touched (Cond.code yX12_touched cX12_touched 7 (some .int) :: TB) rm_X12_touched [rv w 170, iv a1, iv a2] σ (some (iv y)) (InI y) σ' := by
  refine Ct.of2 [some (rv w 170), some (iv a1), some (iv a2), none, none, none, none] 4 rfl pn_RX12 (Nat.le_of_ble_eq_true rfl) ?_
  intro p e s m args below meth c C hr hlk
  unfold m_X12_touched at h
  refine g_aload_n C dX12_touched_0 rfl ?_
  refine g_iconst C dX12_touched_1 ?_
  obtain ⟨σ1, qσ1, h⟩ := bnd h
  refine g_putI (j := 0) C dX12_touched_2 rfl (Nat.le_of_ble_eq_true rfl) (Nat.le_of_ble_eq_true rfl) fl_12_1 rfl rfl rfl rfl qσ1 (by decide) ?_
  refine g_aload_n C dX12_touched_5 rfl ?_
  refine g_iload_n C dX12_touched_6 rfl ?_
  obtain ⟨x2, qx2, h⟩ := bnd h
  refine g_callV1 (As := [iv a1]) C dX12_touched_7 mi_X12_isAgent ml_12_342 (ct_X12_isAgent ia1 qx2) rfl rfl ⟨rfl, rfl⟩ ⟨Nat.le_of_ble_eq_true rfl, Nat.le_of_ble_eq_true rfl⟩ ⟨Nat.zero_le _, Nat.zero_le _⟩ rfl (Nat.le_of_ble_eq_true rfl) (fun ix2 => ?_)
  refine g_if_eq C dX12_touched_10 (zI ix2) rfl (tgt := 21) (fun c3 => ?_) (fun c3 => ?_)
  · have h := ifT c3 h
    refine g_iconst C dX12_touched_21 ?_
    exact g_iretP C dX12_touched_22 hr hlk h (by decide)
  · have h := ifF c3 h
    refine g_aload_n C dX12_touched_13 rfl ?_
    refine g_iload_n C dX12_touched_14 rfl ?_
    obtain ⟨x4, qx4, h⟩ := bnd h
    refine g_callV1 (As := [iv a2]) C dX12_touched_15 mi_X12_isKnown ml_12_362 (ct_X12_isKnown ia2 qx4) rfl rfl ⟨rfl, rfl⟩ ⟨Nat.le_of_ble_eq_true rfl, Nat.le_of_ble_eq_true rfl⟩ ⟨Nat.zero_le _, Nat.zero_le _⟩ rfl (Nat.le_of_ble_eq_true rfl) (fun ix4 => ?_)
    refine g_if_ne C dX12_touched_18 (zI ix4) rfl (tgt := 23) (fun c5 => ?_) (fun c5 => ?_)
    · have h := ifF c5 h
      refine g_iconst C dX12_touched_23 ?_
      refine g_istore_n (L1 := [some (rv w 170), some (iv a1), some (iv a2), some (iv (-1)), none, none, none]) C dX12_touched_24 rfl (Nat.le_of_ble_eq_true rfl) rfl ?_
      refine g_iconst C dX12_touched_25 ?_
      refine g_istore (L1 := [some (rv w 170), some (iv a1), some (iv a2), some (iv (-1)), some (iv 0), none, none]) C dX12_touched_26 rfl (Nat.le_of_ble_eq_true rfl) rfl ?_
      obtain ⟨b6, hb6, hF6⟩ := bnd h
      have hX6 : ∀ (x21 : Int) , InI x21 → x21 = b6 → GM w p l e rm_X12_touched s m args below meth c (some (iv y)) (InI y) σ' 7 96 [some (rv w 170), some (iv a1), some (iv a2), some (iv x21), none, none, none] [] σ1 := by
        intro x21 ix21 q
        subst q
        have h := hF6
        refine g_iload_n C dX12_touched_96 rfl ?_
        refine g_iconst C dX12_touched_97 ?_
        refine g_icmp_ne C dX12_touched_98 ix21 (by decide) rfl (tgt := 103) (fun c22 => ?_) (fun c22 => ?_)
        · have h := ifF c22 h
          refine g_aload_n C dX12_touched_103 rfl ?_
          refine g_iload_n C dX12_touched_104 rfl ?_
          obtain ⟨σ23, qσ23, h⟩ := bnd h
          refine g_callV0 (As := [iv a2]) C dX12_touched_105 mi_X12_goes ml_12_443 (ct_X12_goes ia2 qσ23) rfl rfl ⟨rfl, rfl⟩ ⟨Nat.le_of_ble_eq_true rfl, Nat.le_of_ble_eq_true rfl⟩ ⟨Nat.zero_le _, Nat.zero_le _⟩ rfl (Nat.le_of_ble_eq_true rfl) (fun _ => ?_)
          refine g_iconst C dX12_touched_108 ?_
          refine g_istore (L1 := [some (rv w 170), some (iv a1), some (iv a2), some (iv x21), some (iv 0), none, none]) C dX12_touched_109 rfl (Nat.le_of_ble_eq_true rfl) rfl ?_
          refine g_iconst C dX12_touched_111 ?_
          refine g_istore (L1 := [some (rv w 170), some (iv a1), some (iv a2), some (iv x21), some (iv 0), some (iv 0), none]) C dX12_touched_112 rfl (Nat.le_of_ble_eq_true rfl) rfl ?_
          refine g_mask [true, true, false, true, true, true, true] ?_
          obtain ⟨b24, hb24, hF24⟩ := bnd h
          have hX24 : ∀ (x41 : Int) , InI x41 → x41 = b24 → GM w p l e rm_X12_touched s m args below meth c (some (iv y)) (InI y) σ' 7 197 [none, none, none, none, some (iv x41), none, none] [] σ23 := by
            intro x41 ix41 q
            subst q
            have h := hF24
            refine g_iload C dX12_touched_197 rfl ?_
            exact g_iretP C dX12_touched_199 hr hlk h ix41
          have hL24 : ∀ (n : Nat) (x25 : Int) (x26 : Int) , InI x25 → InI x26 → lpN (fun a => m_X12_touched_L114 σ23 x21 a1 a.1 a.2) n (x25, x26) = some b24 → GM w p l e rm_X12_touched s m args below meth c (some (iv y)) (InI y) σ' 7 114 [some (rv w 170), some (iv a1), none, some (iv x21), some (iv x25), some (iv x26), none] [] σ23 := by
            intro n
            induction n with
            | zero => intro x25 x26 ix25 ix26 q; cases q
            | succ n ih24 =>
              intro x25 x26 ix25 ix26 q
              obtain ⟨o24, h, hk24⟩ := lp_step q
              replace h : m_X12_touched_L114 σ23 x21 a1 x25 x26 = some o24 := h
              unfold m_X12_touched_L114 at h
              refine g_iload C dX12_touched_114 rfl ?_
              refine g_aload_n C dX12_touched_116 rfl ?_
              refine g_getI (j := 35) C dX12_touched_117 rfl (Nat.le_of_ble_eq_true rfl) (Nat.le_of_ble_eq_true rfl) fl_12_333 rfl rfl (fun i27 => ?_)
              refine g_icmp_ge C dX12_touched_120 ix26 i27 rfl (tgt := 197) (fun c28 => ?_) (fun c28 => ?_)
              · have h := ifT c28 h
                refine g_mask [false, false, true, false, true, false, true] ?_
                obtain rfl := Option.some.inj h
                exact hX24 x25 ix25 (lpR hk24).symm
              · have h := ifF c28 h
                refine g_bipush C dX12_touched_123 rfl ?_
                refine g_iload_n C dX12_touched_125 rfl ?_
                refine g_imul C dX12_touched_126 ?_
                obtain ⟨x29, qx29, h⟩ := bnd h
                have qx29 := Option.some.inj qx29
                have ix29 : InI x29 := by rw [← qx29]; exact (iwr _)
                refine g_E qx29 ?_
                refine g_istore (L1 := [some (rv w 170), some (iv a1), none, some (iv x21), some (iv x25), some (iv x26), some (iv x29)]) C dX12_touched_127 rfl (Nat.le_of_ble_eq_true rfl) rfl ?_
                obtain ⟨b30, hb30, hF30⟩ := bnd h
                have hX30 : ∀ (x40 : Int) , InI x40 → x40 = b30 → GM w p l e rm_X12_touched s m args below meth c (some (iv y)) (InI y) σ' 7 191 [some (rv w 170), some (iv a1), none, some (iv x21), some (iv x40), some (iv x26), none] [] σ23 := by
                  intro x40 ix40 q
                  subst q
                  have h := hF30
                  refine g_iinc (L1 := [some (rv w 170), some (iv a1), none, some (iv x21), some (iv x40), some (iv (wr (x26 + 1))), none]) C dX12_touched_191 rfl rfl (Nat.le_of_ble_eq_true rfl) rfl ?_
                  refine g_goto C dX12_touched_194 rfl (tgt := 114) ?_
                  obtain rfl := Option.some.inj h
                  exact ih24 _ _ ix40 (iwr _) (lpL hk24)
                have hL30 : ∀ (n : Nat) (x31 : Int) (x32 : Int) , InI x31 → InI x32 → lpN (fun a => m_X12_touched_L129 x26 a1 σ23 a.1 a.2) n (x31, x32) = some b30 → GM w p l e rm_X12_touched s m args below meth c (some (iv y)) (InI y) σ' 7 129 [some (rv w 170), some (iv a1), none, some (iv x21), some (iv x31), some (iv x26), some (iv x32)] [] σ23 := by
                  intro n
                  induction n with
                  | zero => intro x31 x32 ix31 ix32 q; cases q
                  | succ n ih30 =>
                    intro x31 x32 ix31 ix32 q
                    obtain ⟨o30, h, hk30⟩ := lp_step q
                    replace h : m_X12_touched_L129 x26 a1 σ23 x31 x32 = some o30 := h
                    unfold m_X12_touched_L129 at h
                    refine g_iload C dX12_touched_129 rfl ?_
                    refine g_sipush C dX12_touched_131 rfl ?_
                    refine g_icmp_ge C dX12_touched_134 ix32 (by decide) rfl (tgt := 191) (fun c33 => ?_) (fun c33 => ?_)
                    · have h := ifT c33 h
                      refine g_mask [true, true, true, true, true, true, false] ?_
                      obtain rfl := Option.some.inj h
                      exact hX30 x31 ix31 (lpR hk30).symm
                    · have h := ifF c33 h
                      refine g_iload C dX12_touched_137 rfl ?_
                      refine g_iload_n C dX12_touched_139 rfl ?_
                      refine g_icmp_eq C dX12_touched_140 ix26 ia1 rfl (tgt := 185) (fun c34 => ?_) (fun c34 => ?_)
                      · have h := ifT c34 h
                        refine g_iinc (L1 := [some (rv w 170), some (iv a1), none, some (iv x21), some (iv x31), some (iv x26), some (iv (wr (x32 + 1)))]) C dX12_touched_185 rfl rfl (Nat.le_of_ble_eq_true rfl) rfl ?_
                        refine g_goto C dX12_touched_188 rfl (tgt := 129) ?_
                        obtain rfl := Option.some.inj h
                        exact ih30 _ _ ix31 (iwr _) (lpL hk30)
                      · have h := ifF c34 h
                        refine g_aload_n C dX12_touched_143 rfl ?_
                        refine g_getR (j := 75) C dX12_touched_144 rfl (Nat.le_of_ble_eq_true rfl) (Nat.le_of_ble_eq_true rfl) fl_12_176 rfl rfl (r := 221) rfl ?_
                        refine g_sipush C dX12_touched_147 rfl ?_
                        refine g_iload_n C dX12_touched_150 rfl ?_
                        refine g_imul C dX12_touched_151 ?_
                        refine g_iload C dX12_touched_152 rfl ?_
                        refine g_iadd C dX12_touched_154 ?_
                        obtain ⟨x35, qx35, h⟩ := bnd h
                        refine g_zald C dX12_touched_155 rfl rfl qx35 (iwr _) (fun ix35 => ?_)
                        refine g_if_eq C dX12_touched_156 (zI ix35) rfl (tgt := 185) (fun c36 => ?_) (fun c36 => ?_)
                        · have h := ifT c36 h
                          refine g_iinc (L1 := [some (rv w 170), some (iv a1), none, some (iv x21), some (iv x31), some (iv x26), some (iv (wr (x32 + 1)))]) C dX12_touched_185 rfl rfl (Nat.le_of_ble_eq_true rfl) rfl ?_
                          refine g_goto C dX12_touched_188 rfl (tgt := 129) ?_
                          obtain rfl := Option.some.inj h
                          exact ih30 _ _ ix31 (iwr _) (lpL hk30)
                        · have h := ifF c36 h
                          refine g_aload_n C dX12_touched_159 rfl ?_
                          refine g_getR (j := 75) C dX12_touched_160 rfl (Nat.le_of_ble_eq_true rfl) (Nat.le_of_ble_eq_true rfl) fl_12_176 rfl rfl (r := 221) rfl ?_
                          refine g_sipush C dX12_touched_163 rfl ?_
                          refine g_iload C dX12_touched_166 rfl ?_
                          refine g_imul C dX12_touched_168 ?_
                          refine g_iload C dX12_touched_169 rfl ?_
                          refine g_iadd C dX12_touched_171 ?_
                          obtain ⟨x37, qx37, h⟩ := bnd h
                          refine g_zald C dX12_touched_172 rfl rfl qx37 (iwr _) (fun ix37 => ?_)
                          refine g_if_eq C dX12_touched_173 (zI ix37) rfl (tgt := 185) (fun c38 => ?_) (fun c38 => ?_)
                          · have h := ifT c38 h
                            refine g_iinc (L1 := [some (rv w 170), some (iv a1), none, some (iv x21), some (iv x31), some (iv x26), some (iv (wr (x32 + 1)))]) C dX12_touched_185 rfl rfl (Nat.le_of_ble_eq_true rfl) rfl ?_
                            refine g_goto C dX12_touched_188 rfl (tgt := 129) ?_
                            obtain rfl := Option.some.inj h
                            exact ih30 _ _ ix31 (iwr _) (lpL hk30)
                          · have h := ifF c38 h
                            refine g_iload C dX12_touched_176 rfl ?_
                            refine g_iconst C dX12_touched_178 ?_
                            refine g_iload C dX12_touched_179 rfl ?_
                            refine g_ishl C dX12_touched_181 ?_
                            refine g_ior C dX12_touched_182 ?_
                            obtain ⟨x39, qx39, h⟩ := bnd h
                            have qx39 := Option.some.inj qx39
                            have ix39 : InI x39 := by rw [← qx39]; exact (ior _ _)
                            refine g_E qx39 ?_
                            refine g_istore (L1 := [some (rv w 170), some (iv a1), none, some (iv x21), some (iv x39), some (iv x26), some (iv x32)]) C dX12_touched_183 rfl (Nat.le_of_ble_eq_true rfl) rfl ?_
                            refine g_iinc (L1 := [some (rv w 170), some (iv a1), none, some (iv x21), some (iv x39), some (iv x26), some (iv (wr (x32 + 1)))]) C dX12_touched_185 rfl rfl (Nat.le_of_ble_eq_true rfl) rfl ?_
                            refine g_goto C dX12_touched_188 rfl (tgt := 129) ?_
                            obtain rfl := Option.some.inj h
                            exact ih30 _ _ ix39 (iwr _) (lpL hk30)
                exact hL30 FU _ _ ix25 ix29 hb30
          exact hL24 FU _ _ (by decide) (by decide) hb24
        · have h := ifT c22 h
          refine g_iconst C dX12_touched_101 ?_
          exact g_iretP C dX12_touched_102 hr hlk h (by decide)
      have hL6 : ∀ (n : Nat) (x7 : Int) (x8 : Int) , InI x7 → InI x8 → lpN (fun a => m_X12_touched_L28 a2 σ1 a1 a.1 a.2) n (x7, x8) = some b6 → GM w p l e rm_X12_touched s m args below meth c (some (iv y)) (InI y) σ' 7 28 [some (rv w 170), some (iv a1), some (iv a2), some (iv x7), some (iv x8), none, none] [] σ1 := by
        intro n
        induction n with
        | zero => intro x7 x8 ix7 ix8 q; cases q
        | succ n ih6 =>
          intro x7 x8 ix7 ix8 q
          obtain ⟨o6, h, hk6⟩ := lp_step q
          replace h : m_X12_touched_L28 a2 σ1 a1 x7 x8 = some o6 := h
          unfold m_X12_touched_L28 at h
          refine g_iload C dX12_touched_28 rfl ?_
          refine g_iload_n C dX12_touched_30 rfl ?_
          refine g_icmp_ge C dX12_touched_31 ix8 ia2 rfl (tgt := 96) (fun c9 => ?_) (fun c9 => ?_)
          · have h := ifT c9 h
            refine g_mask [true, true, true, true, false, true, true] ?_
            obtain rfl := Option.some.inj h
            exact hX6 x7 ix7 (lpR hk6).symm
          · have h := ifF c9 h
            refine g_aload_n C dX12_touched_34 rfl ?_
            refine g_getR (j := 42) C dX12_touched_35 rfl (Nat.le_of_ble_eq_true rfl) (Nat.le_of_ble_eq_true rfl) fl_12_91 rfl rfl (r := 195) rfl ?_
            refine g_iload C dX12_touched_38 rfl ?_
            obtain ⟨x10, qx10, h⟩ := bnd h
            refine g_iald C dX12_touched_40 rfl rfl qx10 ix8 (fun ix10 => ?_)
            refine g_iconst C dX12_touched_41 ?_
            refine g_icmp_ne C dX12_touched_42 ix10 (by decide) rfl (tgt := 90) (fun c11 => ?_) (fun c11 => ?_)
            · have h := ifF c11 h
              refine g_iinc (L1 := [some (rv w 170), some (iv a1), some (iv a2), some (iv x7), some (iv (wr (x8 + 1))), none, none]) C dX12_touched_90 rfl rfl (Nat.le_of_ble_eq_true rfl) rfl ?_
              refine g_goto C dX12_touched_93 rfl (tgt := 28) ?_
              obtain rfl := Option.some.inj h
              exact ih6 _ _ ix7 (iwr _) (lpL hk6)
            · have h := ifT c11 h
              refine g_aload_n C dX12_touched_45 rfl ?_
              refine g_getR (j := 43) C dX12_touched_46 rfl (Nat.le_of_ble_eq_true rfl) (Nat.le_of_ble_eq_true rfl) fl_12_94 rfl rfl (r := 196) rfl ?_
              refine g_iload C dX12_touched_49 rfl ?_
              obtain ⟨x12, qx12, h⟩ := bnd h
              refine g_iald C dX12_touched_51 rfl rfl qx12 ix8 (fun ix12 => ?_)
              refine g_iload_n C dX12_touched_52 rfl ?_
              refine g_icmp_ne C dX12_touched_53 ix12 ia1 rfl (tgt := 90) (fun c13 => ?_) (fun c13 => ?_)
              · have h := ifF c13 h
                refine g_iinc (L1 := [some (rv w 170), some (iv a1), some (iv a2), some (iv x7), some (iv (wr (x8 + 1))), none, none]) C dX12_touched_90 rfl rfl (Nat.le_of_ble_eq_true rfl) rfl ?_
                refine g_goto C dX12_touched_93 rfl (tgt := 28) ?_
                obtain rfl := Option.some.inj h
                exact ih6 _ _ ix7 (iwr _) (lpL hk6)
              · have h := ifT c13 h
                refine g_aload_n C dX12_touched_56 rfl ?_
                refine g_iload C dX12_touched_57 rfl ?_
                refine g_iload_n C dX12_touched_59 rfl ?_
                obtain ⟨x14, qx14, h⟩ := bnd h
                refine g_callV1 (As := [iv x8, iv a2]) C dX12_touched_60 mi_X12_isStruck ml_12_351 (ct_X12_isStruck ix8 ia2 qx14) rfl rfl ⟨rfl, rfl⟩ ⟨Nat.le_of_ble_eq_true rfl, Nat.le_of_ble_eq_true rfl⟩ ⟨Nat.zero_le _, Nat.zero_le _⟩ rfl (Nat.le_of_ble_eq_true rfl) (fun ix14 => ?_)
                refine g_if_ne C dX12_touched_63 (zI ix14) rfl (tgt := 90) (fun c15 => ?_) (fun c15 => ?_)
                · have h := ifF c15 h
                  refine g_iinc (L1 := [some (rv w 170), some (iv a1), some (iv a2), some (iv x7), some (iv (wr (x8 + 1))), none, none]) C dX12_touched_90 rfl rfl (Nat.le_of_ble_eq_true rfl) rfl ?_
                  refine g_goto C dX12_touched_93 rfl (tgt := 28) ?_
                  obtain rfl := Option.some.inj h
                  exact ih6 _ _ ix7 (iwr _) (lpL hk6)
                · have h := ifT c15 h
                  refine g_iload_n C dX12_touched_66 rfl ?_
                  refine g_iconst C dX12_touched_67 ?_
                  have hJ82_20 : m_X12_touched_J82 σ1 x8 = some o6 → GM w p l e rm_X12_touched s m args below meth c (some (iv y)) (InI y) σ' 7 82 [some (rv w 170), some (iv a1), some (iv a2), none, some (iv x8), none, none] [] σ1 := by
                    intro h
                    unfold m_X12_touched_J82 at h
                    refine g_aload_n C dX12_touched_82 rfl ?_
                    refine g_getR (j := 45) C dX12_touched_83 rfl (Nat.le_of_ble_eq_true rfl) (Nat.le_of_ble_eq_true rfl) fl_12_100 rfl rfl (r := 198) rfl ?_
                    refine g_iload C dX12_touched_86 rfl ?_
                    obtain ⟨x19, qx19, h⟩ := bnd h
                    refine g_iald C dX12_touched_88 rfl rfl qx19 ix8 (fun ix19 => ?_)
                    refine g_istore_n (L1 := [some (rv w 170), some (iv a1), some (iv a2), some (iv x19), some (iv x8), none, none]) C dX12_touched_89 rfl (Nat.le_of_ble_eq_true rfl) rfl ?_
                    refine g_iinc (L1 := [some (rv w 170), some (iv a1), some (iv a2), some (iv x19), some (iv (wr (x8 + 1))), none, none]) C dX12_touched_90 rfl rfl (Nat.le_of_ble_eq_true rfl) rfl ?_
                    refine g_goto C dX12_touched_93 rfl (tgt := 28) ?_
                    obtain rfl := Option.some.inj h
                    exact ih6 _ _ ix19 (iwr _) (lpL hk6)
                  refine g_icmp_eq C dX12_touched_68 ix7 (by decide) rfl (tgt := 82) (fun c16 => ?_) (fun c16 => ?_)
                  · have h := ifT c16 h
                    refine g_mask [true, true, true, false, true, true, true] ?_
                    exact hJ82_20  h
                  · have h := ifF c16 h
                    refine g_aload_n C dX12_touched_71 rfl ?_
                    refine g_getR (j := 45) C dX12_touched_72 rfl (Nat.le_of_ble_eq_true rfl) (Nat.le_of_ble_eq_true rfl) fl_12_100 rfl rfl (r := 198) rfl ?_
                    refine g_iload C dX12_touched_75 rfl ?_
                    obtain ⟨x17, qx17, h⟩ := bnd h
                    refine g_iald C dX12_touched_77 rfl rfl qx17 ix8 (fun ix17 => ?_)
                    refine g_iload_n C dX12_touched_78 rfl ?_
                    refine g_icmp_ge C dX12_touched_79 ix17 ix7 rfl (tgt := 90) (fun c18 => ?_) (fun c18 => ?_)
                    · have h := ifT c18 h
                      refine g_iinc (L1 := [some (rv w 170), some (iv a1), some (iv a2), some (iv x7), some (iv (wr (x8 + 1))), none, none]) C dX12_touched_90 rfl rfl (Nat.le_of_ble_eq_true rfl) rfl ?_
                      refine g_goto C dX12_touched_93 rfl (tgt := 28) ?_
                      obtain rfl := Option.some.inj h
                      exact ih6 _ _ ix7 (iwr _) (lpL hk6)
                    · have h := ifF c18 h
                      refine g_mask [true, true, true, false, true, true, true] ?_
                      exact hJ82_20  h
      exact hL6 FU _ _ (by decide) (by decide) hb6
    · have h := ifT c5 h
      refine g_iconst C dX12_touched_21 ?_
      exact g_iretP C dX12_touched_22 hr hlk h (by decide)
theorem dX12_worstOf_0 : decode cX12_worstOf 0 = .ok (.iconst 0, 1) := by decide +kernel
theorem dX12_worstOf_1 : decode cX12_worstOf 1 = .ok (.istore 4, 2) := by decide +kernel
theorem dX12_worstOf_3 : decode cX12_worstOf 3 = .ok (.iload 4, 2) := by decide +kernel
theorem dX12_worstOf_5 : decode cX12_worstOf 5 = .ok (.iconst 3, 1) := by decide +kernel
theorem dX12_worstOf_6 : decode cX12_worstOf 6 = .ok (.if_icmp .ge 17, 3) := by decide +kernel
theorem dX12_worstOf_9 : decode cX12_worstOf 9 = .ok (.aload_n 0, 1) := by decide +kernel
theorem dX12_worstOf_10 : decode cX12_worstOf 10 = .ok (.getfield 215, 3) := by decide +kernel
theorem dX12_worstOf_13 : decode cX12_worstOf 13 = .ok (.iload 4, 2) := by decide +kernel
theorem dX12_worstOf_15 : decode cX12_worstOf 15 = .ok (.iconst 0, 1) := by decide +kernel
theorem dX12_worstOf_16 : decode cX12_worstOf 16 = .ok (.iastore, 1) := by decide +kernel
theorem dX12_worstOf_17 : decode cX12_worstOf 17 = .ok (.iinc 4 1, 3) := by decide +kernel
theorem dX12_worstOf_20 : decode cX12_worstOf 20 = .ok (.goto (-17), 3) := by decide +kernel
theorem dX12_worstOf_23 : decode cX12_worstOf 23 = .ok (.iload_n 1, 1) := by decide +kernel
theorem dX12_worstOf_24 : decode cX12_worstOf 24 = .ok (.istore 4, 2) := by decide +kernel
theorem dX12_worstOf_26 : decode cX12_worstOf 26 = .ok (.iload_n 2, 1) := by decide +kernel
theorem dX12_worstOf_27 : decode cX12_worstOf 27 = .ok (.iconst 1, 1) := by decide +kernel
theorem dX12_worstOf_28 : decode cX12_worstOf 28 = .ok (.isub, 1) := by decide +kernel
theorem dX12_worstOf_29 : decode cX12_worstOf 29 = .ok (.istore 5, 2) := by decide +kernel
theorem dX12_worstOf_31 : decode cX12_worstOf 31 = .ok (.iload 5, 2) := by decide +kernel
theorem dX12_worstOf_33 : decode cX12_worstOf 33 = .ok (.ifCond .lt 53, 3) := by decide +kernel
theorem dX12_worstOf_36 : decode cX12_worstOf 36 = .ok (.aload_n 0, 1) := by decide +kernel
theorem dX12_worstOf_37 : decode cX12_worstOf 37 = .ok (.getfield 212, 3) := by decide +kernel
theorem dX12_worstOf_40 : decode cX12_worstOf 40 = .ok (.iload 5, 2) := by decide +kernel
theorem dX12_worstOf_42 : decode cX12_worstOf 42 = .ok (.iload 4, 2) := by decide +kernel
theorem dX12_worstOf_44 : decode cX12_worstOf 44 = .ok (.iload_n 3, 1) := by decide +kernel
theorem dX12_worstOf_45 : decode cX12_worstOf 45 = .ok (.irem, 1) := by decide +kernel
theorem dX12_worstOf_46 : decode cX12_worstOf 46 = .ok (.iastore, 1) := by decide +kernel
theorem dX12_worstOf_47 : decode cX12_worstOf 47 = .ok (.iload 4, 2) := by decide +kernel
theorem dX12_worstOf_49 : decode cX12_worstOf 49 = .ok (.iload_n 3, 1) := by decide +kernel
theorem dX12_worstOf_50 : decode cX12_worstOf 50 = .ok (.idiv, 1) := by decide +kernel
theorem dX12_worstOf_51 : decode cX12_worstOf 51 = .ok (.istore 4, 2) := by decide +kernel
theorem dX12_worstOf_53 : decode cX12_worstOf 53 = .ok (.aload_n 0, 1) := by decide +kernel
theorem dX12_worstOf_54 : decode cX12_worstOf 54 = .ok (.getfield 215, 3) := by decide +kernel
theorem dX12_worstOf_57 : decode cX12_worstOf 57 = .ok (.aload_n 0, 1) := by decide +kernel
theorem dX12_worstOf_58 : decode cX12_worstOf 58 = .ok (.getfield 212, 3) := by decide +kernel
theorem dX12_worstOf_61 : decode cX12_worstOf 61 = .ok (.iload 5, 2) := by decide +kernel
theorem dX12_worstOf_63 : decode cX12_worstOf 63 = .ok (.iaload, 1) := by decide +kernel
theorem dX12_worstOf_64 : decode cX12_worstOf 64 = .ok (.dup2, 1) := by decide +kernel
theorem dX12_worstOf_65 : decode cX12_worstOf 65 = .ok (.iaload, 1) := by decide +kernel
theorem dX12_worstOf_66 : decode cX12_worstOf 66 = .ok (.aload_n 0, 1) := by decide +kernel
theorem dX12_worstOf_67 : decode cX12_worstOf 67 = .ok (.getfield 206, 3) := by decide +kernel
theorem dX12_worstOf_70 : decode cX12_worstOf 70 = .ok (.aload_n 0, 1) := by decide +kernel
theorem dX12_worstOf_71 : decode cX12_worstOf 71 = .ok (.getfield 209, 3) := by decide +kernel
theorem dX12_worstOf_74 : decode cX12_worstOf 74 = .ok (.iload 5, 2) := by decide +kernel
theorem dX12_worstOf_76 : decode cX12_worstOf 76 = .ok (.iaload, 1) := by decide +kernel
theorem dX12_worstOf_77 : decode cX12_worstOf 77 = .ok (.iaload, 1) := by decide +kernel
theorem dX12_worstOf_78 : decode cX12_worstOf 78 = .ok (.ior, 1) := by decide +kernel
theorem dX12_worstOf_79 : decode cX12_worstOf 79 = .ok (.iastore, 1) := by decide +kernel
theorem dX12_worstOf_80 : decode cX12_worstOf 80 = .ok (.iinc 5 (-1), 3) := by decide +kernel
theorem dX12_worstOf_83 : decode cX12_worstOf 83 = .ok (.goto (-52), 3) := by decide +kernel
theorem dX12_worstOf_86 : decode cX12_worstOf 86 = .ok (.iconst 0, 1) := by decide +kernel
theorem dX12_worstOf_87 : decode cX12_worstOf 87 = .ok (.istore 5, 2) := by decide +kernel
theorem dX12_worstOf_89 : decode cX12_worstOf 89 = .ok (.iconst 0, 1) := by decide +kernel
theorem dX12_worstOf_90 : decode cX12_worstOf 90 = .ok (.istore 6, 2) := by decide +kernel
theorem dX12_worstOf_92 : decode cX12_worstOf 92 = .ok (.iload 6, 2) := by decide +kernel
theorem dX12_worstOf_94 : decode cX12_worstOf 94 = .ok (.iload_n 3, 1) := by decide +kernel
theorem dX12_worstOf_95 : decode cX12_worstOf 95 = .ok (.if_icmp .ge 36, 3) := by decide +kernel
theorem dX12_worstOf_98 : decode cX12_worstOf 98 = .ok (.aload_n 0, 1) := by decide +kernel
theorem dX12_worstOf_99 : decode cX12_worstOf 99 = .ok (.getfield 215, 3) := by decide +kernel
theorem dX12_worstOf_102 : decode cX12_worstOf 102 = .ok (.iload 6, 2) := by decide +kernel
theorem dX12_worstOf_104 : decode cX12_worstOf 104 = .ok (.iaload, 1) := by decide +kernel
theorem dX12_worstOf_105 : decode cX12_worstOf 105 = .ok (.invokestatic 428, 3) := by decide +kernel
theorem dX12_worstOf_108 : decode cX12_worstOf 108 = .ok (.iload 5, 2) := by decide +kernel
theorem dX12_worstOf_110 : decode cX12_worstOf 110 = .ok (.if_icmp .le 15, 3) := by decide +kernel
theorem dX12_worstOf_113 : decode cX12_worstOf 113 = .ok (.aload_n 0, 1) := by decide +kernel
theorem dX12_worstOf_114 : decode cX12_worstOf 114 = .ok (.getfield 215, 3) := by decide +kernel
theorem dX12_worstOf_117 : decode cX12_worstOf 117 = .ok (.iload 6, 2) := by decide +kernel
theorem dX12_worstOf_119 : decode cX12_worstOf 119 = .ok (.iaload, 1) := by decide +kernel
theorem dX12_worstOf_120 : decode cX12_worstOf 120 = .ok (.invokestatic 428, 3) := by decide +kernel
theorem dX12_worstOf_123 : decode cX12_worstOf 123 = .ok (.istore 5, 2) := by decide +kernel
theorem dX12_worstOf_125 : decode cX12_worstOf 125 = .ok (.iinc 6 1, 3) := by decide +kernel
theorem dX12_worstOf_128 : decode cX12_worstOf 128 = .ok (.goto (-36), 3) := by decide +kernel
theorem dX12_worstOf_131 : decode cX12_worstOf 131 = .ok (.iload 5, 2) := by decide +kernel
theorem dX12_worstOf_133 : decode cX12_worstOf 133 = .ok (.ireturn, 1) := by decide +kernel
abbrev rm_X12_worstOf : Room := { frames := 1, cells := 0, slots := 0, locals := 22 }
set_option maxRecDepth 100000 in
set_option maxHeartbeats 4000000 in
theorem ct_X12_worstOf {w : Wd} {l : Launch} {a1 : Int} {a2 : Int} {a3 : Int} {σ : St} {y : Int} {σ' : St} (ia1 : InI a1) (ia2 : InI a2) (ia3 : InI a3) (h : m_X12_worstOf a1 a2 a3 σ = some (y, σ')) : Ct w l yX12_worstOf (Cond.code yX12_worstOf cX12_worstOf 7 (some .int) :: TB) rm_X12_worstOf [rv w 170, iv a1, iv a2, iv a3] σ (some (iv y)) (InI y) σ' := by
  refine Ct.of2 [some (rv w 170), some (iv a1), some (iv a2), some (iv a3), none, none, none] 3 rfl pn_RX12 (Nat.le_of_ble_eq_true rfl) ?_
  intro p e s m args below meth c C hr hlk
  unfold m_X12_worstOf at h
  refine g_iconst C dX12_worstOf_0 ?_
  refine g_istore (L1 := [some (rv w 170), some (iv a1), some (iv a2), some (iv a3), some (iv 0), none, none]) C dX12_worstOf_1 rfl (Nat.le_of_ble_eq_true rfl) rfl ?_
  obtain ⟨b1, hb1, hF1⟩ := bnd h
  have hX1 : ∀ (σ6 : St) , σ6 = b1 → GM w p l e rm_X12_worstOf s m args below meth c (some (iv y)) (InI y) σ' 7 23 [some (rv w 170), some (iv a1), some (iv a2), some (iv a3), none, none, none] [] σ6 := by
    intro σ6 q
    subst q
    have h := hF1
    refine g_iload_n C dX12_worstOf_23 rfl ?_
    refine g_istore (L1 := [some (rv w 170), some (iv a1), some (iv a2), some (iv a3), some (iv a1), none, none]) C dX12_worstOf_24 rfl (Nat.le_of_ble_eq_true rfl) rfl ?_
    refine g_iload_n C dX12_worstOf_26 rfl ?_
    refine g_iconst C dX12_worstOf_27 ?_
    refine g_isub C dX12_worstOf_28 ?_
    obtain ⟨x7, qx7, h⟩ := bnd h
    have qx7 := Option.some.inj qx7
    have ix7 : InI x7 := by rw [← qx7]; exact (iwr _)
    refine g_E qx7 ?_
    refine g_istore (L1 := [some (rv w 170), some (iv a1), some (iv a2), some (iv a3), some (iv a1), some (iv x7), none]) C dX12_worstOf_29 rfl (Nat.le_of_ble_eq_true rfl) rfl ?_
    refine g_mask [true, false, false, true, true, true, true] ?_
    obtain ⟨b8, hb8, hF8⟩ := bnd h
    have hX8 : ∀ (σ21 : St) , σ21 = b8 → GM w p l e rm_X12_worstOf s m args below meth c (some (iv y)) (InI y) σ' 7 86 [some (rv w 170), none, none, some (iv a3), none, none, none] [] σ21 := by
      intro σ21 q
      subst q
      have h := hF8
      refine g_iconst C dX12_worstOf_86 ?_
      refine g_istore (L1 := [some (rv w 170), none, none, some (iv a3), none, some (iv 0), none]) C dX12_worstOf_87 rfl (Nat.le_of_ble_eq_true rfl) rfl ?_
      refine g_iconst C dX12_worstOf_89 ?_
      refine g_istore (L1 := [some (rv w 170), none, none, some (iv a3), none, some (iv 0), some (iv 0)]) C dX12_worstOf_90 rfl (Nat.le_of_ble_eq_true rfl) rfl ?_
      obtain ⟨b22, hb22, hF22⟩ := bnd h
      have hX22 : ∀ (x31 : Int) , InI x31 → x31 = b22 → GM w p l e rm_X12_worstOf s m args below meth c (some (iv y)) (InI y) σ' 7 131 [none, none, none, none, none, some (iv x31), none] [] σ21 := by
        intro x31 ix31 q
        subst q
        have h := hF22
        refine g_iload C dX12_worstOf_131 rfl ?_
        exact g_iretP C dX12_worstOf_133 hr hlk h ix31
      have hL22 : ∀ (n : Nat) (x23 : Int) (x24 : Int) , InI x23 → InI x24 → lpN (fun a => m_X12_worstOf_L92 a3 σ21 a.1 a.2) n (x23, x24) = some b22 → GM w p l e rm_X12_worstOf s m args below meth c (some (iv y)) (InI y) σ' 7 92 [some (rv w 170), none, none, some (iv a3), none, some (iv x23), some (iv x24)] [] σ21 := by
        intro n
        induction n with
        | zero => intro x23 x24 ix23 ix24 q; cases q
        | succ n ih22 =>
          intro x23 x24 ix23 ix24 q
          obtain ⟨o22, h, hk22⟩ := lp_step q
          replace h : m_X12_worstOf_L92 a3 σ21 x23 x24 = some o22 := h
          unfold m_X12_worstOf_L92 at h
          refine g_iload C dX12_worstOf_92 rfl ?_
          refine g_iload_n C dX12_worstOf_94 rfl ?_
          refine g_icmp_ge C dX12_worstOf_95 ix24 ia3 rfl (tgt := 131) (fun c25 => ?_) (fun c25 => ?_)
          · have h := ifT c25 h
            refine g_mask [false, true, true, false, true, true, false] ?_
            obtain rfl := Option.some.inj h
            exact hX22 x23 ix23 (lpR hk22).symm
          · have h := ifF c25 h
            refine g_aload_n C dX12_worstOf_98 rfl ?_
            refine g_getR (j := 88) C dX12_worstOf_99 rfl (Nat.le_of_ble_eq_true rfl) (Nat.le_of_ble_eq_true rfl) fl_12_215 rfl rfl (r := 233) rfl ?_
            refine g_iload C dX12_worstOf_102 rfl ?_
            obtain ⟨x26, qx26, h⟩ := bnd h
            refine g_iald C dX12_worstOf_104 rfl rfl qx26 ix24 (fun ix26 => ?_)
            obtain ⟨x27, qx27, h⟩ := bnd h
            refine g_callS1 (As := [iv x26]) C dX12_worstOf_105 mi_X12_bits ml_12_428 (ct_X12_bits ix26 qx27) rfl ⟨rfl, rfl⟩ ⟨Nat.le_of_ble_eq_true rfl, Nat.le_of_ble_eq_true rfl⟩ ⟨Nat.zero_le _, Nat.zero_le _⟩ rfl (Nat.le_of_ble_eq_true rfl) (fun ix27 => ?_)
            refine g_iload C dX12_worstOf_108 rfl ?_
            refine g_icmp_le C dX12_worstOf_110 ix27 ix23 rfl (tgt := 125) (fun c28 => ?_) (fun c28 => ?_)
            · have h := ifT c28 h
              refine g_iinc (L1 := [some (rv w 170), none, none, some (iv a3), none, some (iv x23), some (iv (wr (x24 + 1)))]) C dX12_worstOf_125 rfl rfl (Nat.le_of_ble_eq_true rfl) rfl ?_
              refine g_goto C dX12_worstOf_128 rfl (tgt := 92) ?_
              obtain rfl := Option.some.inj h
              exact ih22 _ _ ix23 (iwr _) (lpL hk22)
            · have h := ifF c28 h
              refine g_aload_n C dX12_worstOf_113 rfl ?_
              refine g_getR (j := 88) C dX12_worstOf_114 rfl (Nat.le_of_ble_eq_true rfl) (Nat.le_of_ble_eq_true rfl) fl_12_215 rfl rfl (r := 233) rfl ?_
              refine g_iload C dX12_worstOf_117 rfl ?_
              obtain ⟨x29, qx29, h⟩ := bnd h
              refine g_iald C dX12_worstOf_119 rfl rfl qx29 ix24 (fun ix29 => ?_)
              obtain ⟨x30, qx30, h⟩ := bnd h
              refine g_callS1 (As := [iv x29]) C dX12_worstOf_120 mi_X12_bits ml_12_428 (ct_X12_bits ix29 qx30) rfl ⟨rfl, rfl⟩ ⟨Nat.le_of_ble_eq_true rfl, Nat.le_of_ble_eq_true rfl⟩ ⟨Nat.zero_le _, Nat.zero_le _⟩ rfl (Nat.le_of_ble_eq_true rfl) (fun ix30 => ?_)
              refine g_istore (L1 := [some (rv w 170), none, none, some (iv a3), none, some (iv x30), some (iv x24)]) C dX12_worstOf_123 rfl (Nat.le_of_ble_eq_true rfl) rfl ?_
              refine g_iinc (L1 := [some (rv w 170), none, none, some (iv a3), none, some (iv x30), some (iv (wr (x24 + 1)))]) C dX12_worstOf_125 rfl rfl (Nat.le_of_ble_eq_true rfl) rfl ?_
              refine g_goto C dX12_worstOf_128 rfl (tgt := 92) ?_
              obtain rfl := Option.some.inj h
              exact ih22 _ _ ix30 (iwr _) (lpL hk22)
      exact hL22 FU _ _ (by decide) (by decide) hb22
    have hL8 : ∀ (n : Nat) (x9 : Int) (x10 : Int) (σ11 : St) , InI x9 → InI x10 → lpN (fun a => m_X12_worstOf_L31 a3 a.1 a.2.1 a.2.2) n (x9, x10, σ11) = some b8 → GM w p l e rm_X12_worstOf s m args below meth c (some (iv y)) (InI y) σ' 7 31 [some (rv w 170), none, none, some (iv a3), some (iv x9), some (iv x10), none] [] σ11 := by
      intro n
      induction n with
      | zero => intro x9 x10 σ11 ix9 ix10 q; cases q
      | succ n ih8 =>
        intro x9 x10 σ11 ix9 ix10 q
        obtain ⟨o8, h, hk8⟩ := lp_step q
        replace h : m_X12_worstOf_L31 a3 x9 x10 σ11 = some o8 := h
        unfold m_X12_worstOf_L31 at h
        refine g_iload C dX12_worstOf_31 rfl ?_
        refine g_if_lt C dX12_worstOf_33 ix10 rfl (tgt := 86) (fun c12 => ?_) (fun c12 => ?_)
        · have h := ifT c12 h
          refine g_mask [true, true, true, true, false, false, true] ?_
          obtain rfl := Option.some.inj h
          exact hX8 σ11 (lpR hk8).symm
        · have h := ifF c12 h
          refine g_aload_n C dX12_worstOf_36 rfl ?_
          refine g_getR (j := 87) C dX12_worstOf_37 rfl (Nat.le_of_ble_eq_true rfl) (Nat.le_of_ble_eq_true rfl) fl_12_212 rfl rfl (r := 232) rfl ?_
          refine g_iload C dX12_worstOf_40 rfl ?_
          refine g_iload C dX12_worstOf_42 rfl ?_
          refine g_iload_n C dX12_worstOf_44 rfl ?_
          obtain ⟨x13, qx13, h⟩ := bnd h
          refine g_irem C dX12_worstOf_45 ia3 qx13 (fun ix13 => ?_)
          obtain ⟨σ14, qσ14, h⟩ := bnd h
          refine g_iast C dX12_worstOf_46 rfl rfl qσ14 ix10 ix13 ?_
          refine g_iload C dX12_worstOf_47 rfl ?_
          refine g_iload_n C dX12_worstOf_49 rfl ?_
          obtain ⟨x15, qx15, h⟩ := bnd h
          refine g_idiv C dX12_worstOf_50 ia3 qx15 (fun ix15 => ?_)
          refine g_istore (L1 := [some (rv w 170), none, none, some (iv a3), some (iv x15), some (iv x10), none]) C dX12_worstOf_51 rfl (Nat.le_of_ble_eq_true rfl) rfl ?_
          refine g_aload_n C dX12_worstOf_53 rfl ?_
          refine g_getR (j := 88) C dX12_worstOf_54 rfl (Nat.le_of_ble_eq_true rfl) (Nat.le_of_ble_eq_true rfl) fl_12_215 rfl rfl (r := 233) rfl ?_
          refine g_aload_n C dX12_worstOf_57 rfl ?_
          refine g_getR (j := 87) C dX12_worstOf_58 rfl (Nat.le_of_ble_eq_true rfl) (Nat.le_of_ble_eq_true rfl) fl_12_212 rfl rfl (r := 232) rfl ?_
          refine g_iload C dX12_worstOf_61 rfl ?_
          obtain ⟨x16, qx16, h⟩ := bnd h
          refine g_iald C dX12_worstOf_63 rfl rfl qx16 ix10 (fun ix16 => ?_)
          refine g_dup2 C dX12_worstOf_64 rfl rfl ?_
          obtain ⟨x17, qx17, h⟩ := bnd h
          refine g_iald C dX12_worstOf_65 rfl rfl qx17 ix16 (fun ix17 => ?_)
          refine g_aload_n C dX12_worstOf_66 rfl ?_
          refine g_getR (j := 85) C dX12_worstOf_67 rfl (Nat.le_of_ble_eq_true rfl) (Nat.le_of_ble_eq_true rfl) fl_12_206 rfl rfl (r := 230) rfl ?_
          refine g_aload_n C dX12_worstOf_70 rfl ?_
          refine g_getR (j := 86) C dX12_worstOf_71 rfl (Nat.le_of_ble_eq_true rfl) (Nat.le_of_ble_eq_true rfl) fl_12_209 rfl rfl (r := 231) rfl ?_
          refine g_iload C dX12_worstOf_74 rfl ?_
          obtain ⟨x18, qx18, h⟩ := bnd h
          refine g_iald C dX12_worstOf_76 rfl rfl qx18 ix10 (fun ix18 => ?_)
          obtain ⟨x19, qx19, h⟩ := bnd h
          refine g_iald C dX12_worstOf_77 rfl rfl qx19 ix18 (fun ix19 => ?_)
          refine g_ior C dX12_worstOf_78 ?_
          obtain ⟨σ20, qσ20, h⟩ := bnd h
          refine g_iast C dX12_worstOf_79 rfl rfl qσ20 ix16 (ior _ _) ?_
          refine g_iinc (L1 := [some (rv w 170), none, none, some (iv a3), some (iv x15), some (iv (wr (x10 + (-1)))), none]) C dX12_worstOf_80 rfl rfl (Nat.le_of_ble_eq_true rfl) rfl ?_
          refine g_goto C dX12_worstOf_83 rfl (tgt := 31) ?_
          obtain rfl := Option.some.inj h
          exact ih8 _ _ _ ix15 (iwr _) (lpL hk8)
    exact hL8 FU _ _ _ ia1 ix7 hb8
  have hL1 : ∀ (n : Nat) (x2 : Int) (σ3 : St) , InI x2 → lpN (fun a => m_X12_worstOf_L3 a.1 a.2) n (x2, σ3) = some b1 → GM w p l e rm_X12_worstOf s m args below meth c (some (iv y)) (InI y) σ' 7 3 [some (rv w 170), some (iv a1), some (iv a2), some (iv a3), some (iv x2), none, none] [] σ3 := by
    intro n
    induction n with
    | zero => intro x2 σ3 ix2 q; cases q
    | succ n ih1 =>
      intro x2 σ3 ix2 q
      obtain ⟨o1, h, hk1⟩ := lp_step q
      replace h : m_X12_worstOf_L3 x2 σ3 = some o1 := h
      unfold m_X12_worstOf_L3 at h
      refine g_iload C dX12_worstOf_3 rfl ?_
      refine g_iconst C dX12_worstOf_5 ?_
      refine g_icmp_ge C dX12_worstOf_6 ix2 (by decide) rfl (tgt := 23) (fun c4 => ?_) (fun c4 => ?_)
      · have h := ifT c4 h
        refine g_mask [true, true, true, true, false, true, true] ?_
        obtain rfl := Option.some.inj h
        exact hX1 σ3 (lpR hk1).symm
      · have h := ifF c4 h
        refine g_aload_n C dX12_worstOf_9 rfl ?_
        refine g_getR (j := 88) C dX12_worstOf_10 rfl (Nat.le_of_ble_eq_true rfl) (Nat.le_of_ble_eq_true rfl) fl_12_215 rfl rfl (r := 233) rfl ?_
        refine g_iload C dX12_worstOf_13 rfl ?_
        refine g_iconst C dX12_worstOf_15 ?_
        obtain ⟨σ5, qσ5, h⟩ := bnd h
        refine g_iast C dX12_worstOf_16 rfl rfl qσ5 ix2 (by decide) ?_
        refine g_iinc (L1 := [some (rv w 170), some (iv a1), some (iv a2), some (iv a3), some (iv (wr (x2 + 1))), none, none]) C dX12_worstOf_17 rfl rfl (Nat.le_of_ble_eq_true rfl) rfl ?_
        refine g_goto C dX12_worstOf_20 rfl (tgt := 3) ?_
        obtain rfl := Option.some.inj h
        exact ih1 _ _ (iwr _) (lpL hk1)
  exact hL1 FU _ _ (by decide) hb1
theorem dX12_fed_0 : decode cX12_fed 0 = .ok (.aload_n 0, 1) := by decide +kernel
theorem dX12_fed_1 : decode cX12_fed 1 = .ok (.iconst 0, 1) := by decide +kernel
theorem dX12_fed_2 : decode cX12_fed 2 = .ok (.putfield 1, 3) := by decide +kernel
theorem dX12_fed_5 : decode cX12_fed 5 = .ok (.iload_n 1, 1) := by decide +kernel
theorem dX12_fed_6 : decode cX12_fed 6 = .ok (.iconst 1, 1) := by decide +kernel
theorem dX12_fed_7 : decode cX12_fed 7 = .ok (.if_icmp .lt 51, 3) := by decide +kernel
theorem dX12_fed_10 : decode cX12_fed 10 = .ok (.aload_n 0, 1) := by decide +kernel
theorem dX12_fed_11 : decode cX12_fed 11 = .ok (.iload_n 1, 1) := by decide +kernel
theorem dX12_fed_12 : decode cX12_fed 12 = .ok (.invokevirtual 453, 3) := by decide +kernel
theorem dX12_fed_15 : decode cX12_fed 15 = .ok (.ifCond .eq 43, 3) := by decide +kernel
theorem dX12_fed_18 : decode cX12_fed 18 = .ok (.iload_n 2, 1) := by decide +kernel
theorem dX12_fed_19 : decode cX12_fed 19 = .ok (.iconst 1, 1) := by decide +kernel
theorem dX12_fed_20 : decode cX12_fed 20 = .ok (.if_icmp .lt 38, 3) := by decide +kernel
theorem dX12_fed_23 : decode cX12_fed 23 = .ok (.iload_n 2, 1) := by decide +kernel
theorem dX12_fed_24 : decode cX12_fed 24 = .ok (.iconst 3, 1) := by decide +kernel
theorem dX12_fed_25 : decode cX12_fed 25 = .ok (.if_icmp .gt 33, 3) := by decide +kernel
theorem dX12_fed_28 : decode cX12_fed 28 = .ok (.iload_n 3, 1) := by decide +kernel
theorem dX12_fed_29 : decode cX12_fed 29 = .ok (.invokestatic 359, 3) := by decide +kernel
theorem dX12_fed_32 : decode cX12_fed 32 = .ok (.ifCond .eq 26, 3) := by decide +kernel
theorem dX12_fed_35 : decode cX12_fed 35 = .ok (.iload 4, 2) := by decide +kernel
theorem dX12_fed_37 : decode cX12_fed 37 = .ok (.invokestatic 359, 3) := by decide +kernel
theorem dX12_fed_40 : decode cX12_fed 40 = .ok (.ifCond .eq 18, 3) := by decide +kernel
theorem dX12_fed_43 : decode cX12_fed 43 = .ok (.iload 4, 2) := by decide +kernel
theorem dX12_fed_45 : decode cX12_fed 45 = .ok (.iload_n 3, 1) := by decide +kernel
theorem dX12_fed_46 : decode cX12_fed 46 = .ok (.if_icmp .lt 12, 3) := by decide +kernel
theorem dX12_fed_49 : decode cX12_fed 49 = .ok (.aload_n 0, 1) := by decide +kernel
theorem dX12_fed_50 : decode cX12_fed 50 = .ok (.iload 6, 2) := by decide +kernel
theorem dX12_fed_52 : decode cX12_fed 52 = .ok (.invokevirtual 362, 3) := by decide +kernel
theorem dX12_fed_55 : decode cX12_fed 55 = .ok (.ifCond .ne 5, 3) := by decide +kernel
theorem dX12_fed_58 : decode cX12_fed 58 = .ok (.iconst (-1), 1) := by decide +kernel
theorem dX12_fed_59 : decode cX12_fed 59 = .ok (.ireturn, 1) := by decide +kernel
theorem dX12_fed_60 : decode cX12_fed 60 = .ok (.aload_n 0, 1) := by decide +kernel
theorem dX12_fed_61 : decode cX12_fed 61 = .ok (.iload 6, 2) := by decide +kernel
theorem dX12_fed_63 : decode cX12_fed 63 = .ok (.invokevirtual 443, 3) := by decide +kernel
theorem dX12_fed_66 : decode cX12_fed 66 = .ok (.iconst 0, 1) := by decide +kernel
theorem dX12_fed_67 : decode cX12_fed 67 = .ok (.istore 7, 2) := by decide +kernel
theorem dX12_fed_69 : decode cX12_fed 69 = .ok (.iconst 0, 1) := by decide +kernel
theorem dX12_fed_70 : decode cX12_fed 70 = .ok (.istore 8, 2) := by decide +kernel
theorem dX12_fed_72 : decode cX12_fed 72 = .ok (.iload 8, 2) := by decide +kernel
theorem dX12_fed_74 : decode cX12_fed 74 = .ok (.aload_n 0, 1) := by decide +kernel
theorem dX12_fed_75 : decode cX12_fed 75 = .ok (.getfield 333, 3) := by decide +kernel
theorem dX12_fed_78 : decode cX12_fed 78 = .ok (.if_icmp .ge 60, 3) := by decide +kernel
theorem dX12_fed_81 : decode cX12_fed 81 = .ok (.iload_n 1, 1) := by decide +kernel
theorem dX12_fed_82 : decode cX12_fed 82 = .ok (.iload 8, 2) := by decide +kernel
theorem dX12_fed_84 : decode cX12_fed 84 = .ok (.ishr, 1) := by decide +kernel
theorem dX12_fed_85 : decode cX12_fed 85 = .ok (.iconst 1, 1) := by decide +kernel
theorem dX12_fed_86 : decode cX12_fed 86 = .ok (.iand, 1) := by decide +kernel
theorem dX12_fed_87 : decode cX12_fed 87 = .ok (.ifCond .ne 6, 3) := by decide +kernel
theorem dX12_fed_90 : decode cX12_fed 90 = .ok (.goto 42, 3) := by decide +kernel
theorem dX12_fed_93 : decode cX12_fed 93 = .ok (.aload_n 0, 1) := by decide +kernel
theorem dX12_fed_94 : decode cX12_fed 94 = .ok (.iconst 1, 1) := by decide +kernel
theorem dX12_fed_95 : decode cX12_fed 95 = .ok (.iload 8, 2) := by decide +kernel
theorem dX12_fed_97 : decode cX12_fed 97 = .ok (.ishl, 1) := by decide +kernel
theorem dX12_fed_98 : decode cX12_fed 98 = .ok (.iload_n 3, 1) := by decide +kernel
theorem dX12_fed_99 : decode cX12_fed 99 = .ok (.iload 5, 2) := by decide +kernel
theorem dX12_fed_101 : decode cX12_fed 101 = .ok (.invokevirtual 456, 3) := by decide +kernel
theorem dX12_fed_104 : decode cX12_fed 104 = .ok (.aload_n 0, 1) := by decide +kernel
theorem dX12_fed_105 : decode cX12_fed 105 = .ok (.getfield 206, 3) := by decide +kernel
theorem dX12_fed_108 : decode cX12_fed 108 = .ok (.iload 8, 2) := by decide +kernel
theorem dX12_fed_110 : decode cX12_fed 110 = .ok (.aload_n 0, 1) := by decide +kernel
theorem dX12_fed_111 : decode cX12_fed 111 = .ok (.iload_n 3, 1) := by decide +kernel
theorem dX12_fed_112 : decode cX12_fed 112 = .ok (.iload 4, 2) := by decide +kernel
theorem dX12_fed_114 : decode cX12_fed 114 = .ok (.invokevirtual 460, 3) := by decide +kernel
theorem dX12_fed_117 : decode cX12_fed 117 = .ok (.iload_n 1, 1) := by decide +kernel
theorem dX12_fed_118 : decode cX12_fed 118 = .ok (.iand, 1) := by decide +kernel
theorem dX12_fed_119 : decode cX12_fed 119 = .ok (.iastore, 1) := by decide +kernel
theorem dX12_fed_120 : decode cX12_fed 120 = .ok (.aload_n 0, 1) := by decide +kernel
theorem dX12_fed_121 : decode cX12_fed 121 = .ok (.getfield 209, 3) := by decide +kernel
theorem dX12_fed_124 : decode cX12_fed 124 = .ok (.iload 7, 2) := by decide +kernel
theorem dX12_fed_126 : decode cX12_fed 126 = .ok (.iload 8, 2) := by decide +kernel
theorem dX12_fed_128 : decode cX12_fed 128 = .ok (.iastore, 1) := by decide +kernel
theorem dX12_fed_129 : decode cX12_fed 129 = .ok (.iinc 7 1, 3) := by decide +kernel
theorem dX12_fed_132 : decode cX12_fed 132 = .ok (.iinc 8 1, 3) := by decide +kernel
theorem dX12_fed_135 : decode cX12_fed 135 = .ok (.goto (-63), 3) := by decide +kernel
theorem dX12_fed_138 : decode cX12_fed 138 = .ok (.iconst 1, 1) := by decide +kernel
theorem dX12_fed_139 : decode cX12_fed 139 = .ok (.istore 8, 2) := by decide +kernel
theorem dX12_fed_141 : decode cX12_fed 141 = .ok (.iconst 0, 1) := by decide +kernel
theorem dX12_fed_142 : decode cX12_fed 142 = .ok (.istore 9, 2) := by decide +kernel
theorem dX12_fed_144 : decode cX12_fed 144 = .ok (.iload 9, 2) := by decide +kernel
theorem dX12_fed_146 : decode cX12_fed 146 = .ok (.iload 7, 2) := by decide +kernel
theorem dX12_fed_148 : decode cX12_fed 148 = .ok (.if_icmp .ge 15, 3) := by decide +kernel
theorem dX12_fed_151 : decode cX12_fed 151 = .ok (.iload 8, 2) := by decide +kernel
theorem dX12_fed_153 : decode cX12_fed 153 = .ok (.iload_n 2, 1) := by decide +kernel
theorem dX12_fed_154 : decode cX12_fed 154 = .ok (.imul, 1) := by decide +kernel
theorem dX12_fed_155 : decode cX12_fed 155 = .ok (.istore 8, 2) := by decide +kernel
theorem dX12_fed_157 : decode cX12_fed 157 = .ok (.iinc 9 1, 3) := by decide +kernel
theorem dX12_fed_160 : decode cX12_fed 160 = .ok (.goto (-16), 3) := by decide +kernel
theorem dX12_fed_163 : decode cX12_fed 163 = .ok (.iconst (-1), 1) := by decide +kernel
theorem dX12_fed_164 : decode cX12_fed 164 = .ok (.istore 9, 2) := by decide +kernel
theorem dX12_fed_166 : decode cX12_fed 166 = .ok (.iconst 0, 1) := by decide +kernel
theorem dX12_fed_167 : decode cX12_fed 167 = .ok (.istore 10, 2) := by decide +kernel
theorem dX12_fed_169 : decode cX12_fed 169 = .ok (.iconst 0, 1) := by decide +kernel
theorem dX12_fed_170 : decode cX12_fed 170 = .ok (.istore 11, 2) := by decide +kernel
theorem dX12_fed_172 : decode cX12_fed 172 = .ok (.iload 11, 2) := by decide +kernel
theorem dX12_fed_174 : decode cX12_fed 174 = .ok (.iload 8, 2) := by decide +kernel
theorem dX12_fed_176 : decode cX12_fed 176 = .ok (.if_icmp .ge 44, 3) := by decide +kernel
theorem dX12_fed_179 : decode cX12_fed 179 = .ok (.aload_n 0, 1) := by decide +kernel
theorem dX12_fed_180 : decode cX12_fed 180 = .ok (.iload 11, 2) := by decide +kernel
theorem dX12_fed_182 : decode cX12_fed 182 = .ok (.iload 7, 2) := by decide +kernel
theorem dX12_fed_184 : decode cX12_fed 184 = .ok (.iload_n 2, 1) := by decide +kernel
theorem dX12_fed_185 : decode cX12_fed 185 = .ok (.invokevirtual 463, 3) := by decide +kernel
theorem dX12_fed_188 : decode cX12_fed 188 = .ok (.istore 12, 2) := by decide +kernel
theorem dX12_fed_190 : decode cX12_fed 190 = .ok (.iload 9, 2) := by decide +kernel
theorem dX12_fed_192 : decode cX12_fed 192 = .ok (.iconst (-1), 1) := by decide +kernel
theorem dX12_fed_193 : decode cX12_fed 193 = .ok (.if_icmp .eq 13, 3) := by decide +kernel
theorem dX12_fed_196 : decode cX12_fed 196 = .ok (.iload 12, 2) := by decide +kernel
theorem dX12_fed_198 : decode cX12_fed 198 = .ok (.iload 9, 2) := by decide +kernel
theorem dX12_fed_200 : decode cX12_fed 200 = .ok (.if_icmp .lt 6, 3) := by decide +kernel
theorem dX12_fed_203 : decode cX12_fed 203 = .ok (.goto 11, 3) := by decide +kernel
theorem dX12_fed_206 : decode cX12_fed 206 = .ok (.iload 12, 2) := by decide +kernel
theorem dX12_fed_208 : decode cX12_fed 208 = .ok (.istore 9, 2) := by decide +kernel
theorem dX12_fed_210 : decode cX12_fed 210 = .ok (.iload 11, 2) := by decide +kernel
theorem dX12_fed_212 : decode cX12_fed 212 = .ok (.istore 10, 2) := by decide +kernel
theorem dX12_fed_214 : decode cX12_fed 214 = .ok (.iinc 11 1, 3) := by decide +kernel
theorem dX12_fed_217 : decode cX12_fed 217 = .ok (.goto (-45), 3) := by decide +kernel
theorem dX12_fed_220 : decode cX12_fed 220 = .ok (.aload_n 0, 1) := by decide +kernel
theorem dX12_fed_221 : decode cX12_fed 221 = .ok (.iload_n 2, 1) := by decide +kernel
theorem dX12_fed_222 : decode cX12_fed 222 = .ok (.putfield 197, 3) := by decide +kernel
theorem dX12_fed_225 : decode cX12_fed 225 = .ok (.aload_n 0, 1) := by decide +kernel
theorem dX12_fed_226 : decode cX12_fed 226 = .ok (.iload 10, 2) := by decide +kernel
theorem dX12_fed_228 : decode cX12_fed 228 = .ok (.iload 7, 2) := by decide +kernel
theorem dX12_fed_230 : decode cX12_fed 230 = .ok (.iload_n 2, 1) := by decide +kernel
theorem dX12_fed_231 : decode cX12_fed 231 = .ok (.invokevirtual 463, 3) := by decide +kernel
theorem dX12_fed_234 : decode cX12_fed 234 = .ok (.istore 9, 2) := by decide +kernel
theorem dX12_fed_236 : decode cX12_fed 236 = .ok (.iconst 0, 1) := by decide +kernel
theorem dX12_fed_237 : decode cX12_fed 237 = .ok (.istore 11, 2) := by decide +kernel
theorem dX12_fed_239 : decode cX12_fed 239 = .ok (.iload 11, 2) := by decide +kernel
theorem dX12_fed_241 : decode cX12_fed 241 = .ok (.bipush 8, 2) := by decide +kernel
theorem dX12_fed_243 : decode cX12_fed 243 = .ok (.if_icmp .ge 17, 3) := by decide +kernel
theorem dX12_fed_246 : decode cX12_fed 246 = .ok (.aload_n 0, 1) := by decide +kernel
theorem dX12_fed_247 : decode cX12_fed 247 = .ok (.getfield 200, 3) := by decide +kernel
theorem dX12_fed_250 : decode cX12_fed 250 = .ok (.iload 11, 2) := by decide +kernel
theorem dX12_fed_252 : decode cX12_fed 252 = .ok (.iconst (-1), 1) := by decide +kernel
theorem dX12_fed_253 : decode cX12_fed 253 = .ok (.iastore, 1) := by decide +kernel
theorem dX12_fed_254 : decode cX12_fed 254 = .ok (.iinc 11 1, 3) := by decide +kernel
theorem dX12_fed_257 : decode cX12_fed 257 = .ok (.goto (-18), 3) := by decide +kernel
theorem dX12_fed_260 : decode cX12_fed 260 = .ok (.iconst 0, 1) := by decide +kernel
theorem dX12_fed_261 : decode cX12_fed 261 = .ok (.istore 11, 2) := by decide +kernel
theorem dX12_fed_263 : decode cX12_fed 263 = .ok (.iload 11, 2) := by decide +kernel
theorem dX12_fed_265 : decode cX12_fed 265 = .ok (.iload 7, 2) := by decide +kernel
theorem dX12_fed_267 : decode cX12_fed 267 = .ok (.if_icmp .ge 28, 3) := by decide +kernel
theorem dX12_fed_270 : decode cX12_fed 270 = .ok (.aload_n 0, 1) := by decide +kernel
theorem dX12_fed_271 : decode cX12_fed 271 = .ok (.getfield 200, 3) := by decide +kernel
theorem dX12_fed_274 : decode cX12_fed 274 = .ok (.aload_n 0, 1) := by decide +kernel
theorem dX12_fed_275 : decode cX12_fed 275 = .ok (.getfield 209, 3) := by decide +kernel
theorem dX12_fed_278 : decode cX12_fed 278 = .ok (.iload 11, 2) := by decide +kernel
theorem dX12_fed_280 : decode cX12_fed 280 = .ok (.iaload, 1) := by decide +kernel
theorem dX12_fed_281 : decode cX12_fed 281 = .ok (.aload_n 0, 1) := by decide +kernel
theorem dX12_fed_282 : decode cX12_fed 282 = .ok (.getfield 212, 3) := by decide +kernel
theorem dX12_fed_285 : decode cX12_fed 285 = .ok (.iload 11, 2) := by decide +kernel
theorem dX12_fed_287 : decode cX12_fed 287 = .ok (.iaload, 1) := by decide +kernel
theorem dX12_fed_288 : decode cX12_fed 288 = .ok (.iastore, 1) := by decide +kernel
theorem dX12_fed_289 : decode cX12_fed 289 = .ok (.iinc 11 1, 3) := by decide +kernel
theorem dX12_fed_292 : decode cX12_fed 292 = .ok (.goto (-29), 3) := by decide +kernel
theorem dX12_fed_295 : decode cX12_fed 295 = .ok (.iconst 0, 1) := by decide +kernel
theorem dX12_fed_296 : decode cX12_fed 296 = .ok (.istore 11, 2) := by decide +kernel
theorem dX12_fed_298 : decode cX12_fed 298 = .ok (.iload 11, 2) := by decide +kernel
theorem dX12_fed_300 : decode cX12_fed 300 = .ok (.iconst 3, 1) := by decide +kernel
theorem dX12_fed_301 : decode cX12_fed 301 = .ok (.if_icmp .ge 26, 3) := by decide +kernel
theorem dX12_fed_304 : decode cX12_fed 304 = .ok (.aload_n 0, 1) := by decide +kernel
theorem dX12_fed_305 : decode cX12_fed 305 = .ok (.getfield 203, 3) := by decide +kernel
theorem dX12_fed_308 : decode cX12_fed 308 = .ok (.iload 11, 2) := by decide +kernel
theorem dX12_fed_310 : decode cX12_fed 310 = .ok (.aload_n 0, 1) := by decide +kernel
theorem dX12_fed_311 : decode cX12_fed 311 = .ok (.getfield 215, 3) := by decide +kernel
theorem dX12_fed_314 : decode cX12_fed 314 = .ok (.iload 11, 2) := by decide +kernel
theorem dX12_fed_316 : decode cX12_fed 316 = .ok (.iaload, 1) := by decide +kernel
theorem dX12_fed_317 : decode cX12_fed 317 = .ok (.invokestatic 428, 3) := by decide +kernel
theorem dX12_fed_320 : decode cX12_fed 320 = .ok (.iastore, 1) := by decide +kernel
theorem dX12_fed_321 : decode cX12_fed 321 = .ok (.iinc 11 1, 3) := by decide +kernel
theorem dX12_fed_324 : decode cX12_fed 324 = .ok (.goto (-26), 3) := by decide +kernel
theorem dX12_fed_327 : decode cX12_fed 327 = .ok (.iload 9, 2) := by decide +kernel
theorem dX12_fed_329 : decode cX12_fed 329 = .ok (.ireturn, 1) := by decide +kernel
abbrev rm_X12_fed : Room := { frames := 3, cells := 0, slots := 0, locals := 79 }
set_option maxRecDepth 100000 in
set_option maxHeartbeats 4000000 in
theorem ct_X12_fed {w : Wd} {l : Launch} {a1 : Int} {a2 : Int} {a3 : Int} {a4 : Int} {a5 : Int} {a6 : Int} {σ : St} {y : Int} {σ' : St} (ia1 : InI a1) (ia2 : InI a2) (ia3 : InI a3) (ia4 : InI a4) (ia5 : InZ a5) (ia6 : InI a6) (h : m_X12_fed a1 a2 a3 a4 a5 a6 σ = some (y, σ')) : Ct w l yX12_fed (Cond.code yX12_fed cX12_fed 13 (some .int) :: TB) rm_X12_fed [rv w 170, iv a1, iv a2, iv a3, iv a4, iv a5, iv a6] σ (some (iv y)) (InI y) σ' := by
  refine Ct.of2 [some (rv w 170), some (iv a1), some (iv a2), some (iv a3), some (iv a4), some (iv a5), some (iv a6), none, none, none, none, none, none] 6 rfl pn_RX12 (Nat.le_of_ble_eq_true rfl) ?_
  intro p e s m args below meth c C hr hlk
  unfold m_X12_fed at h
  refine g_aload_n C dX12_fed_0 rfl ?_
  refine g_iconst C dX12_fed_1 ?_
  obtain ⟨σ1, qσ1, h⟩ := bnd h
  refine g_putI (j := 0) C dX12_fed_2 rfl (Nat.le_of_ble_eq_true rfl) (Nat.le_of_ble_eq_true rfl) fl_12_1 rfl rfl rfl rfl qσ1 (by decide) ?_
  refine g_iload_n C dX12_fed_5 rfl ?_
  refine g_iconst C dX12_fed_6 ?_
  refine g_icmp_lt C dX12_fed_7 ia1 (by decide) rfl (tgt := 58) (fun c2 => ?_) (fun c2 => ?_)
  · have h := ifT c2 h
    refine g_iconst C dX12_fed_58 ?_
    exact g_iretP C dX12_fed_59 hr hlk h (by decide)
  · have h := ifF c2 h
    refine g_aload_n C dX12_fed_10 rfl ?_
    refine g_iload_n C dX12_fed_11 rfl ?_
    obtain ⟨x3, qx3, h⟩ := bnd h
    refine g_callV1 (As := [iv a1]) C dX12_fed_12 mi_X12_isSet ml_12_453 (ct_X12_isSet ia1 qx3) rfl rfl ⟨rfl, rfl⟩ ⟨Nat.le_of_ble_eq_true rfl, Nat.le_of_ble_eq_true rfl⟩ ⟨Nat.zero_le _, Nat.zero_le _⟩ rfl (Nat.le_of_ble_eq_true rfl) (fun ix3 => ?_)
    refine g_if_eq C dX12_fed_15 (zI ix3) rfl (tgt := 58) (fun c4 => ?_) (fun c4 => ?_)
    · have h := ifT c4 h
      refine g_iconst C dX12_fed_58 ?_
      exact g_iretP C dX12_fed_59 hr hlk h (by decide)
    · have h := ifF c4 h
      refine g_iload_n C dX12_fed_18 rfl ?_
      refine g_iconst C dX12_fed_19 ?_
      refine g_icmp_lt C dX12_fed_20 ia2 (by decide) rfl (tgt := 58) (fun c5 => ?_) (fun c5 => ?_)
      · have h := ifT c5 h
        refine g_iconst C dX12_fed_58 ?_
        exact g_iretP C dX12_fed_59 hr hlk h (by decide)
      · have h := ifF c5 h
        refine g_iload_n C dX12_fed_23 rfl ?_
        refine g_iconst C dX12_fed_24 ?_
        refine g_icmp_gt C dX12_fed_25 ia2 (by decide) rfl (tgt := 58) (fun c6 => ?_) (fun c6 => ?_)
        · have h := ifT c6 h
          refine g_iconst C dX12_fed_58 ?_
          exact g_iretP C dX12_fed_59 hr hlk h (by decide)
        · have h := ifF c6 h
          refine g_iload_n C dX12_fed_28 rfl ?_
          obtain ⟨x7, qx7, h⟩ := bnd h
          refine g_callS1 (As := [iv a3]) C dX12_fed_29 mi_X12_isTick ml_12_359 (ct_X12_isTick ia3 qx7) rfl ⟨rfl, rfl⟩ ⟨Nat.le_of_ble_eq_true rfl, Nat.le_of_ble_eq_true rfl⟩ ⟨Nat.zero_le _, Nat.zero_le _⟩ rfl (Nat.le_of_ble_eq_true rfl) (fun ix7 => ?_)
          refine g_if_eq C dX12_fed_32 (zI ix7) rfl (tgt := 58) (fun c8 => ?_) (fun c8 => ?_)
          · have h := ifT c8 h
            refine g_iconst C dX12_fed_58 ?_
            exact g_iretP C dX12_fed_59 hr hlk h (by decide)
          · have h := ifF c8 h
            refine g_iload C dX12_fed_35 rfl ?_
            obtain ⟨x9, qx9, h⟩ := bnd h
            refine g_callS1 (As := [iv a4]) C dX12_fed_37 mi_X12_isTick ml_12_359 (ct_X12_isTick ia4 qx9) rfl ⟨rfl, rfl⟩ ⟨Nat.le_of_ble_eq_true rfl, Nat.le_of_ble_eq_true rfl⟩ ⟨Nat.zero_le _, Nat.zero_le _⟩ rfl (Nat.le_of_ble_eq_true rfl) (fun ix9 => ?_)
            refine g_if_eq C dX12_fed_40 (zI ix9) rfl (tgt := 58) (fun c10 => ?_) (fun c10 => ?_)
            · have h := ifT c10 h
              refine g_iconst C dX12_fed_58 ?_
              exact g_iretP C dX12_fed_59 hr hlk h (by decide)
            · have h := ifF c10 h
              refine g_iload C dX12_fed_43 rfl ?_
              refine g_iload_n C dX12_fed_45 rfl ?_
              refine g_icmp_lt C dX12_fed_46 ia4 ia3 rfl (tgt := 58) (fun c11 => ?_) (fun c11 => ?_)
              · have h := ifT c11 h
                refine g_iconst C dX12_fed_58 ?_
                exact g_iretP C dX12_fed_59 hr hlk h (by decide)
              · have h := ifF c11 h
                refine g_aload_n C dX12_fed_49 rfl ?_
                refine g_iload C dX12_fed_50 rfl ?_
                obtain ⟨x12, qx12, h⟩ := bnd h
                refine g_callV1 (As := [iv a6]) C dX12_fed_52 mi_X12_isKnown ml_12_362 (ct_X12_isKnown ia6 qx12) rfl rfl ⟨rfl, rfl⟩ ⟨Nat.le_of_ble_eq_true rfl, Nat.le_of_ble_eq_true rfl⟩ ⟨Nat.zero_le _, Nat.zero_le _⟩ rfl (Nat.le_of_ble_eq_true rfl) (fun ix12 => ?_)
                refine g_if_ne C dX12_fed_55 (zI ix12) rfl (tgt := 60) (fun c13 => ?_) (fun c13 => ?_)
                · have h := ifF c13 h
                  refine g_aload_n C dX12_fed_60 rfl ?_
                  refine g_iload C dX12_fed_61 rfl ?_
                  obtain ⟨σ14, qσ14, h⟩ := bnd h
                  refine g_callV0 (As := [iv a6]) C dX12_fed_63 mi_X12_goes ml_12_443 (ct_X12_goes ia6 qσ14) rfl rfl ⟨rfl, rfl⟩ ⟨Nat.le_of_ble_eq_true rfl, Nat.le_of_ble_eq_true rfl⟩ ⟨Nat.zero_le _, Nat.zero_le _⟩ rfl (Nat.le_of_ble_eq_true rfl) (fun _ => ?_)
                  refine g_iconst C dX12_fed_66 ?_
                  refine g_istore (L1 := [some (rv w 170), some (iv a1), some (iv a2), some (iv a3), some (iv a4), some (iv a5), some (iv a6), some (iv 0), none, none, none, none, none]) C dX12_fed_67 rfl (Nat.le_of_ble_eq_true rfl) rfl ?_
                  refine g_iconst C dX12_fed_69 ?_
                  refine g_istore (L1 := [some (rv w 170), some (iv a1), some (iv a2), some (iv a3), some (iv a4), some (iv a5), some (iv a6), some (iv 0), some (iv 0), none, none, none, none]) C dX12_fed_70 rfl (Nat.le_of_ble_eq_true rfl) rfl ?_
                  refine g_mask [true, true, true, true, true, true, false, true, true, true, true, true, true] ?_
                  obtain ⟨b15, hb15, hF15⟩ := bnd h
                  have hX15 : ∀ (x26 : Int) (σ27 : St) , InI x26 → (x26, σ27) = b15 → GM w p l e rm_X12_fed s m args below meth c (some (iv y)) (InI y) σ' 13 138 [some (rv w 170), none, some (iv a2), none, none, none, none, some (iv x26), none, none, none, none, none] [] σ27 := by
                    intro x26 σ27 ix26 q
                    subst q
                    have h := hF15
                    refine g_iconst C dX12_fed_138 ?_
                    refine g_istore (L1 := [some (rv w 170), none, some (iv a2), none, none, none, none, some (iv x26), some (iv 1), none, none, none, none]) C dX12_fed_139 rfl (Nat.le_of_ble_eq_true rfl) rfl ?_
                    refine g_iconst C dX12_fed_141 ?_
                    refine g_istore (L1 := [some (rv w 170), none, some (iv a2), none, none, none, none, some (iv x26), some (iv 1), some (iv 0), none, none, none]) C dX12_fed_142 rfl (Nat.le_of_ble_eq_true rfl) rfl ?_
                    obtain ⟨b28, hb28, hF28⟩ := bnd h
                    have hX28 : ∀ (x33 : Int) , InI x33 → x33 = b28 → GM w p l e rm_X12_fed s m args below meth c (some (iv y)) (InI y) σ' 13 163 [some (rv w 170), none, some (iv a2), none, none, none, none, some (iv x26), some (iv x33), none, none, none, none] [] σ27 := by
                      intro x33 ix33 q
                      subst q
                      have h := hF28
                      refine g_iconst C dX12_fed_163 ?_
                      refine g_istore (L1 := [some (rv w 170), none, some (iv a2), none, none, none, none, some (iv x26), some (iv x33), some (iv (-1)), none, none, none]) C dX12_fed_164 rfl (Nat.le_of_ble_eq_true rfl) rfl ?_
                      refine g_iconst C dX12_fed_166 ?_
                      refine g_istore (L1 := [some (rv w 170), none, some (iv a2), none, none, none, none, some (iv x26), some (iv x33), some (iv (-1)), some (iv 0), none, none]) C dX12_fed_167 rfl (Nat.le_of_ble_eq_true rfl) rfl ?_
                      refine g_iconst C dX12_fed_169 ?_
                      refine g_istore (L1 := [some (rv w 170), none, some (iv a2), none, none, none, none, some (iv x26), some (iv x33), some (iv (-1)), some (iv 0), some (iv 0), none]) C dX12_fed_170 rfl (Nat.le_of_ble_eq_true rfl) rfl ?_
                      obtain ⟨b34, hb34, hF34⟩ := bnd h
                      have hX34 : ∀ (x45 : Int) (σ46 : St) , InI x45 → (x45, σ46) = b34 → GM w p l e rm_X12_fed s m args below meth c (some (iv y)) (InI y) σ' 13 220 [some (rv w 170), none, some (iv a2), none, none, none, none, some (iv x26), none, none, some (iv x45), none, none] [] σ46 := by
                        intro x45 σ46 ix45 q
                        subst q
                        have h := hF34
                        refine g_aload_n C dX12_fed_220 rfl ?_
                        refine g_iload_n C dX12_fed_221 rfl ?_
                        obtain ⟨σ47, qσ47, h⟩ := bnd h
                        refine g_putI (j := 82) C dX12_fed_222 rfl (Nat.le_of_ble_eq_true rfl) (Nat.le_of_ble_eq_true rfl) fl_12_197 rfl rfl rfl rfl qσ47 ia2 ?_
                        refine g_aload_n C dX12_fed_225 rfl ?_
                        refine g_iload C dX12_fed_226 rfl ?_
                        refine g_iload C dX12_fed_228 rfl ?_
                        refine g_iload_n C dX12_fed_230 rfl ?_
                        obtain ⟨⟨x48, σ49⟩, qx48, h⟩ := bnd h
                        refine g_callV1 (As := [iv x45, iv x26, iv a2]) C dX12_fed_231 mi_X12_worstOf ml_12_463 (ct_X12_worstOf ix45 ix26 ia2 qx48) rfl rfl ⟨rfl, rfl⟩ ⟨Nat.le_of_ble_eq_true rfl, Nat.le_of_ble_eq_true rfl⟩ ⟨Nat.zero_le _, Nat.zero_le _⟩ rfl (Nat.le_of_ble_eq_true rfl) (fun ix48 => ?_)
                        refine g_istore (L1 := [some (rv w 170), none, some (iv a2), none, none, none, none, some (iv x26), none, some (iv x48), some (iv x45), none, none]) C dX12_fed_234 rfl (Nat.le_of_ble_eq_true rfl) rfl ?_
                        refine g_iconst C dX12_fed_236 ?_
                        refine g_istore (L1 := [some (rv w 170), none, some (iv a2), none, none, none, none, some (iv x26), none, some (iv x48), some (iv x45), some (iv 0), none]) C dX12_fed_237 rfl (Nat.le_of_ble_eq_true rfl) rfl ?_
                        refine g_mask [true, true, false, true, true, true, true, true, true, true, false, true, true] ?_
                        obtain ⟨b50, hb50, hF50⟩ := bnd h
                        have hX50 : ∀ (σ55 : St) , σ55 = b50 → GM w p l e rm_X12_fed s m args below meth c (some (iv y)) (InI y) σ' 13 260 [some (rv w 170), none, none, none, none, none, none, some (iv x26), none, some (iv x48), none, none, none] [] σ55 := by
                          intro σ55 q
                          subst q
                          have h := hF50
                          refine g_iconst C dX12_fed_260 ?_
                          refine g_istore (L1 := [some (rv w 170), none, none, none, none, none, none, some (iv x26), none, some (iv x48), none, some (iv 0), none]) C dX12_fed_261 rfl (Nat.le_of_ble_eq_true rfl) rfl ?_
                          obtain ⟨b56, hb56, hF56⟩ := bnd h
                          have hX56 : ∀ (σ63 : St) , σ63 = b56 → GM w p l e rm_X12_fed s m args below meth c (some (iv y)) (InI y) σ' 13 295 [some (rv w 170), none, none, none, none, none, none, none, none, some (iv x48), none, none, none] [] σ63 := by
                            intro σ63 q
                            subst q
                            have h := hF56
                            refine g_iconst C dX12_fed_295 ?_
                            refine g_istore (L1 := [some (rv w 170), none, none, none, none, none, none, none, none, some (iv x48), none, some (iv 0), none]) C dX12_fed_296 rfl (Nat.le_of_ble_eq_true rfl) rfl ?_
                            obtain ⟨b64, hb64, hF64⟩ := bnd h
                            have hX64 : ∀ (σ71 : St) , σ71 = b64 → GM w p l e rm_X12_fed s m args below meth c (some (iv y)) (InI y) σ' 13 327 [none, none, none, none, none, none, none, none, none, some (iv x48), none, none, none] [] σ71 := by
                              intro σ71 q
                              subst q
                              have h := hF64
                              refine g_iload C dX12_fed_327 rfl ?_
                              exact g_iretP C dX12_fed_329 hr hlk h ix48
                            have hL64 : ∀ (n : Nat) (x65 : Int) (σ66 : St) , InI x65 → lpN (fun a => m_X12_fed_L298 a.1 a.2) n (x65, σ66) = some b64 → GM w p l e rm_X12_fed s m args below meth c (some (iv y)) (InI y) σ' 13 298 [some (rv w 170), none, none, none, none, none, none, none, none, some (iv x48), none, some (iv x65), none] [] σ66 := by
                              intro n
                              induction n with
                              | zero => intro x65 σ66 ix65 q; cases q
                              | succ n ih64 =>
                                intro x65 σ66 ix65 q
                                obtain ⟨o64, h, hk64⟩ := lp_step q
                                replace h : m_X12_fed_L298 x65 σ66 = some o64 := h
                                unfold m_X12_fed_L298 at h
                                refine g_iload C dX12_fed_298 rfl ?_
                                refine g_iconst C dX12_fed_300 ?_
                                refine g_icmp_ge C dX12_fed_301 ix65 (by decide) rfl (tgt := 327) (fun c67 => ?_) (fun c67 => ?_)
                                · have h := ifT c67 h
                                  refine g_mask [false, true, true, true, true, true, true, true, true, true, true, false, true] ?_
                                  obtain rfl := Option.some.inj h
                                  exact hX64 σ66 (lpR hk64).symm
                                · have h := ifF c67 h
                                  refine g_aload_n C dX12_fed_304 rfl ?_
                                  refine g_getR (j := 84) C dX12_fed_305 rfl (Nat.le_of_ble_eq_true rfl) (Nat.le_of_ble_eq_true rfl) fl_12_203 rfl rfl (r := 229) rfl ?_
                                  refine g_iload C dX12_fed_308 rfl ?_
                                  refine g_aload_n C dX12_fed_310 rfl ?_
                                  refine g_getR (j := 88) C dX12_fed_311 rfl (Nat.le_of_ble_eq_true rfl) (Nat.le_of_ble_eq_true rfl) fl_12_215 rfl rfl (r := 233) rfl ?_
                                  refine g_iload C dX12_fed_314 rfl ?_
                                  obtain ⟨x68, qx68, h⟩ := bnd h
                                  refine g_iald C dX12_fed_316 rfl rfl qx68 ix65 (fun ix68 => ?_)
                                  obtain ⟨x69, qx69, h⟩ := bnd h
                                  refine g_callS1 (As := [iv x68]) C dX12_fed_317 mi_X12_bits ml_12_428 (ct_X12_bits ix68 qx69) rfl ⟨rfl, rfl⟩ ⟨Nat.le_of_ble_eq_true rfl, Nat.le_of_ble_eq_true rfl⟩ ⟨Nat.zero_le _, Nat.zero_le _⟩ rfl (Nat.le_of_ble_eq_true rfl) (fun ix69 => ?_)
                                  obtain ⟨σ70, qσ70, h⟩ := bnd h
                                  refine g_iast C dX12_fed_320 rfl rfl qσ70 ix65 ix69 ?_
                                  refine g_iinc (L1 := [some (rv w 170), none, none, none, none, none, none, none, none, some (iv x48), none, some (iv (wr (x65 + 1))), none]) C dX12_fed_321 rfl rfl (Nat.le_of_ble_eq_true rfl) rfl ?_
                                  refine g_goto C dX12_fed_324 rfl (tgt := 298) ?_
                                  obtain rfl := Option.some.inj h
                                  exact ih64 _ _ (iwr _) (lpL hk64)
                            exact hL64 FU _ _ (by decide) hb64
                          have hL56 : ∀ (n : Nat) (x57 : Int) (σ58 : St) , InI x57 → lpN (fun a => m_X12_fed_L263 x26 a.1 a.2) n (x57, σ58) = some b56 → GM w p l e rm_X12_fed s m args below meth c (some (iv y)) (InI y) σ' 13 263 [some (rv w 170), none, none, none, none, none, none, some (iv x26), none, some (iv x48), none, some (iv x57), none] [] σ58 := by
                            intro n
                            induction n with
                            | zero => intro x57 σ58 ix57 q; cases q
                            | succ n ih56 =>
                              intro x57 σ58 ix57 q
                              obtain ⟨o56, h, hk56⟩ := lp_step q
                              replace h : m_X12_fed_L263 x26 x57 σ58 = some o56 := h
                              unfold m_X12_fed_L263 at h
                              refine g_iload C dX12_fed_263 rfl ?_
                              refine g_iload C dX12_fed_265 rfl ?_
                              refine g_icmp_ge C dX12_fed_267 ix57 ix26 rfl (tgt := 295) (fun c59 => ?_) (fun c59 => ?_)
                              · have h := ifT c59 h
                                refine g_mask [true, true, true, true, true, true, true, false, true, true, true, false, true] ?_
                                obtain rfl := Option.some.inj h
                                exact hX56 σ58 (lpR hk56).symm
                              · have h := ifF c59 h
                                refine g_aload_n C dX12_fed_270 rfl ?_
                                refine g_getR (j := 83) C dX12_fed_271 rfl (Nat.le_of_ble_eq_true rfl) (Nat.le_of_ble_eq_true rfl) fl_12_200 rfl rfl (r := 228) rfl ?_
                                refine g_aload_n C dX12_fed_274 rfl ?_
                                refine g_getR (j := 86) C dX12_fed_275 rfl (Nat.le_of_ble_eq_true rfl) (Nat.le_of_ble_eq_true rfl) fl_12_209 rfl rfl (r := 231) rfl ?_
                                refine g_iload C dX12_fed_278 rfl ?_
                                obtain ⟨x60, qx60, h⟩ := bnd h
                                refine g_iald C dX12_fed_280 rfl rfl qx60 ix57 (fun ix60 => ?_)
                                refine g_aload_n C dX12_fed_281 rfl ?_
                                refine g_getR (j := 87) C dX12_fed_282 rfl (Nat.le_of_ble_eq_true rfl) (Nat.le_of_ble_eq_true rfl) fl_12_212 rfl rfl (r := 232) rfl ?_
                                refine g_iload C dX12_fed_285 rfl ?_
                                obtain ⟨x61, qx61, h⟩ := bnd h
                                refine g_iald C dX12_fed_287 rfl rfl qx61 ix57 (fun ix61 => ?_)
                                obtain ⟨σ62, qσ62, h⟩ := bnd h
                                refine g_iast C dX12_fed_288 rfl rfl qσ62 ix60 ix61 ?_
                                refine g_iinc (L1 := [some (rv w 170), none, none, none, none, none, none, some (iv x26), none, some (iv x48), none, some (iv (wr (x57 + 1))), none]) C dX12_fed_289 rfl rfl (Nat.le_of_ble_eq_true rfl) rfl ?_
                                refine g_goto C dX12_fed_292 rfl (tgt := 263) ?_
                                obtain rfl := Option.some.inj h
                                exact ih56 _ _ (iwr _) (lpL hk56)
                          exact hL56 FU _ _ (by decide) hb56
                        have hL50 : ∀ (n : Nat) (x51 : Int) (σ52 : St) , InI x51 → lpN (fun a => m_X12_fed_L239 a.1 a.2) n (x51, σ52) = some b50 → GM w p l e rm_X12_fed s m args below meth c (some (iv y)) (InI y) σ' 13 239 [some (rv w 170), none, none, none, none, none, none, some (iv x26), none, some (iv x48), none, some (iv x51), none] [] σ52 := by
                          intro n
                          induction n with
                          | zero => intro x51 σ52 ix51 q; cases q
                          | succ n ih50 =>
                            intro x51 σ52 ix51 q
                            obtain ⟨o50, h, hk50⟩ := lp_step q
                            replace h : m_X12_fed_L239 x51 σ52 = some o50 := h
                            unfold m_X12_fed_L239 at h
                            refine g_iload C dX12_fed_239 rfl ?_
                            refine g_bipush C dX12_fed_241 rfl ?_
                            refine g_icmp_ge C dX12_fed_243 ix51 (by decide) rfl (tgt := 260) (fun c53 => ?_) (fun c53 => ?_)
                            · have h := ifT c53 h
                              refine g_mask [true, true, true, true, true, true, true, true, true, true, true, false, true] ?_
                              obtain rfl := Option.some.inj h
                              exact hX50 σ52 (lpR hk50).symm
                            · have h := ifF c53 h
                              refine g_aload_n C dX12_fed_246 rfl ?_
                              refine g_getR (j := 83) C dX12_fed_247 rfl (Nat.le_of_ble_eq_true rfl) (Nat.le_of_ble_eq_true rfl) fl_12_200 rfl rfl (r := 228) rfl ?_
                              refine g_iload C dX12_fed_250 rfl ?_
                              refine g_iconst C dX12_fed_252 ?_
                              obtain ⟨σ54, qσ54, h⟩ := bnd h
                              refine g_iast C dX12_fed_253 rfl rfl qσ54 ix51 (by decide) ?_
                              refine g_iinc (L1 := [some (rv w 170), none, none, none, none, none, none, some (iv x26), none, some (iv x48), none, some (iv (wr (x51 + 1))), none]) C dX12_fed_254 rfl rfl (Nat.le_of_ble_eq_true rfl) rfl ?_
                              refine g_goto C dX12_fed_257 rfl (tgt := 239) ?_
                              obtain rfl := Option.some.inj h
                              exact ih50 _ _ (iwr _) (lpL hk50)
                        exact hL50 FU _ _ (by decide) hb50
                      have hL34 : ∀ (n : Nat) (x35 : Int) (x36 : Int) (x37 : Int) (σ38 : St) , InI x35 → InI x36 → InI x37 → lpN (fun a => m_X12_fed_L172 x33 x26 a2 a.1 a.2.1 a.2.2.1 a.2.2.2) n (x35, x36, x37, σ38) = some b34 → GM w p l e rm_X12_fed s m args below meth c (some (iv y)) (InI y) σ' 13 172 [some (rv w 170), none, some (iv a2), none, none, none, none, some (iv x26), some (iv x33), some (iv x35), some (iv x36), some (iv x37), none] [] σ38 := by
                        intro n
                        induction n with
                        | zero => intro x35 x36 x37 σ38 ix35 ix36 ix37 q; cases q
                        | succ n ih34 =>
                          intro x35 x36 x37 σ38 ix35 ix36 ix37 q
                          obtain ⟨o34, h, hk34⟩ := lp_step q
                          replace h : m_X12_fed_L172 x33 x26 a2 x35 x36 x37 σ38 = some o34 := h
                          unfold m_X12_fed_L172 at h
                          refine g_iload C dX12_fed_172 rfl ?_
                          refine g_iload C dX12_fed_174 rfl ?_
                          refine g_icmp_ge C dX12_fed_176 ix37 ix33 rfl (tgt := 220) (fun c39 => ?_) (fun c39 => ?_)
                          · have h := ifT c39 h
                            refine g_mask [true, true, true, true, true, true, true, true, false, false, true, false, true] ?_
                            obtain rfl := Option.some.inj h
                            exact hX34 x36 σ38 ix36 (lpR hk34).symm
                          · have h := ifF c39 h
                            refine g_aload_n C dX12_fed_179 rfl ?_
                            refine g_iload C dX12_fed_180 rfl ?_
                            refine g_iload C dX12_fed_182 rfl ?_
                            refine g_iload_n C dX12_fed_184 rfl ?_
                            obtain ⟨⟨x40, σ41⟩, qx40, h⟩ := bnd h
                            refine g_callV1 (As := [iv x37, iv x26, iv a2]) C dX12_fed_185 mi_X12_worstOf ml_12_463 (ct_X12_worstOf ix37 ix26 ia2 qx40) rfl rfl ⟨rfl, rfl⟩ ⟨Nat.le_of_ble_eq_true rfl, Nat.le_of_ble_eq_true rfl⟩ ⟨Nat.zero_le _, Nat.zero_le _⟩ rfl (Nat.le_of_ble_eq_true rfl) (fun ix40 => ?_)
                            refine g_istore (L1 := [some (rv w 170), none, some (iv a2), none, none, none, none, some (iv x26), some (iv x33), some (iv x35), some (iv x36), some (iv x37), some (iv x40)]) C dX12_fed_188 rfl (Nat.le_of_ble_eq_true rfl) rfl ?_
                            refine g_iload C dX12_fed_190 rfl ?_
                            refine g_iconst C dX12_fed_192 ?_
                            have hJ206_44 : m_X12_fed_J206 x40 x37 σ41 = some o34 → GM w p l e rm_X12_fed s m args below meth c (some (iv y)) (InI y) σ' 13 206 [some (rv w 170), none, some (iv a2), none, none, none, none, some (iv x26), some (iv x33), none, none, some (iv x37), some (iv x40)] [] σ41 := by
                              intro h
                              unfold m_X12_fed_J206 at h
                              refine g_iload C dX12_fed_206 rfl ?_
                              refine g_istore (L1 := [some (rv w 170), none, some (iv a2), none, none, none, none, some (iv x26), some (iv x33), some (iv x40), none, some (iv x37), some (iv x40)]) C dX12_fed_208 rfl (Nat.le_of_ble_eq_true rfl) rfl ?_
                              refine g_iload C dX12_fed_210 rfl ?_
                              refine g_istore (L1 := [some (rv w 170), none, some (iv a2), none, none, none, none, some (iv x26), some (iv x33), some (iv x40), some (iv x37), some (iv x37), some (iv x40)]) C dX12_fed_212 rfl (Nat.le_of_ble_eq_true rfl) rfl ?_
                              refine g_iinc (L1 := [some (rv w 170), none, some (iv a2), none, none, none, none, some (iv x26), some (iv x33), some (iv x40), some (iv x37), some (iv (wr (x37 + 1))), some (iv x40)]) C dX12_fed_214 rfl rfl (Nat.le_of_ble_eq_true rfl) rfl ?_
                              refine g_goto C dX12_fed_217 rfl (tgt := 172) ?_
                              refine g_mask [true, true, true, true, true, true, true, true, true, true, true, true, false] ?_
                              obtain rfl := Option.some.inj h
                              exact ih34 _ _ _ _ ix40 ix37 (iwr _) (lpL hk34)
                            refine g_icmp_eq C dX12_fed_193 ix35 (by decide) rfl (tgt := 206) (fun c42 => ?_) (fun c42 => ?_)
                            · have h := ifT c42 h
                              refine g_mask [true, true, true, true, true, true, true, true, true, false, false, true, true] ?_
                              exact hJ206_44  h
                            · have h := ifF c42 h
                              refine g_iload C dX12_fed_196 rfl ?_
                              refine g_iload C dX12_fed_198 rfl ?_
                              refine g_icmp_lt C dX12_fed_200 ix40 ix35 rfl (tgt := 206) (fun c43 => ?_) (fun c43 => ?_)
                              · have h := ifT c43 h
                                refine g_mask [true, true, true, true, true, true, true, true, true, false, false, true, true] ?_
                                exact hJ206_44  h
                              · have h := ifF c43 h
                                refine g_goto C dX12_fed_203 rfl (tgt := 214) ?_
                                refine g_iinc (L1 := [some (rv w 170), none, some (iv a2), none, none, none, none, some (iv x26), some (iv x33), some (iv x35), some (iv x36), some (iv (wr (x37 + 1))), some (iv x40)]) C dX12_fed_214 rfl rfl (Nat.le_of_ble_eq_true rfl) rfl ?_
                                refine g_goto C dX12_fed_217 rfl (tgt := 172) ?_
                                refine g_mask [true, true, true, true, true, true, true, true, true, true, true, true, false] ?_
                                obtain rfl := Option.some.inj h
                                exact ih34 _ _ _ _ ix35 ix36 (iwr _) (lpL hk34)
                      exact hL34 FU _ _ _ _ (by decide) (by decide) (by decide) hb34
                    have hL28 : ∀ (n : Nat) (x29 : Int) (x30 : Int) , InI x29 → InI x30 → lpN (fun a => m_X12_fed_L144 x26 a2 a.1 a.2) n (x29, x30) = some b28 → GM w p l e rm_X12_fed s m args below meth c (some (iv y)) (InI y) σ' 13 144 [some (rv w 170), none, some (iv a2), none, none, none, none, some (iv x26), some (iv x29), some (iv x30), none, none, none] [] σ27 := by
                      intro n
                      induction n with
                      | zero => intro x29 x30 ix29 ix30 q; cases q
                      | succ n ih28 =>
                        intro x29 x30 ix29 ix30 q
                        obtain ⟨o28, h, hk28⟩ := lp_step q
                        replace h : m_X12_fed_L144 x26 a2 x29 x30 = some o28 := h
                        unfold m_X12_fed_L144 at h
                        refine g_iload C dX12_fed_144 rfl ?_
                        refine g_iload C dX12_fed_146 rfl ?_
                        refine g_icmp_ge C dX12_fed_148 ix30 ix26 rfl (tgt := 163) (fun c31 => ?_) (fun c31 => ?_)
                        · have h := ifT c31 h
                          refine g_mask [true, true, true, true, true, true, true, true, true, false, true, true, true] ?_
                          obtain rfl := Option.some.inj h
                          exact hX28 x29 ix29 (lpR hk28).symm
                        · have h := ifF c31 h
                          refine g_iload C dX12_fed_151 rfl ?_
                          refine g_iload_n C dX12_fed_153 rfl ?_
                          refine g_imul C dX12_fed_154 ?_
                          obtain ⟨x32, qx32, h⟩ := bnd h
                          have qx32 := Option.some.inj qx32
                          have ix32 : InI x32 := by rw [← qx32]; exact (iwr _)
                          refine g_E qx32 ?_
                          refine g_istore (L1 := [some (rv w 170), none, some (iv a2), none, none, none, none, some (iv x26), some (iv x32), some (iv x30), none, none, none]) C dX12_fed_155 rfl (Nat.le_of_ble_eq_true rfl) rfl ?_
                          refine g_iinc (L1 := [some (rv w 170), none, some (iv a2), none, none, none, none, some (iv x26), some (iv x32), some (iv (wr (x30 + 1))), none, none, none]) C dX12_fed_157 rfl rfl (Nat.le_of_ble_eq_true rfl) rfl ?_
                          refine g_goto C dX12_fed_160 rfl (tgt := 144) ?_
                          obtain rfl := Option.some.inj h
                          exact ih28 _ _ ix32 (iwr _) (lpL hk28)
                    exact hL28 FU _ _ (by decide) (by decide) hb28
                  have hL15 : ∀ (n : Nat) (x16 : Int) (x17 : Int) (σ18 : St) , InI x16 → InI x17 → lpN (fun a => m_X12_fed_L72 a1 a3 a5 a4 a.1 a.2.1 a.2.2) n (x16, x17, σ18) = some b15 → GM w p l e rm_X12_fed s m args below meth c (some (iv y)) (InI y) σ' 13 72 [some (rv w 170), some (iv a1), some (iv a2), some (iv a3), some (iv a4), some (iv a5), none, some (iv x16), some (iv x17), none, none, none, none] [] σ18 := by
                    intro n
                    induction n with
                    | zero => intro x16 x17 σ18 ix16 ix17 q; cases q
                    | succ n ih15 =>
                      intro x16 x17 σ18 ix16 ix17 q
                      obtain ⟨o15, h, hk15⟩ := lp_step q
                      replace h : m_X12_fed_L72 a1 a3 a5 a4 x16 x17 σ18 = some o15 := h
                      unfold m_X12_fed_L72 at h
                      refine g_iload C dX12_fed_72 rfl ?_
                      refine g_aload_n C dX12_fed_74 rfl ?_
                      refine g_getI (j := 35) C dX12_fed_75 rfl (Nat.le_of_ble_eq_true rfl) (Nat.le_of_ble_eq_true rfl) fl_12_333 rfl rfl (fun i19 => ?_)
                      refine g_icmp_ge C dX12_fed_78 ix17 i19 rfl (tgt := 138) (fun c20 => ?_) (fun c20 => ?_)
                      · have h := ifT c20 h
                        refine g_mask [true, false, true, false, false, false, true, true, false, true, true, true, true] ?_
                        obtain rfl := Option.some.inj h
                        exact hX15 x16 σ18 ix16 (lpR hk15).symm
                      · have h := ifF c20 h
                        refine g_iload_n C dX12_fed_81 rfl ?_
                        refine g_iload C dX12_fed_82 rfl ?_
                        refine g_ishr C dX12_fed_84 ?_
                        refine g_iconst C dX12_fed_85 ?_
                        refine g_iand C dX12_fed_86 ?_
                        refine g_if_ne C dX12_fed_87 (iand _ _) rfl (tgt := 93) (fun c21 => ?_) (fun c21 => ?_)
                        · have h := ifF c21 h
                          refine g_aload_n C dX12_fed_93 rfl ?_
                          refine g_iconst C dX12_fed_94 ?_
                          refine g_iload C dX12_fed_95 rfl ?_
                          refine g_ishl C dX12_fed_97 ?_
                          refine g_iload_n C dX12_fed_98 rfl ?_
                          refine g_iload C dX12_fed_99 rfl ?_
                          obtain ⟨σ22, qσ22, h⟩ := bnd h
                          refine g_callV0 (As := [iv (shlI 1 x17), iv a3, iv a5]) C dX12_fed_101 mi_X12_spreads ml_12_456 (ct_X12_spreads (ishl _ _) ia3 ia5 qσ22) rfl rfl ⟨rfl, rfl⟩ ⟨Nat.le_of_ble_eq_true rfl, Nat.le_of_ble_eq_true rfl⟩ ⟨Nat.zero_le _, Nat.zero_le _⟩ rfl (Nat.le_of_ble_eq_true rfl) (fun _ => ?_)
                          refine g_aload_n C dX12_fed_104 rfl ?_
                          refine g_getR (j := 85) C dX12_fed_105 rfl (Nat.le_of_ble_eq_true rfl) (Nat.le_of_ble_eq_true rfl) fl_12_206 rfl rfl (r := 230) rfl ?_
                          refine g_iload C dX12_fed_108 rfl ?_
                          refine g_aload_n C dX12_fed_110 rfl ?_
                          refine g_iload_n C dX12_fed_111 rfl ?_
                          refine g_iload C dX12_fed_112 rfl ?_
                          obtain ⟨x23, qx23, h⟩ := bnd h
                          refine g_callV1 (As := [iv a3, iv a4]) C dX12_fed_114 mi_X12_know ml_12_460 (ct_X12_know ia3 ia4 qx23) rfl rfl ⟨rfl, rfl⟩ ⟨Nat.le_of_ble_eq_true rfl, Nat.le_of_ble_eq_true rfl⟩ ⟨Nat.zero_le _, Nat.zero_le _⟩ rfl (Nat.le_of_ble_eq_true rfl) (fun ix23 => ?_)
                          refine g_iload_n C dX12_fed_117 rfl ?_
                          refine g_iand C dX12_fed_118 ?_
                          obtain ⟨σ24, qσ24, h⟩ := bnd h
                          refine g_iast C dX12_fed_119 rfl rfl qσ24 ix17 (iand _ _) ?_
                          refine g_aload_n C dX12_fed_120 rfl ?_
                          refine g_getR (j := 86) C dX12_fed_121 rfl (Nat.le_of_ble_eq_true rfl) (Nat.le_of_ble_eq_true rfl) fl_12_209 rfl rfl (r := 231) rfl ?_
                          refine g_iload C dX12_fed_124 rfl ?_
                          refine g_iload C dX12_fed_126 rfl ?_
                          obtain ⟨σ25, qσ25, h⟩ := bnd h
                          refine g_iast C dX12_fed_128 rfl rfl qσ25 ix16 ix17 ?_
                          refine g_iinc (L1 := [some (rv w 170), some (iv a1), some (iv a2), some (iv a3), some (iv a4), some (iv a5), none, some (iv (wr (x16 + 1))), some (iv x17), none, none, none, none]) C dX12_fed_129 rfl rfl (Nat.le_of_ble_eq_true rfl) rfl ?_
                          refine g_iinc (L1 := [some (rv w 170), some (iv a1), some (iv a2), some (iv a3), some (iv a4), some (iv a5), none, some (iv (wr (x16 + 1))), some (iv (wr (x17 + 1))), none, none, none, none]) C dX12_fed_132 rfl rfl (Nat.le_of_ble_eq_true rfl) rfl ?_
                          refine g_goto C dX12_fed_135 rfl (tgt := 72) ?_
                          obtain rfl := Option.some.inj h
                          exact ih15 _ _ _ (iwr _) (iwr _) (lpL hk15)
                        · have h := ifT c21 h
                          refine g_goto C dX12_fed_90 rfl (tgt := 132) ?_
                          refine g_iinc (L1 := [some (rv w 170), some (iv a1), some (iv a2), some (iv a3), some (iv a4), some (iv a5), none, some (iv x16), some (iv (wr (x17 + 1))), none, none, none, none]) C dX12_fed_132 rfl rfl (Nat.le_of_ble_eq_true rfl) rfl ?_
                          refine g_goto C dX12_fed_135 rfl (tgt := 72) ?_
                          obtain rfl := Option.some.inj h
                          exact ih15 _ _ _ ix16 (iwr _) (lpL hk15)
                  exact hL15 FU _ _ _ (by decide) (by decide) hb15
                · have h := ifT c13 h
                  refine g_iconst C dX12_fed_58 ?_
                  exact g_iretP C dX12_fed_59 hr hlk h (by decide)
theorem dX12_word__0 : decode cX12_word_ 0 = .ok (.aload_n 0, 1) := by decide +kernel
theorem dX12_word__1 : decode cX12_word_ 1 = .ok (.iconst 0, 1) := by decide +kernel
theorem dX12_word__2 : decode cX12_word_ 2 = .ok (.putfield 1, 3) := by decide +kernel
theorem dX12_word__5 : decode cX12_word_ 5 = .ok (.aload_n 0, 1) := by decide +kernel
theorem dX12_word__6 : decode cX12_word_ 6 = .ok (.getfield 197, 3) := by decide +kernel
theorem dX12_word__9 : decode cX12_word_ 9 = .ok (.iconst (-1), 1) := by decide +kernel
theorem dX12_word__10 : decode cX12_word_ 10 = .ok (.if_icmp .eq 22, 3) := by decide +kernel
theorem dX12_word__13 : decode cX12_word_ 13 = .ok (.iload_n 1, 1) := by decide +kernel
theorem dX12_word__14 : decode cX12_word_ 14 = .ok (.ifCond .lt 18, 3) := by decide +kernel
theorem dX12_word__17 : decode cX12_word_ 17 = .ok (.iload_n 1, 1) := by decide +kernel
theorem dX12_word__18 : decode cX12_word_ 18 = .ok (.bipush 8, 2) := by decide +kernel
theorem dX12_word__20 : decode cX12_word_ 20 = .ok (.if_icmp .ge 12, 3) := by decide +kernel
theorem dX12_word__23 : decode cX12_word_ 23 = .ok (.aload_n 0, 1) := by decide +kernel
theorem dX12_word__24 : decode cX12_word_ 24 = .ok (.getfield 200, 3) := by decide +kernel
theorem dX12_word__27 : decode cX12_word_ 27 = .ok (.iload_n 1, 1) := by decide +kernel
theorem dX12_word__28 : decode cX12_word_ 28 = .ok (.iaload, 1) := by decide +kernel
theorem dX12_word__29 : decode cX12_word_ 29 = .ok (.goto 4, 3) := by decide +kernel
theorem dX12_word__32 : decode cX12_word_ 32 = .ok (.iconst (-1), 1) := by decide +kernel
theorem dX12_word__33 : decode cX12_word_ 33 = .ok (.ireturn, 1) := by decide +kernel
abbrev rm_X12_word_ : Room := { frames := 0, cells := 0, slots := 0, locals := 0 }
set_option maxRecDepth 100000 in
set_option maxHeartbeats 4000000 in
theorem ct_X12_word_ {w : Wd} {l : Launch} {a1 : Int} {σ : St} {y : Int} {σ' : St} (ia1 : InI a1) (h : m_X12_word_ a1 σ = some (y, σ')) : Ct w l yX12_word_ (Cond.code yX12_word_ cX12_word_ 2 (some .int) :: TB) rm_X12_word_ [rv w 170, iv a1] σ (some (iv y)) (InI y) σ' := by
  refine Ct.of2 [some (rv w 170), some (iv a1)] 0 rfl pn_RX12 (Nat.le_of_ble_eq_true rfl) ?_
  intro p e s m args below meth c C hr hlk
  unfold m_X12_word_ at h
  refine g_aload_n C dX12_word__0 rfl ?_
  refine g_iconst C dX12_word__1 ?_
  obtain ⟨σ1, qσ1, h⟩ := bnd h
  refine g_putI (j := 0) C dX12_word__2 rfl (Nat.le_of_ble_eq_true rfl) (Nat.le_of_ble_eq_true rfl) fl_12_1 rfl rfl rfl rfl qσ1 (by decide) ?_
  refine g_aload_n C dX12_word__5 rfl ?_
  refine g_getI (j := 82) C dX12_word__6 rfl (Nat.le_of_ble_eq_true rfl) (Nat.le_of_ble_eq_true rfl) fl_12_197 rfl rfl (fun i2 => ?_)
  refine g_iconst C dX12_word__9 ?_
  refine g_icmp_eq C dX12_word__10 i2 (by decide) rfl (tgt := 32) (fun c3 => ?_) (fun c3 => ?_)
  · have h := ifT c3 h
    refine g_iconst C dX12_word__32 ?_
    exact g_iretP C dX12_word__33 hr hlk h (by decide)
  · have h := ifF c3 h
    refine g_iload_n C dX12_word__13 rfl ?_
    refine g_if_lt C dX12_word__14 ia1 rfl (tgt := 32) (fun c4 => ?_) (fun c4 => ?_)
    · have h := ifT c4 h
      refine g_iconst C dX12_word__32 ?_
      exact g_iretP C dX12_word__33 hr hlk h (by decide)
    · have h := ifF c4 h
      refine g_iload_n C dX12_word__17 rfl ?_
      refine g_bipush C dX12_word__18 rfl ?_
      refine g_icmp_ge C dX12_word__20 ia1 (by decide) rfl (tgt := 32) (fun c5 => ?_) (fun c5 => ?_)
      · have h := ifT c5 h
        refine g_iconst C dX12_word__32 ?_
        exact g_iretP C dX12_word__33 hr hlk h (by decide)
      · have h := ifF c5 h
        refine g_aload_n C dX12_word__23 rfl ?_
        refine g_getR (j := 83) C dX12_word__24 rfl (Nat.le_of_ble_eq_true rfl) (Nat.le_of_ble_eq_true rfl) fl_12_200 rfl rfl (r := 228) rfl ?_
        refine g_iload_n C dX12_word__27 rfl ?_
        obtain ⟨x6, qx6, h⟩ := bnd h
        refine g_iald C dX12_word__28 rfl rfl qx6 ia1 (fun ix6 => ?_)
        refine g_goto C dX12_word__29 rfl (tgt := 33) ?_
        exact g_iretP C dX12_word__33 hr hlk h ix6
theorem dX12_doubt_0 : decode cX12_doubt 0 = .ok (.aload_n 0, 1) := by decide +kernel
theorem dX12_doubt_1 : decode cX12_doubt 1 = .ok (.iconst 0, 1) := by decide +kernel
theorem dX12_doubt_2 : decode cX12_doubt 2 = .ok (.putfield 1, 3) := by decide +kernel
theorem dX12_doubt_5 : decode cX12_doubt 5 = .ok (.iload_n 1, 1) := by decide +kernel
theorem dX12_doubt_6 : decode cX12_doubt 6 = .ok (.ifCond .lt 20, 3) := by decide +kernel
theorem dX12_doubt_9 : decode cX12_doubt 9 = .ok (.iload_n 1, 1) := by decide +kernel
theorem dX12_doubt_10 : decode cX12_doubt 10 = .ok (.aload_n 0, 1) := by decide +kernel
theorem dX12_doubt_11 : decode cX12_doubt 11 = .ok (.getfield 197, 3) := by decide +kernel
theorem dX12_doubt_14 : decode cX12_doubt 14 = .ok (.if_icmp .ge 12, 3) := by decide +kernel
theorem dX12_doubt_17 : decode cX12_doubt 17 = .ok (.aload_n 0, 1) := by decide +kernel
theorem dX12_doubt_18 : decode cX12_doubt 18 = .ok (.getfield 203, 3) := by decide +kernel
theorem dX12_doubt_21 : decode cX12_doubt 21 = .ok (.iload_n 1, 1) := by decide +kernel
theorem dX12_doubt_22 : decode cX12_doubt 22 = .ok (.iaload, 1) := by decide +kernel
theorem dX12_doubt_23 : decode cX12_doubt 23 = .ok (.goto 4, 3) := by decide +kernel
theorem dX12_doubt_26 : decode cX12_doubt 26 = .ok (.iconst (-1), 1) := by decide +kernel
theorem dX12_doubt_27 : decode cX12_doubt 27 = .ok (.ireturn, 1) := by decide +kernel
abbrev rm_X12_doubt : Room := { frames := 0, cells := 0, slots := 0, locals := 0 }
set_option maxRecDepth 100000 in
set_option maxHeartbeats 4000000 in
theorem ct_X12_doubt {w : Wd} {l : Launch} {a1 : Int} {σ : St} {y : Int} {σ' : St} (ia1 : InI a1) (h : m_X12_doubt a1 σ = some (y, σ')) : Ct w l yX12_doubt (Cond.code yX12_doubt cX12_doubt 2 (some .int) :: TB) rm_X12_doubt [rv w 170, iv a1] σ (some (iv y)) (InI y) σ' := by
  refine Ct.of2 [some (rv w 170), some (iv a1)] 0 rfl pn_RX12 (Nat.le_of_ble_eq_true rfl) ?_
  intro p e s m args below meth c C hr hlk
  unfold m_X12_doubt at h
  refine g_aload_n C dX12_doubt_0 rfl ?_
  refine g_iconst C dX12_doubt_1 ?_
  obtain ⟨σ1, qσ1, h⟩ := bnd h
  refine g_putI (j := 0) C dX12_doubt_2 rfl (Nat.le_of_ble_eq_true rfl) (Nat.le_of_ble_eq_true rfl) fl_12_1 rfl rfl rfl rfl qσ1 (by decide) ?_
  refine g_iload_n C dX12_doubt_5 rfl ?_
  refine g_if_lt C dX12_doubt_6 ia1 rfl (tgt := 26) (fun c2 => ?_) (fun c2 => ?_)
  · have h := ifT c2 h
    refine g_iconst C dX12_doubt_26 ?_
    exact g_iretP C dX12_doubt_27 hr hlk h (by decide)
  · have h := ifF c2 h
    refine g_iload_n C dX12_doubt_9 rfl ?_
    refine g_aload_n C dX12_doubt_10 rfl ?_
    refine g_getI (j := 82) C dX12_doubt_11 rfl (Nat.le_of_ble_eq_true rfl) (Nat.le_of_ble_eq_true rfl) fl_12_197 rfl rfl (fun i3 => ?_)
    refine g_icmp_ge C dX12_doubt_14 ia1 i3 rfl (tgt := 26) (fun c4 => ?_) (fun c4 => ?_)
    · have h := ifT c4 h
      refine g_iconst C dX12_doubt_26 ?_
      exact g_iretP C dX12_doubt_27 hr hlk h (by decide)
    · have h := ifF c4 h
      refine g_aload_n C dX12_doubt_17 rfl ?_
      refine g_getR (j := 84) C dX12_doubt_18 rfl (Nat.le_of_ble_eq_true rfl) (Nat.le_of_ble_eq_true rfl) fl_12_203 rfl rfl (r := 229) rfl ?_
      refine g_iload_n C dX12_doubt_21 rfl ?_
      obtain ⟨x5, qx5, h⟩ := bnd h
      refine g_iald C dX12_doubt_22 rfl rfl qx5 ia1 (fun ix5 => ?_)
      refine g_goto C dX12_doubt_23 rfl (tgt := 27) ?_
      exact g_iretP C dX12_doubt_27 hr hlk h ix5
theorem dX12_count_0 : decode cX12_count 0 = .ok (.aload_n 0, 1) := by decide +kernel
theorem dX12_count_1 : decode cX12_count 1 = .ok (.iconst 0, 1) := by decide +kernel
theorem dX12_count_2 : decode cX12_count 2 = .ok (.putfield 1, 3) := by decide +kernel
theorem dX12_count_5 : decode cX12_count 5 = .ok (.iload_n 1, 1) := by decide +kernel
theorem dX12_count_6 : decode cX12_count 6 = .ok (.tableswitch 73 0 5 #[38, 43, 48, 53, 63, 68], 38) := by decide +kernel
theorem dX12_count_44 : decode cX12_count 44 = .ok (.aload_n 0, 1) := by decide +kernel
theorem dX12_count_45 : decode cX12_count 45 = .ok (.getfield 330, 3) := by decide +kernel
theorem dX12_count_48 : decode cX12_count 48 = .ok (.ireturn, 1) := by decide +kernel
theorem dX12_count_49 : decode cX12_count 49 = .ok (.aload_n 0, 1) := by decide +kernel
theorem dX12_count_50 : decode cX12_count 50 = .ok (.getfield 336, 3) := by decide +kernel
theorem dX12_count_53 : decode cX12_count 53 = .ok (.ireturn, 1) := by decide +kernel
theorem dX12_count_54 : decode cX12_count 54 = .ok (.aload_n 0, 1) := by decide +kernel
theorem dX12_count_55 : decode cX12_count 55 = .ok (.getfield 333, 3) := by decide +kernel
theorem dX12_count_58 : decode cX12_count 58 = .ok (.ireturn, 1) := by decide +kernel
theorem dX12_count_59 : decode cX12_count 59 = .ok (.aload_n 0, 1) := by decide +kernel
theorem dX12_count_60 : decode cX12_count 60 = .ok (.getfield 40, 3) := by decide +kernel
theorem dX12_count_63 : decode cX12_count 63 = .ok (.aload_n 0, 1) := by decide +kernel
theorem dX12_count_64 : decode cX12_count 64 = .ok (.getfield 283, 3) := by decide +kernel
theorem dX12_count_67 : decode cX12_count 67 = .ok (.iaload, 1) := by decide +kernel
theorem dX12_count_68 : decode cX12_count 68 = .ok (.ireturn, 1) := by decide +kernel
theorem dX12_count_69 : decode cX12_count 69 = .ok (.aload_n 0, 1) := by decide +kernel
theorem dX12_count_70 : decode cX12_count 70 = .ok (.getfield 348, 3) := by decide +kernel
theorem dX12_count_73 : decode cX12_count 73 = .ok (.ireturn, 1) := by decide +kernel
theorem dX12_count_74 : decode cX12_count 74 = .ok (.aload_n 0, 1) := by decide +kernel
theorem dX12_count_75 : decode cX12_count 75 = .ok (.getfield 222, 3) := by decide +kernel
theorem dX12_count_78 : decode cX12_count 78 = .ok (.ireturn, 1) := by decide +kernel
theorem dX12_count_79 : decode cX12_count 79 = .ok (.iconst (-1), 1) := by decide +kernel
theorem dX12_count_80 : decode cX12_count 80 = .ok (.ireturn, 1) := by decide +kernel
abbrev rm_X12_count : Room := { frames := 0, cells := 0, slots := 0, locals := 0 }
set_option maxRecDepth 100000 in
set_option maxHeartbeats 4000000 in
theorem ct_X12_count {w : Wd} {l : Launch} {a1 : Int} {σ : St} {y : Int} {σ' : St} (ia1 : InI a1) (h : m_X12_count a1 σ = some (y, σ')) : Ct w l yX12_count (Cond.code yX12_count cX12_count 2 (some .int) :: TB) rm_X12_count [rv w 170, iv a1] σ (some (iv y)) (InI y) σ' := by
  refine Ct.of2 [some (rv w 170), some (iv a1)] 0 rfl pn_RX12 (Nat.le_of_ble_eq_true rfl) ?_
  intro p e s m args below meth c C hr hlk
  unfold m_X12_count at h
  refine g_aload_n C dX12_count_0 rfl ?_
  refine g_iconst C dX12_count_1 ?_
  obtain ⟨σ1, qσ1, h⟩ := bnd h
  refine g_putI (j := 0) C dX12_count_2 rfl (Nat.le_of_ble_eq_true rfl) (Nat.le_of_ble_eq_true rfl) fl_12_1 rfl rfl rfl rfl qσ1 (by decide) ?_
  refine g_iload_n C dX12_count_5 rfl ?_
  by_cases c2 : a1 = 0
  · have h := ifT c2 h
    refine g_tabI C dX12_count_6 ia1 (by rw [c2]; decide) (by rw [c2]; decide) (by rw [c2] <;> rfl) rfl (tgt := 44) ?_
    refine g_aload_n C dX12_count_44 rfl ?_
    refine g_getI (j := 30) C dX12_count_45 rfl (Nat.le_of_ble_eq_true rfl) (Nat.le_of_ble_eq_true rfl) fl_12_330 rfl rfl (fun i3 => ?_)
    exact g_iretP C dX12_count_48 hr hlk h i3
  have h := ifF c2 h
  by_cases c4 : a1 = 1
  · have h := ifT c4 h
    refine g_tabI C dX12_count_6 ia1 (by rw [c4]; decide) (by rw [c4]; decide) (by rw [c4] <;> rfl) rfl (tgt := 49) ?_
    refine g_aload_n C dX12_count_49 rfl ?_
    refine g_getI (j := 31) C dX12_count_50 rfl (Nat.le_of_ble_eq_true rfl) (Nat.le_of_ble_eq_true rfl) fl_12_336 rfl rfl (fun i5 => ?_)
    exact g_iretP C dX12_count_53 hr hlk h i5
  have h := ifF c4 h
  by_cases c6 : a1 = 2
  · have h := ifT c6 h
    refine g_tabI C dX12_count_6 ia1 (by rw [c6]; decide) (by rw [c6]; decide) (by rw [c6] <;> rfl) rfl (tgt := 54) ?_
    refine g_aload_n C dX12_count_54 rfl ?_
    refine g_getI (j := 35) C dX12_count_55 rfl (Nat.le_of_ble_eq_true rfl) (Nat.le_of_ble_eq_true rfl) fl_12_333 rfl rfl (fun i7 => ?_)
    exact g_iretP C dX12_count_58 hr hlk h i7
  have h := ifF c6 h
  by_cases c8 : a1 = 3
  · have h := ifT c8 h
    refine g_tabI C dX12_count_6 ia1 (by rw [c8]; decide) (by rw [c8]; decide) (by rw [c8] <;> rfl) rfl (tgt := 59) ?_
    refine g_aload_n C dX12_count_59 rfl ?_
    refine g_getR (j := 19) C dX12_count_60 rfl (Nat.le_of_ble_eq_true rfl) (Nat.le_of_ble_eq_true rfl) fl_12_40 rfl rfl (r := 178) rfl ?_
    refine g_aload_n C dX12_count_63 rfl ?_
    refine g_getI (j := 17) C dX12_count_64 rfl (Nat.le_of_ble_eq_true rfl) (Nat.le_of_ble_eq_true rfl) fl_12_283 rfl rfl (fun i9 => ?_)
    obtain ⟨x10, qx10, h⟩ := bnd h
    refine g_iald C dX12_count_67 rfl rfl qx10 i9 (fun ix10 => ?_)
    exact g_iretP C dX12_count_68 hr hlk h ix10
  have h := ifF c8 h
  by_cases c11 : a1 = 4
  · have h := ifT c11 h
    refine g_tabI C dX12_count_6 ia1 (by rw [c11]; decide) (by rw [c11]; decide) (by rw [c11] <;> rfl) rfl (tgt := 69) ?_
    refine g_aload_n C dX12_count_69 rfl ?_
    refine g_getI (j := 41) C dX12_count_70 rfl (Nat.le_of_ble_eq_true rfl) (Nat.le_of_ble_eq_true rfl) fl_12_348 rfl rfl (fun i12 => ?_)
    exact g_iretP C dX12_count_73 hr hlk h i12
  have h := ifF c11 h
  by_cases c13 : a1 = 5
  · have h := ifT c13 h
    refine g_tabI C dX12_count_6 ia1 (by rw [c13]; decide) (by rw [c13]; decide) (by rw [c13] <;> rfl) rfl (tgt := 74) ?_
    refine g_aload_n C dX12_count_74 rfl ?_
    refine g_getI (j := 2) C dX12_count_75 rfl (Nat.le_of_ble_eq_true rfl) (Nat.le_of_ble_eq_true rfl) fl_12_222 rfl rfl (fun i14 => ?_)
    exact g_iretP C dX12_count_78 hr hlk h i14
  have h := ifF c13 h
  refine g_tabO C dX12_count_6 ia1 (by omega) rfl (tgt := 79) ?_
  refine g_iconst C dX12_count_79 ?_
  exact g_iretP C dX12_count_80 hr hlk h (by decide)
