theorem dX2_worstDoubt_0 : decode cX2_worstDoubt 0 = .ok (.iconst 0, 1) := by decide +kernel
theorem dX2_worstDoubt_1 : decode cX2_worstDoubt 1 = .ok (.istore_n 1, 1) := by decide +kernel
theorem dX2_worstDoubt_2 : decode cX2_worstDoubt 2 = .ok (.iload_n 1, 1) := by decide +kernel
theorem dX2_worstDoubt_3 : decode cX2_worstDoubt 3 = .ok (.iconst 3, 1) := by decide +kernel
theorem dX2_worstDoubt_4 : decode cX2_worstDoubt 4 = .ok (.if_icmp .ge 16, 3) := by decide +kernel
theorem dX2_worstDoubt_7 : decode cX2_worstDoubt 7 = .ok (.aload_n 0, 1) := by decide +kernel
theorem dX2_worstDoubt_8 : decode cX2_worstDoubt 8 = .ok (.getfield 24, 3) := by decide +kernel
theorem dX2_worstDoubt_11 : decode cX2_worstDoubt 11 = .ok (.iload_n 1, 1) := by decide +kernel
theorem dX2_worstDoubt_12 : decode cX2_worstDoubt 12 = .ok (.iconst 0, 1) := by decide +kernel
theorem dX2_worstDoubt_13 : decode cX2_worstDoubt 13 = .ok (.iastore, 1) := by decide +kernel
theorem dX2_worstDoubt_14 : decode cX2_worstDoubt 14 = .ok (.iinc 1 1, 3) := by decide +kernel
theorem dX2_worstDoubt_17 : decode cX2_worstDoubt 17 = .ok (.goto (-15), 3) := by decide +kernel
theorem dX2_worstDoubt_20 : decode cX2_worstDoubt 20 = .ok (.iconst 0, 1) := by decide +kernel
theorem dX2_worstDoubt_21 : decode cX2_worstDoubt 21 = .ok (.istore_n 1, 1) := by decide +kernel
theorem dX2_worstDoubt_22 : decode cX2_worstDoubt 22 = .ok (.iload_n 1, 1) := by decide +kernel
theorem dX2_worstDoubt_23 : decode cX2_worstDoubt 23 = .ok (.bipush 8, 2) := by decide +kernel
theorem dX2_worstDoubt_25 : decode cX2_worstDoubt 25 = .ok (.if_icmp .ge 40, 3) := by decide +kernel
theorem dX2_worstDoubt_28 : decode cX2_worstDoubt 28 = .ok (.aload_n 0, 1) := by decide +kernel
theorem dX2_worstDoubt_29 : decode cX2_worstDoubt 29 = .ok (.getfield 21, 3) := by decide +kernel
theorem dX2_worstDoubt_32 : decode cX2_worstDoubt 32 = .ok (.iload_n 1, 1) := by decide +kernel
theorem dX2_worstDoubt_33 : decode cX2_worstDoubt 33 = .ok (.iaload, 1) := by decide +kernel
theorem dX2_worstDoubt_34 : decode cX2_worstDoubt 34 = .ok (.istore_n 2, 1) := by decide +kernel
theorem dX2_worstDoubt_35 : decode cX2_worstDoubt 35 = .ok (.iload_n 2, 1) := by decide +kernel
theorem dX2_worstDoubt_36 : decode cX2_worstDoubt 36 = .ok (.ifCond .lt 23, 3) := by decide +kernel
theorem dX2_worstDoubt_39 : decode cX2_worstDoubt 39 = .ok (.iload_n 2, 1) := by decide +kernel
theorem dX2_worstDoubt_40 : decode cX2_worstDoubt 40 = .ok (.iconst 3, 1) := by decide +kernel
theorem dX2_worstDoubt_41 : decode cX2_worstDoubt 41 = .ok (.if_icmp .ge 18, 3) := by decide +kernel
theorem dX2_worstDoubt_44 : decode cX2_worstDoubt 44 = .ok (.aload_n 0, 1) := by decide +kernel
theorem dX2_worstDoubt_45 : decode cX2_worstDoubt 45 = .ok (.getfield 24, 3) := by decide +kernel
theorem dX2_worstDoubt_48 : decode cX2_worstDoubt 48 = .ok (.iload_n 2, 1) := by decide +kernel
theorem dX2_worstDoubt_49 : decode cX2_worstDoubt 49 = .ok (.dup2, 1) := by decide +kernel
theorem dX2_worstDoubt_50 : decode cX2_worstDoubt 50 = .ok (.iaload, 1) := by decide +kernel
theorem dX2_worstDoubt_51 : decode cX2_worstDoubt 51 = .ok (.aload_n 0, 1) := by decide +kernel
theorem dX2_worstDoubt_52 : decode cX2_worstDoubt 52 = .ok (.getfield 9, 3) := by decide +kernel
theorem dX2_worstDoubt_55 : decode cX2_worstDoubt 55 = .ok (.iload_n 1, 1) := by decide +kernel
theorem dX2_worstDoubt_56 : decode cX2_worstDoubt 56 = .ok (.iaload, 1) := by decide +kernel
theorem dX2_worstDoubt_57 : decode cX2_worstDoubt 57 = .ok (.ior, 1) := by decide +kernel
theorem dX2_worstDoubt_58 : decode cX2_worstDoubt 58 = .ok (.iastore, 1) := by decide +kernel
theorem dX2_worstDoubt_59 : decode cX2_worstDoubt 59 = .ok (.iinc 1 1, 3) := by decide +kernel
theorem dX2_worstDoubt_62 : decode cX2_worstDoubt 62 = .ok (.goto (-40), 3) := by decide +kernel
theorem dX2_worstDoubt_65 : decode cX2_worstDoubt 65 = .ok (.iconst 0, 1) := by decide +kernel
theorem dX2_worstDoubt_66 : decode cX2_worstDoubt 66 = .ok (.istore_n 1, 1) := by decide +kernel
theorem dX2_worstDoubt_67 : decode cX2_worstDoubt 67 = .ok (.iconst 0, 1) := by decide +kernel
theorem dX2_worstDoubt_68 : decode cX2_worstDoubt 68 = .ok (.istore_n 2, 1) := by decide +kernel
theorem dX2_worstDoubt_69 : decode cX2_worstDoubt 69 = .ok (.iload_n 2, 1) := by decide +kernel
theorem dX2_worstDoubt_70 : decode cX2_worstDoubt 70 = .ok (.iconst 3, 1) := by decide +kernel
theorem dX2_worstDoubt_71 : decode cX2_worstDoubt 71 = .ok (.if_icmp .ge 23, 3) := by decide +kernel
theorem dX2_worstDoubt_74 : decode cX2_worstDoubt 74 = .ok (.iload_n 1, 1) := by decide +kernel
theorem dX2_worstDoubt_75 : decode cX2_worstDoubt 75 = .ok (.aload_n 0, 1) := by decide +kernel
theorem dX2_worstDoubt_76 : decode cX2_worstDoubt 76 = .ok (.getfield 24, 3) := by decide +kernel
theorem dX2_worstDoubt_79 : decode cX2_worstDoubt 79 = .ok (.iload_n 2, 1) := by decide +kernel
theorem dX2_worstDoubt_80 : decode cX2_worstDoubt 80 = .ok (.iaload, 1) := by decide +kernel
theorem dX2_worstDoubt_81 : decode cX2_worstDoubt 81 = .ok (.invokestatic 42, 3) := by decide +kernel
theorem dX2_worstDoubt_84 : decode cX2_worstDoubt 84 = .ok (.invokestatic 48, 3) := by decide +kernel
theorem dX2_worstDoubt_87 : decode cX2_worstDoubt 87 = .ok (.istore_n 1, 1) := by decide +kernel
theorem dX2_worstDoubt_88 : decode cX2_worstDoubt 88 = .ok (.iinc 2 1, 3) := by decide +kernel
theorem dX2_worstDoubt_91 : decode cX2_worstDoubt 91 = .ok (.goto (-22), 3) := by decide +kernel
theorem dX2_worstDoubt_94 : decode cX2_worstDoubt 94 = .ok (.iload_n 1, 1) := by decide +kernel
theorem dX2_worstDoubt_95 : decode cX2_worstDoubt 95 = .ok (.ireturn, 1) := by decide +kernel
abbrev rm_X2_worstDoubt : Room := { frames := 1, cells := 0, slots := 0, locals := 21 }
set_option maxRecDepth 100000 in
set_option maxHeartbeats 4000000 in
theorem ct_X2_worstDoubt {w : Wd} {l : Launch} {σ : St} {y : Int} {σ' : St} (h : m_X2_worstDoubt σ = some (y, σ')) : Ct w l yX2_worstDoubt (Cond.code yX2_worstDoubt cX2_worstDoubt 3 (some .int) :: TB) rm_X2_worstDoubt [rv w 164] σ (some (iv y)) (InI y) σ' := by
  refine Ct.of2 [some (rv w 164), none, none] 2 rfl pn_RX2 (Nat.le_of_ble_eq_true rfl) ?_
  intro p e s m args below meth c C hr hlk
  unfold m_X2_worstDoubt at h
  refine g_iconst C dX2_worstDoubt_0 ?_
  refine g_istore_n (L1 := [some (rv w 164), some (iv 0), none]) C dX2_worstDoubt_1 rfl (Nat.le_of_ble_eq_true rfl) rfl ?_
  obtain ⟨b1, hb1, hF1⟩ := bnd h
  have hX1 : ∀ (σ6 : St) , σ6 = b1 → GM w p l e rm_X2_worstDoubt s m args below meth c (some (iv y)) (InI y) σ' 3 20 [some (rv w 164), none, none] [] σ6 := by
    intro σ6 q
    subst q
    have h := hF1
    refine g_iconst C dX2_worstDoubt_20 ?_
    refine g_istore_n (L1 := [some (rv w 164), some (iv 0), none]) C dX2_worstDoubt_21 rfl (Nat.le_of_ble_eq_true rfl) rfl ?_
    obtain ⟨b7, hb7, hF7⟩ := bnd h
    have hX7 : ∀ (σ17 : St) , σ17 = b7 → GM w p l e rm_X2_worstDoubt s m args below meth c (some (iv y)) (InI y) σ' 3 65 [some (rv w 164), none, none] [] σ17 := by
      intro σ17 q
      subst q
      have h := hF7
      refine g_iconst C dX2_worstDoubt_65 ?_
      refine g_istore_n (L1 := [some (rv w 164), some (iv 0), none]) C dX2_worstDoubt_66 rfl (Nat.le_of_ble_eq_true rfl) rfl ?_
      refine g_iconst C dX2_worstDoubt_67 ?_
      refine g_istore_n (L1 := [some (rv w 164), some (iv 0), some (iv 0)]) C dX2_worstDoubt_68 rfl (Nat.le_of_ble_eq_true rfl) rfl ?_
      obtain ⟨b18, hb18, hF18⟩ := bnd h
      have hX18 : ∀ (x25 : Int) , InI x25 → x25 = b18 → GM w p l e rm_X2_worstDoubt s m args below meth c (some (iv y)) (InI y) σ' 3 94 [none, some (iv x25), none] [] σ17 := by
        intro x25 ix25 q
        subst q
        have h := hF18
        refine g_iload_n C dX2_worstDoubt_94 rfl ?_
        exact g_iretP C dX2_worstDoubt_95 hr hlk h ix25
      have hL18 : ∀ (n : Nat) (x19 : Int) (x20 : Int) , InI x19 → InI x20 → lpN (fun a => m_X2_worstDoubt_L69 σ17 a.1 a.2) n (x19, x20) = some b18 → GM w p l e rm_X2_worstDoubt s m args below meth c (some (iv y)) (InI y) σ' 3 69 [some (rv w 164), some (iv x19), some (iv x20)] [] σ17 := by
        intro n
        induction n with
        | zero => intro x19 x20 ix19 ix20 q; cases q
        | succ n ih18 =>
          intro x19 x20 ix19 ix20 q
          obtain ⟨o18, h, hk18⟩ := lp_step q
          replace h : m_X2_worstDoubt_L69 σ17 x19 x20 = some o18 := h
          unfold m_X2_worstDoubt_L69 at h
          refine g_iload_n C dX2_worstDoubt_69 rfl ?_
          refine g_iconst C dX2_worstDoubt_70 ?_
          refine g_icmp_ge C dX2_worstDoubt_71 ix20 (by decide) rfl (tgt := 94) (fun c21 => ?_) (fun c21 => ?_)
          · have h := ifT c21 h
            refine g_mask [false, true, false] ?_
            obtain rfl := Option.some.inj h
            exact hX18 x19 ix19 (lpR hk18).symm
          · have h := ifF c21 h
            refine g_iload_n C dX2_worstDoubt_74 rfl ?_
            refine g_aload_n C dX2_worstDoubt_75 rfl ?_
            refine g_getR (j := 5) C dX2_worstDoubt_76 rfl (Nat.le_of_ble_eq_true rfl) (Nat.le_of_ble_eq_true rfl) fl_2_24 rfl rfl (r := 169) rfl ?_
            refine g_iload_n C dX2_worstDoubt_79 rfl ?_
            obtain ⟨x22, qx22, h⟩ := bnd h
            refine g_iald C dX2_worstDoubt_80 rfl rfl qx22 ix20 (fun ix22 => ?_)
            obtain ⟨x23, qx23, h⟩ := bnd h
            refine g_callS1 (As := [iv x22]) C dX2_worstDoubt_81 mi_J6_bitCount_0f7a4 ml_2_42 (ct_J6_bitCount_0f7a4 ix22 qx23) rfl ⟨rfl, rfl⟩ ⟨Nat.le_of_ble_eq_true rfl, Nat.le_of_ble_eq_true rfl⟩ ⟨Nat.zero_le _, Nat.zero_le _⟩ rfl (Nat.le_of_ble_eq_true rfl) (fun ix23 => ?_)
            refine g_mmax C dX2_worstDoubt_84 ix19 ix23 ml_2_48 ⟨Nat.le_of_ble_eq_true rfl, Nat.le_of_ble_eq_true rfl⟩ ⟨Nat.zero_le _, Nat.zero_le _⟩ ?_
            obtain ⟨x24, qx24, h⟩ := bnd h
            have qx24 := Option.some.inj qx24
            have ix24 : InI x24 := by rw [← qx24]; exact (imax ix19 ix23)
            refine g_E qx24 ?_
            refine g_istore_n (L1 := [some (rv w 164), some (iv x24), some (iv x20)]) C dX2_worstDoubt_87 rfl (Nat.le_of_ble_eq_true rfl) rfl ?_
            refine g_iinc (L1 := [some (rv w 164), some (iv x24), some (iv (wr (x20 + 1)))]) C dX2_worstDoubt_88 rfl rfl (Nat.le_of_ble_eq_true rfl) rfl ?_
            refine g_goto C dX2_worstDoubt_91 rfl (tgt := 69) ?_
            obtain rfl := Option.some.inj h
            exact ih18 _ _ ix24 (iwr _) (lpL hk18)
      exact hL18 FU _ _ (by decide) (by decide) hb18
    have hL7 : ∀ (n : Nat) (x8 : Int) (σ9 : St) , InI x8 → lpN (fun a => m_X2_worstDoubt_L22 a.1 a.2) n (x8, σ9) = some b7 → GM w p l e rm_X2_worstDoubt s m args below meth c (some (iv y)) (InI y) σ' 3 22 [some (rv w 164), some (iv x8), none] [] σ9 := by
      intro n
      induction n with
      | zero => intro x8 σ9 ix8 q; cases q
      | succ n ih7 =>
        intro x8 σ9 ix8 q
        obtain ⟨o7, h, hk7⟩ := lp_step q
        replace h : m_X2_worstDoubt_L22 x8 σ9 = some o7 := h
        unfold m_X2_worstDoubt_L22 at h
        refine g_iload_n C dX2_worstDoubt_22 rfl ?_
        refine g_bipush C dX2_worstDoubt_23 rfl ?_
        refine g_icmp_ge C dX2_worstDoubt_25 ix8 (by decide) rfl (tgt := 65) (fun c10 => ?_) (fun c10 => ?_)
        · have h := ifT c10 h
          refine g_mask [true, false, true] ?_
          obtain rfl := Option.some.inj h
          exact hX7 σ9 (lpR hk7).symm
        · have h := ifF c10 h
          refine g_aload_n C dX2_worstDoubt_28 rfl ?_
          refine g_getR (j := 4) C dX2_worstDoubt_29 rfl (Nat.le_of_ble_eq_true rfl) (Nat.le_of_ble_eq_true rfl) fl_2_21 rfl rfl (r := 168) rfl ?_
          refine g_iload_n C dX2_worstDoubt_32 rfl ?_
          obtain ⟨x11, qx11, h⟩ := bnd h
          refine g_iald C dX2_worstDoubt_33 rfl rfl qx11 ix8 (fun ix11 => ?_)
          refine g_istore_n (L1 := [some (rv w 164), some (iv x8), some (iv x11)]) C dX2_worstDoubt_34 rfl (Nat.le_of_ble_eq_true rfl) rfl ?_
          refine g_iload_n C dX2_worstDoubt_35 rfl ?_
          refine g_if_lt C dX2_worstDoubt_36 ix11 rfl (tgt := 59) (fun c12 => ?_) (fun c12 => ?_)
          · have h := ifT c12 h
            refine g_iinc (L1 := [some (rv w 164), some (iv (wr (x8 + 1))), some (iv x11)]) C dX2_worstDoubt_59 rfl rfl (Nat.le_of_ble_eq_true rfl) rfl ?_
            refine g_goto C dX2_worstDoubt_62 rfl (tgt := 22) ?_
            refine g_mask [true, true, false] ?_
            obtain rfl := Option.some.inj h
            exact ih7 _ _ (iwr _) (lpL hk7)
          · have h := ifF c12 h
            refine g_iload_n C dX2_worstDoubt_39 rfl ?_
            refine g_iconst C dX2_worstDoubt_40 ?_
            refine g_icmp_ge C dX2_worstDoubt_41 ix11 (by decide) rfl (tgt := 59) (fun c13 => ?_) (fun c13 => ?_)
            · have h := ifT c13 h
              refine g_iinc (L1 := [some (rv w 164), some (iv (wr (x8 + 1))), some (iv x11)]) C dX2_worstDoubt_59 rfl rfl (Nat.le_of_ble_eq_true rfl) rfl ?_
              refine g_goto C dX2_worstDoubt_62 rfl (tgt := 22) ?_
              refine g_mask [true, true, false] ?_
              obtain rfl := Option.some.inj h
              exact ih7 _ _ (iwr _) (lpL hk7)
            · have h := ifF c13 h
              refine g_aload_n C dX2_worstDoubt_44 rfl ?_
              refine g_getR (j := 5) C dX2_worstDoubt_45 rfl (Nat.le_of_ble_eq_true rfl) (Nat.le_of_ble_eq_true rfl) fl_2_24 rfl rfl (r := 169) rfl ?_
              refine g_iload_n C dX2_worstDoubt_48 rfl ?_
              refine g_dup2 C dX2_worstDoubt_49 rfl rfl ?_
              obtain ⟨x14, qx14, h⟩ := bnd h
              refine g_iald C dX2_worstDoubt_50 rfl rfl qx14 ix11 (fun ix14 => ?_)
              refine g_aload_n C dX2_worstDoubt_51 rfl ?_
              refine g_getR (j := 0) C dX2_worstDoubt_52 rfl (Nat.le_of_ble_eq_true rfl) (Nat.le_of_ble_eq_true rfl) fl_2_9 rfl rfl (r := 165) rfl ?_
              refine g_iload_n C dX2_worstDoubt_55 rfl ?_
              obtain ⟨x15, qx15, h⟩ := bnd h
              refine g_iald C dX2_worstDoubt_56 rfl rfl qx15 ix8 (fun ix15 => ?_)
              refine g_ior C dX2_worstDoubt_57 ?_
              obtain ⟨σ16, qσ16, h⟩ := bnd h
              refine g_iast C dX2_worstDoubt_58 rfl rfl qσ16 ix11 (ior _ _) ?_
              refine g_iinc (L1 := [some (rv w 164), some (iv (wr (x8 + 1))), some (iv x11)]) C dX2_worstDoubt_59 rfl rfl (Nat.le_of_ble_eq_true rfl) rfl ?_
              refine g_goto C dX2_worstDoubt_62 rfl (tgt := 22) ?_
              refine g_mask [true, true, false] ?_
              obtain rfl := Option.some.inj h
              exact ih7 _ _ (iwr _) (lpL hk7)
    exact hL7 FU _ _ (by decide) hb7
  have hL1 : ∀ (n : Nat) (x2 : Int) (σ3 : St) , InI x2 → lpN (fun a => m_X2_worstDoubt_L2 a.1 a.2) n (x2, σ3) = some b1 → GM w p l e rm_X2_worstDoubt s m args below meth c (some (iv y)) (InI y) σ' 3 2 [some (rv w 164), some (iv x2), none] [] σ3 := by
    intro n
    induction n with
    | zero => intro x2 σ3 ix2 q; cases q
    | succ n ih1 =>
      intro x2 σ3 ix2 q
      obtain ⟨o1, h, hk1⟩ := lp_step q
      replace h : m_X2_worstDoubt_L2 x2 σ3 = some o1 := h
      unfold m_X2_worstDoubt_L2 at h
      refine g_iload_n C dX2_worstDoubt_2 rfl ?_
      refine g_iconst C dX2_worstDoubt_3 ?_
      refine g_icmp_ge C dX2_worstDoubt_4 ix2 (by decide) rfl (tgt := 20) (fun c4 => ?_) (fun c4 => ?_)
      · have h := ifT c4 h
        refine g_mask [true, false, true] ?_
        obtain rfl := Option.some.inj h
        exact hX1 σ3 (lpR hk1).symm
      · have h := ifF c4 h
        refine g_aload_n C dX2_worstDoubt_7 rfl ?_
        refine g_getR (j := 5) C dX2_worstDoubt_8 rfl (Nat.le_of_ble_eq_true rfl) (Nat.le_of_ble_eq_true rfl) fl_2_24 rfl rfl (r := 169) rfl ?_
        refine g_iload_n C dX2_worstDoubt_11 rfl ?_
        refine g_iconst C dX2_worstDoubt_12 ?_
        obtain ⟨σ5, qσ5, h⟩ := bnd h
        refine g_iast C dX2_worstDoubt_13 rfl rfl qσ5 ix2 (by decide) ?_
        refine g_iinc (L1 := [some (rv w 164), some (iv (wr (x2 + 1))), none]) C dX2_worstDoubt_14 rfl rfl (Nat.le_of_ble_eq_true rfl) rfl ?_
        refine g_goto C dX2_worstDoubt_17 rfl (tgt := 2) ?_
        obtain rfl := Option.some.inj h
        exact ih1 _ _ (iwr _) (lpL hk1)
  exact hL1 FU _ _ (by decide) hb1
theorem dX2_keep_0 : decode cX2_keep 0 = .ok (.iconst 0, 1) := by decide +kernel
theorem dX2_keep_1 : decode cX2_keep 1 = .ok (.istore_n 1, 1) := by decide +kernel
theorem dX2_keep_2 : decode cX2_keep 2 = .ok (.iload_n 1, 1) := by decide +kernel
theorem dX2_keep_3 : decode cX2_keep 3 = .ok (.bipush 8, 2) := by decide +kernel
theorem dX2_keep_5 : decode cX2_keep 5 = .ok (.if_icmp .ge 21, 3) := by decide +kernel
theorem dX2_keep_8 : decode cX2_keep 8 = .ok (.aload_n 0, 1) := by decide +kernel
theorem dX2_keep_9 : decode cX2_keep 9 = .ok (.getfield 15, 3) := by decide +kernel
theorem dX2_keep_12 : decode cX2_keep 12 = .ok (.iload_n 1, 1) := by decide +kernel
theorem dX2_keep_13 : decode cX2_keep 13 = .ok (.aload_n 0, 1) := by decide +kernel
theorem dX2_keep_14 : decode cX2_keep 14 = .ok (.getfield 21, 3) := by decide +kernel
theorem dX2_keep_17 : decode cX2_keep 17 = .ok (.iload_n 1, 1) := by decide +kernel
theorem dX2_keep_18 : decode cX2_keep 18 = .ok (.iaload, 1) := by decide +kernel
theorem dX2_keep_19 : decode cX2_keep 19 = .ok (.iastore, 1) := by decide +kernel
theorem dX2_keep_20 : decode cX2_keep 20 = .ok (.iinc 1 1, 3) := by decide +kernel
theorem dX2_keep_23 : decode cX2_keep 23 = .ok (.goto (-21), 3) := by decide +kernel
theorem dX2_keep_26 : decode cX2_keep 26 = .ok (.iconst 0, 1) := by decide +kernel
theorem dX2_keep_27 : decode cX2_keep 27 = .ok (.istore_n 1, 1) := by decide +kernel
theorem dX2_keep_28 : decode cX2_keep 28 = .ok (.iload_n 1, 1) := by decide +kernel
theorem dX2_keep_29 : decode cX2_keep 29 = .ok (.iconst 3, 1) := by decide +kernel
theorem dX2_keep_30 : decode cX2_keep 30 = .ok (.if_icmp .ge 24, 3) := by decide +kernel
theorem dX2_keep_33 : decode cX2_keep 33 = .ok (.aload_n 0, 1) := by decide +kernel
theorem dX2_keep_34 : decode cX2_keep 34 = .ok (.getfield 18, 3) := by decide +kernel
theorem dX2_keep_37 : decode cX2_keep 37 = .ok (.iload_n 1, 1) := by decide +kernel
theorem dX2_keep_38 : decode cX2_keep 38 = .ok (.aload_n 0, 1) := by decide +kernel
theorem dX2_keep_39 : decode cX2_keep 39 = .ok (.getfield 24, 3) := by decide +kernel
theorem dX2_keep_42 : decode cX2_keep 42 = .ok (.iload_n 1, 1) := by decide +kernel
theorem dX2_keep_43 : decode cX2_keep 43 = .ok (.iaload, 1) := by decide +kernel
theorem dX2_keep_44 : decode cX2_keep 44 = .ok (.invokestatic 42, 3) := by decide +kernel
theorem dX2_keep_47 : decode cX2_keep 47 = .ok (.iastore, 1) := by decide +kernel
theorem dX2_keep_48 : decode cX2_keep 48 = .ok (.iinc 1 1, 3) := by decide +kernel
theorem dX2_keep_51 : decode cX2_keep 51 = .ok (.goto (-23), 3) := by decide +kernel
theorem dX2_keep_54 : decode cX2_keep 54 = .ok (.return_, 1) := by decide +kernel
abbrev rm_X2_keep : Room := { frames := 1, cells := 0, slots := 0, locals := 20 }
set_option maxRecDepth 100000 in
set_option maxHeartbeats 4000000 in
theorem ct_X2_keep {w : Wd} {l : Launch} {σ : St} {σ' : St} (h : m_X2_keep σ = some σ') : Ct w l yX2_keep (Cond.code yX2_keep cX2_keep 2 none :: TB) rm_X2_keep [rv w 164] σ none True σ' := by
  refine Ct.of2 [some (rv w 164), none] 1 rfl pn_RX2 (Nat.le_of_ble_eq_true rfl) ?_
  intro p e s m args below meth c C hr hlk
  unfold m_X2_keep at h
  refine g_iconst C dX2_keep_0 ?_
  refine g_istore_n (L1 := [some (rv w 164), some (iv 0)]) C dX2_keep_1 rfl (Nat.le_of_ble_eq_true rfl) rfl ?_
  obtain ⟨b1, hb1, hF1⟩ := bnd h
  have hX1 : ∀ (σ7 : St) , σ7 = b1 → GM w p l e rm_X2_keep s m args below meth c none True σ' 2 26 [some (rv w 164), none] [] σ7 := by
    intro σ7 q
    subst q
    have h := hF1
    refine g_iconst C dX2_keep_26 ?_
    refine g_istore_n (L1 := [some (rv w 164), some (iv 0)]) C dX2_keep_27 rfl (Nat.le_of_ble_eq_true rfl) rfl ?_
    obtain ⟨b8, hb8, hF8⟩ := bnd h
    have hX8 : ∀ (σ15 : St) , σ15 = b8 → GM w p l e rm_X2_keep s m args below meth c none True σ' 2 54 [none, none] [] σ15 := by
      intro σ15 q
      subst q
      have h := hF8
      exact g_vretP C dX2_keep_54 hr hlk h
    have hL8 : ∀ (n : Nat) (x9 : Int) (σ10 : St) , InI x9 → lpN (fun a => m_X2_keep_L28 a.1 a.2) n (x9, σ10) = some b8 → GM w p l e rm_X2_keep s m args below meth c none True σ' 2 28 [some (rv w 164), some (iv x9)] [] σ10 := by
      intro n
      induction n with
      | zero => intro x9 σ10 ix9 q; cases q
      | succ n ih8 =>
        intro x9 σ10 ix9 q
        obtain ⟨o8, h, hk8⟩ := lp_step q
        replace h : m_X2_keep_L28 x9 σ10 = some o8 := h
        unfold m_X2_keep_L28 at h
        refine g_iload_n C dX2_keep_28 rfl ?_
        refine g_iconst C dX2_keep_29 ?_
        refine g_icmp_ge C dX2_keep_30 ix9 (by decide) rfl (tgt := 54) (fun c11 => ?_) (fun c11 => ?_)
        · have h := ifT c11 h
          refine g_mask [false, false] ?_
          obtain rfl := Option.some.inj h
          exact hX8 σ10 (lpR hk8).symm
        · have h := ifF c11 h
          refine g_aload_n C dX2_keep_33 rfl ?_
          refine g_getR (j := 2) C dX2_keep_34 rfl (Nat.le_of_ble_eq_true rfl) (Nat.le_of_ble_eq_true rfl) fl_2_18 rfl rfl (r := 167) rfl ?_
          refine g_iload_n C dX2_keep_37 rfl ?_
          refine g_aload_n C dX2_keep_38 rfl ?_
          refine g_getR (j := 5) C dX2_keep_39 rfl (Nat.le_of_ble_eq_true rfl) (Nat.le_of_ble_eq_true rfl) fl_2_24 rfl rfl (r := 169) rfl ?_
          refine g_iload_n C dX2_keep_42 rfl ?_
          obtain ⟨x12, qx12, h⟩ := bnd h
          refine g_iald C dX2_keep_43 rfl rfl qx12 ix9 (fun ix12 => ?_)
          obtain ⟨x13, qx13, h⟩ := bnd h
          refine g_callS1 (As := [iv x12]) C dX2_keep_44 mi_J6_bitCount_0f7a4 ml_2_42 (ct_J6_bitCount_0f7a4 ix12 qx13) rfl ⟨rfl, rfl⟩ ⟨Nat.le_of_ble_eq_true rfl, Nat.le_of_ble_eq_true rfl⟩ ⟨Nat.zero_le _, Nat.zero_le _⟩ rfl (Nat.le_of_ble_eq_true rfl) (fun ix13 => ?_)
          obtain ⟨σ14, qσ14, h⟩ := bnd h
          refine g_iast C dX2_keep_47 rfl rfl qσ14 ix9 ix13 ?_
          refine g_iinc (L1 := [some (rv w 164), some (iv (wr (x9 + 1)))]) C dX2_keep_48 rfl rfl (Nat.le_of_ble_eq_true rfl) rfl ?_
          refine g_goto C dX2_keep_51 rfl (tgt := 28) ?_
          obtain rfl := Option.some.inj h
          exact ih8 _ _ (iwr _) (lpL hk8)
    exact hL8 FU _ _ (by decide) hb8
  have hL1 : ∀ (n : Nat) (x2 : Int) (σ3 : St) , InI x2 → lpN (fun a => m_X2_keep_L2 a.1 a.2) n (x2, σ3) = some b1 → GM w p l e rm_X2_keep s m args below meth c none True σ' 2 2 [some (rv w 164), some (iv x2)] [] σ3 := by
    intro n
    induction n with
    | zero => intro x2 σ3 ix2 q; cases q
    | succ n ih1 =>
      intro x2 σ3 ix2 q
      obtain ⟨o1, h, hk1⟩ := lp_step q
      replace h : m_X2_keep_L2 x2 σ3 = some o1 := h
      unfold m_X2_keep_L2 at h
      refine g_iload_n C dX2_keep_2 rfl ?_
      refine g_bipush C dX2_keep_3 rfl ?_
      refine g_icmp_ge C dX2_keep_5 ix2 (by decide) rfl (tgt := 26) (fun c4 => ?_) (fun c4 => ?_)
      · have h := ifT c4 h
        refine g_mask [true, false] ?_
        obtain rfl := Option.some.inj h
        exact hX1 σ3 (lpR hk1).symm
      · have h := ifF c4 h
        refine g_aload_n C dX2_keep_8 rfl ?_
        refine g_getR (j := 1) C dX2_keep_9 rfl (Nat.le_of_ble_eq_true rfl) (Nat.le_of_ble_eq_true rfl) fl_2_15 rfl rfl (r := 166) rfl ?_
        refine g_iload_n C dX2_keep_12 rfl ?_
        refine g_aload_n C dX2_keep_13 rfl ?_
        refine g_getR (j := 4) C dX2_keep_14 rfl (Nat.le_of_ble_eq_true rfl) (Nat.le_of_ble_eq_true rfl) fl_2_21 rfl rfl (r := 168) rfl ?_
        refine g_iload_n C dX2_keep_17 rfl ?_
        obtain ⟨x5, qx5, h⟩ := bnd h
        refine g_iald C dX2_keep_18 rfl rfl qx5 ix2 (fun ix5 => ?_)
        obtain ⟨σ6, qσ6, h⟩ := bnd h
        refine g_iast C dX2_keep_19 rfl rfl qσ6 ix2 ix5 ?_
        refine g_iinc (L1 := [some (rv w 164), some (iv (wr (x2 + 1)))]) C dX2_keep_20 rfl rfl (Nat.le_of_ble_eq_true rfl) rfl ?_
        refine g_goto C dX2_keep_23 rfl (tgt := 2) ?_
        obtain rfl := Option.some.inj h
        exact ih1 _ _ (iwr _) (lpL hk1)
  exact hL1 FU _ _ (by decide) hb1
theorem dX2_nextTry_0 : decode cX2_nextTry 0 = .ok (.bipush 7, 2) := by decide +kernel
theorem dX2_nextTry_2 : decode cX2_nextTry 2 = .ok (.istore_n 2, 1) := by decide +kernel
theorem dX2_nextTry_3 : decode cX2_nextTry 3 = .ok (.iload_n 2, 1) := by decide +kernel
theorem dX2_nextTry_4 : decode cX2_nextTry 4 = .ok (.ifCond .lt 48, 3) := by decide +kernel
theorem dX2_nextTry_7 : decode cX2_nextTry 7 = .ok (.aload_n 0, 1) := by decide +kernel
theorem dX2_nextTry_8 : decode cX2_nextTry 8 = .ok (.getfield 21, 3) := by decide +kernel
theorem dX2_nextTry_11 : decode cX2_nextTry 11 = .ok (.iload_n 2, 1) := by decide +kernel
theorem dX2_nextTry_12 : decode cX2_nextTry 12 = .ok (.iaload, 1) := by decide +kernel
theorem dX2_nextTry_13 : decode cX2_nextTry 13 = .ok (.iconst (-1), 1) := by decide +kernel
theorem dX2_nextTry_14 : decode cX2_nextTry 14 = .ok (.if_icmp .eq 32, 3) := by decide +kernel
theorem dX2_nextTry_17 : decode cX2_nextTry 17 = .ok (.aload_n 0, 1) := by decide +kernel
theorem dX2_nextTry_18 : decode cX2_nextTry 18 = .ok (.getfield 21, 3) := by decide +kernel
theorem dX2_nextTry_21 : decode cX2_nextTry 21 = .ok (.iload_n 2, 1) := by decide +kernel
theorem dX2_nextTry_22 : decode cX2_nextTry 22 = .ok (.dup2, 1) := by decide +kernel
theorem dX2_nextTry_23 : decode cX2_nextTry 23 = .ok (.iaload, 1) := by decide +kernel
theorem dX2_nextTry_24 : decode cX2_nextTry 24 = .ok (.iconst 1, 1) := by decide +kernel
theorem dX2_nextTry_25 : decode cX2_nextTry 25 = .ok (.iadd, 1) := by decide +kernel
theorem dX2_nextTry_26 : decode cX2_nextTry 26 = .ok (.iastore, 1) := by decide +kernel
theorem dX2_nextTry_27 : decode cX2_nextTry 27 = .ok (.aload_n 0, 1) := by decide +kernel
theorem dX2_nextTry_28 : decode cX2_nextTry 28 = .ok (.getfield 21, 3) := by decide +kernel
theorem dX2_nextTry_31 : decode cX2_nextTry 31 = .ok (.iload_n 2, 1) := by decide +kernel
theorem dX2_nextTry_32 : decode cX2_nextTry 32 = .ok (.iaload, 1) := by decide +kernel
theorem dX2_nextTry_33 : decode cX2_nextTry 33 = .ok (.iload_n 1, 1) := by decide +kernel
theorem dX2_nextTry_34 : decode cX2_nextTry 34 = .ok (.if_icmp .ge 5, 3) := by decide +kernel
theorem dX2_nextTry_37 : decode cX2_nextTry 37 = .ok (.iconst 1, 1) := by decide +kernel
theorem dX2_nextTry_38 : decode cX2_nextTry 38 = .ok (.ireturn, 1) := by decide +kernel
theorem dX2_nextTry_39 : decode cX2_nextTry 39 = .ok (.aload_n 0, 1) := by decide +kernel
theorem dX2_nextTry_40 : decode cX2_nextTry 40 = .ok (.getfield 21, 3) := by decide +kernel
theorem dX2_nextTry_43 : decode cX2_nextTry 43 = .ok (.iload_n 2, 1) := by decide +kernel
theorem dX2_nextTry_44 : decode cX2_nextTry 44 = .ok (.iconst 0, 1) := by decide +kernel
theorem dX2_nextTry_45 : decode cX2_nextTry 45 = .ok (.iastore, 1) := by decide +kernel
theorem dX2_nextTry_46 : decode cX2_nextTry 46 = .ok (.iinc 2 (-1), 3) := by decide +kernel
theorem dX2_nextTry_49 : decode cX2_nextTry 49 = .ok (.goto (-46), 3) := by decide +kernel
theorem dX2_nextTry_52 : decode cX2_nextTry 52 = .ok (.iconst 0, 1) := by decide +kernel
theorem dX2_nextTry_53 : decode cX2_nextTry 53 = .ok (.ireturn, 1) := by decide +kernel
abbrev rm_X2_nextTry : Room := { frames := 0, cells := 0, slots := 0, locals := 0 }
set_option maxRecDepth 100000 in
set_option maxHeartbeats 4000000 in
theorem ct_X2_nextTry {w : Wd} {l : Launch} {a1 : Int} {σ : St} {y : Int} {σ' : St} (ia1 : InI a1) (h : m_X2_nextTry a1 σ = some (y, σ')) : Ct w l yX2_nextTry (Cond.code yX2_nextTry cX2_nextTry 3 (some .boolean) :: TB) rm_X2_nextTry [rv w 164, iv a1] σ (some (iv y)) (InZ y) σ' := by
  refine Ct.of2 [some (rv w 164), some (iv a1), none] 1 rfl pn_RX2 (Nat.le_of_ble_eq_true rfl) ?_
  intro p e s m args below meth c C hr hlk
  unfold m_X2_nextTry at h
  refine g_bipush C dX2_nextTry_0 rfl ?_
  refine g_istore_n (L1 := [some (rv w 164), some (iv a1), some (iv 7)]) C dX2_nextTry_2 rfl (Nat.le_of_ble_eq_true rfl) rfl ?_
  obtain ⟨b1, hb1, hF1⟩ := bnd h
  have hX1 : ∀ (σ12 : St) , Sum.inl σ12 = b1 → GM w p l e rm_X2_nextTry s m args below meth c (some (iv y)) (InZ y) σ' 3 52 [none, none, none] [] σ12 := by
    intro σ12 q
    subst q
    have h := hF1
    refine g_iconst C dX2_nextTry_52 ?_
    exact g_zretP C dX2_nextTry_53 hr hlk h (Or.inl rfl)
  have hL1 : ∀ (n : Nat) (x2 : Int) (σ3 : St) , InI x2 → lpN (fun a => m_X2_nextTry_L3 a1 a.1 a.2) n (x2, σ3) = some b1 → GM w p l e rm_X2_nextTry s m args below meth c (some (iv y)) (InZ y) σ' 3 3 [some (rv w 164), some (iv a1), some (iv x2)] [] σ3 := by
    intro n
    induction n with
    | zero => intro x2 σ3 ix2 q; cases q
    | succ n ih1 =>
      intro x2 σ3 ix2 q
      obtain ⟨o1, h, hk1⟩ := lp_step q
      replace h : m_X2_nextTry_L3 a1 x2 σ3 = some o1 := h
      unfold m_X2_nextTry_L3 at h
      refine g_iload_n C dX2_nextTry_3 rfl ?_
      refine g_if_lt C dX2_nextTry_4 ix2 rfl (tgt := 52) (fun c4 => ?_) (fun c4 => ?_)
      · have h := ifT c4 h
        refine g_mask [false, false, false] ?_
        obtain rfl := Option.some.inj h
        exact hX1 σ3 (lpR hk1).symm
      · have h := ifF c4 h
        refine g_aload_n C dX2_nextTry_7 rfl ?_
        refine g_getR (j := 4) C dX2_nextTry_8 rfl (Nat.le_of_ble_eq_true rfl) (Nat.le_of_ble_eq_true rfl) fl_2_21 rfl rfl (r := 168) rfl ?_
        refine g_iload_n C dX2_nextTry_11 rfl ?_
        obtain ⟨x5, qx5, h⟩ := bnd h
        refine g_iald C dX2_nextTry_12 rfl rfl qx5 ix2 (fun ix5 => ?_)
        refine g_iconst C dX2_nextTry_13 ?_
        refine g_icmp_eq C dX2_nextTry_14 ix5 (by decide) rfl (tgt := 46) (fun c6 => ?_) (fun c6 => ?_)
        · have h := ifT c6 h
          refine g_iinc (L1 := [some (rv w 164), some (iv a1), some (iv (wr (x2 + (-1))))]) C dX2_nextTry_46 rfl rfl (Nat.le_of_ble_eq_true rfl) rfl ?_
          refine g_goto C dX2_nextTry_49 rfl (tgt := 3) ?_
          obtain rfl := Option.some.inj h
          exact ih1 _ _ (iwr _) (lpL hk1)
        · have h := ifF c6 h
          refine g_aload_n C dX2_nextTry_17 rfl ?_
          refine g_getR (j := 4) C dX2_nextTry_18 rfl (Nat.le_of_ble_eq_true rfl) (Nat.le_of_ble_eq_true rfl) fl_2_21 rfl rfl (r := 168) rfl ?_
          refine g_iload_n C dX2_nextTry_21 rfl ?_
          refine g_dup2 C dX2_nextTry_22 rfl rfl ?_
          obtain ⟨x7, qx7, h⟩ := bnd h
          refine g_iald C dX2_nextTry_23 rfl rfl qx7 ix2 (fun ix7 => ?_)
          refine g_iconst C dX2_nextTry_24 ?_
          refine g_iadd C dX2_nextTry_25 ?_
          obtain ⟨σ8, qσ8, h⟩ := bnd h
          refine g_iast C dX2_nextTry_26 rfl rfl qσ8 ix2 (iwr _) ?_
          refine g_aload_n C dX2_nextTry_27 rfl ?_
          refine g_getR (j := 4) C dX2_nextTry_28 rfl (Nat.le_of_ble_eq_true rfl) (Nat.le_of_ble_eq_true rfl) fl_2_21 rfl rfl (r := 168) rfl ?_
          refine g_iload_n C dX2_nextTry_31 rfl ?_
          obtain ⟨x9, qx9, h⟩ := bnd h
          refine g_iald C dX2_nextTry_32 rfl rfl qx9 ix2 (fun ix9 => ?_)
          refine g_iload_n C dX2_nextTry_33 rfl ?_
          refine g_icmp_ge C dX2_nextTry_34 ix9 ia1 rfl (tgt := 39) (fun c10 => ?_) (fun c10 => ?_)
          · have h := ifT c10 h
            refine g_aload_n C dX2_nextTry_39 rfl ?_
            refine g_getR (j := 4) C dX2_nextTry_40 rfl (Nat.le_of_ble_eq_true rfl) (Nat.le_of_ble_eq_true rfl) fl_2_21 rfl rfl (r := 168) rfl ?_
            refine g_iload_n C dX2_nextTry_43 rfl ?_
            refine g_iconst C dX2_nextTry_44 ?_
            obtain ⟨σ11, qσ11, h⟩ := bnd h
            refine g_iast C dX2_nextTry_45 rfl rfl qσ11 ix2 (by decide) ?_
            refine g_iinc (L1 := [some (rv w 164), some (iv a1), some (iv (wr (x2 + (-1))))]) C dX2_nextTry_46 rfl rfl (Nat.le_of_ble_eq_true rfl) rfl ?_
            refine g_goto C dX2_nextTry_49 rfl (tgt := 3) ?_
            obtain rfl := Option.some.inj h
            exact ih1 _ _ (iwr _) (lpL hk1)
          · have h := ifF c10 h
            refine g_iconst C dX2_nextTry_37 ?_
            obtain rfl := Option.some.inj h
            have e1 := (lpR hk1).symm
            subst e1
            have h := hF1
            exact g_zretP C dX2_nextTry_38 hr hlk h (Or.inr rfl)
  exact hL1 FU _ _ (by decide) hb1
theorem dX2_choose_0 : decode cX2_choose 0 = .ok (.aload_n 0, 1) := by decide +kernel
theorem dX2_choose_1 : decode cX2_choose 1 = .ok (.iload_n 2, 1) := by decide +kernel
theorem dX2_choose_2 : decode cX2_choose 2 = .ok (.putfield 27, 3) := by decide +kernel
theorem dX2_choose_5 : decode cX2_choose 5 = .ok (.iconst 0, 1) := by decide +kernel
theorem dX2_choose_6 : decode cX2_choose 6 = .ok (.istore_n 3, 1) := by decide +kernel
theorem dX2_choose_7 : decode cX2_choose 7 = .ok (.iload_n 3, 1) := by decide +kernel
theorem dX2_choose_8 : decode cX2_choose 8 = .ok (.bipush 8, 2) := by decide +kernel
theorem dX2_choose_10 : decode cX2_choose 10 = .ok (.if_icmp .ge 28, 3) := by decide +kernel
theorem dX2_choose_13 : decode cX2_choose 13 = .ok (.aload_n 0, 1) := by decide +kernel
theorem dX2_choose_14 : decode cX2_choose 14 = .ok (.getfield 21, 3) := by decide +kernel
theorem dX2_choose_17 : decode cX2_choose 17 = .ok (.iload_n 3, 1) := by decide +kernel
theorem dX2_choose_18 : decode cX2_choose 18 = .ok (.iload_n 1, 1) := by decide +kernel
theorem dX2_choose_19 : decode cX2_choose 19 = .ok (.iload_n 3, 1) := by decide +kernel
theorem dX2_choose_20 : decode cX2_choose 20 = .ok (.ishr, 1) := by decide +kernel
theorem dX2_choose_21 : decode cX2_choose 21 = .ok (.iconst 1, 1) := by decide +kernel
theorem dX2_choose_22 : decode cX2_choose 22 = .ok (.iand, 1) := by decide +kernel
theorem dX2_choose_23 : decode cX2_choose 23 = .ok (.ifCond .eq 7, 3) := by decide +kernel
theorem dX2_choose_26 : decode cX2_choose 26 = .ok (.iconst 0, 1) := by decide +kernel
theorem dX2_choose_27 : decode cX2_choose 27 = .ok (.goto 4, 3) := by decide +kernel
theorem dX2_choose_30 : decode cX2_choose 30 = .ok (.iconst (-1), 1) := by decide +kernel
theorem dX2_choose_31 : decode cX2_choose 31 = .ok (.iastore, 1) := by decide +kernel
theorem dX2_choose_32 : decode cX2_choose 32 = .ok (.iinc 3 1, 3) := by decide +kernel
theorem dX2_choose_35 : decode cX2_choose 35 = .ok (.goto (-28), 3) := by decide +kernel
theorem dX2_choose_38 : decode cX2_choose 38 = .ok (.iconst (-1), 1) := by decide +kernel
theorem dX2_choose_39 : decode cX2_choose 39 = .ok (.istore_n 3, 1) := by decide +kernel
theorem dX2_choose_40 : decode cX2_choose 40 = .ok (.iconst 1, 1) := by decide +kernel
theorem dX2_choose_41 : decode cX2_choose 41 = .ok (.istore 4, 2) := by decide +kernel
theorem dX2_choose_43 : decode cX2_choose 43 = .ok (.iconst 0, 1) := by decide +kernel
theorem dX2_choose_44 : decode cX2_choose 44 = .ok (.istore 5, 2) := by decide +kernel
theorem dX2_choose_46 : decode cX2_choose 46 = .ok (.iload 5, 2) := by decide +kernel
theorem dX2_choose_48 : decode cX2_choose 48 = .ok (.sipush 10000, 3) := by decide +kernel
theorem dX2_choose_51 : decode cX2_choose 51 = .ok (.if_icmp .ge 45, 3) := by decide +kernel
theorem dX2_choose_54 : decode cX2_choose 54 = .ok (.iload 4, 2) := by decide +kernel
theorem dX2_choose_56 : decode cX2_choose 56 = .ok (.ifCond .eq 40, 3) := by decide +kernel
theorem dX2_choose_59 : decode cX2_choose 59 = .ok (.aload_n 0, 1) := by decide +kernel
theorem dX2_choose_60 : decode cX2_choose 60 = .ok (.invokevirtual 31, 3) := by decide +kernel
theorem dX2_choose_63 : decode cX2_choose 63 = .ok (.istore 6, 2) := by decide +kernel
theorem dX2_choose_65 : decode cX2_choose 65 = .ok (.iload_n 3, 1) := by decide +kernel
theorem dX2_choose_66 : decode cX2_choose 66 = .ok (.iconst (-1), 1) := by decide +kernel
theorem dX2_choose_67 : decode cX2_choose 67 = .ok (.if_icmp .eq 9, 3) := by decide +kernel
theorem dX2_choose_70 : decode cX2_choose 70 = .ok (.iload 6, 2) := by decide +kernel
theorem dX2_choose_72 : decode cX2_choose 72 = .ok (.iload_n 3, 1) := by decide +kernel
theorem dX2_choose_73 : decode cX2_choose 73 = .ok (.if_icmp .ge 10, 3) := by decide +kernel
theorem dX2_choose_76 : decode cX2_choose 76 = .ok (.iload 6, 2) := by decide +kernel
theorem dX2_choose_78 : decode cX2_choose 78 = .ok (.istore_n 3, 1) := by decide +kernel
theorem dX2_choose_79 : decode cX2_choose 79 = .ok (.aload_n 0, 1) := by decide +kernel
theorem dX2_choose_80 : decode cX2_choose 80 = .ok (.invokevirtual 35, 3) := by decide +kernel
theorem dX2_choose_83 : decode cX2_choose 83 = .ok (.aload_n 0, 1) := by decide +kernel
theorem dX2_choose_84 : decode cX2_choose 84 = .ok (.iload_n 2, 1) := by decide +kernel
theorem dX2_choose_85 : decode cX2_choose 85 = .ok (.invokevirtual 38, 3) := by decide +kernel
theorem dX2_choose_88 : decode cX2_choose 88 = .ok (.istore 4, 2) := by decide +kernel
theorem dX2_choose_90 : decode cX2_choose 90 = .ok (.iinc 5 1, 3) := by decide +kernel
theorem dX2_choose_93 : decode cX2_choose 93 = .ok (.goto (-47), 3) := by decide +kernel
theorem dX2_choose_96 : decode cX2_choose 96 = .ok (.iload_n 3, 1) := by decide +kernel
theorem dX2_choose_97 : decode cX2_choose 97 = .ok (.ireturn, 1) := by decide +kernel
abbrev rm_X2_choose : Room := { frames := 2, cells := 0, slots := 0, locals := 43 }
set_option maxRecDepth 100000 in
set_option maxHeartbeats 4000000 in
theorem ct_X2_choose {w : Wd} {l : Launch} {a1 : Int} {a2 : Int} {σ : St} {y : Int} {σ' : St} (ia1 : InI a1) (ia2 : InI a2) (h : m_X2_choose a1 a2 σ = some (y, σ')) : Ct w l yX2_choose (Cond.code yX2_choose cX2_choose 7 (some .int) :: TB) rm_X2_choose [rv w 164, iv a1, iv a2] σ (some (iv y)) (InI y) σ' := by
  refine Ct.of2 [some (rv w 164), some (iv a1), some (iv a2), none, none, none, none] 4 rfl pn_RX2 (Nat.le_of_ble_eq_true rfl) ?_
  intro p e s m args below meth c C hr hlk
  unfold m_X2_choose at h
  refine g_aload_n C dX2_choose_0 rfl ?_
  refine g_iload_n C dX2_choose_1 rfl ?_
  obtain ⟨σ1, qσ1, h⟩ := bnd h
  refine g_putI (j := 3) C dX2_choose_2 rfl (Nat.le_of_ble_eq_true rfl) (Nat.le_of_ble_eq_true rfl) fl_2_27 rfl rfl rfl rfl qσ1 ia2 ?_
  refine g_iconst C dX2_choose_5 ?_
  refine g_istore_n (L1 := [some (rv w 164), some (iv a1), some (iv a2), some (iv 0), none, none, none]) C dX2_choose_6 rfl (Nat.le_of_ble_eq_true rfl) rfl ?_
  obtain ⟨b2, hb2, hF2⟩ := bnd h
  have hX2 : ∀ (σ9 : St) , σ9 = b2 → GM w p l e rm_X2_choose s m args below meth c (some (iv y)) (InI y) σ' 7 38 [some (rv w 164), none, some (iv a2), none, none, none, none] [] σ9 := by
    intro σ9 q
    subst q
    have h := hF2
    refine g_iconst C dX2_choose_38 ?_
    refine g_istore_n (L1 := [some (rv w 164), none, some (iv a2), some (iv (-1)), none, none, none]) C dX2_choose_39 rfl (Nat.le_of_ble_eq_true rfl) rfl ?_
    refine g_iconst C dX2_choose_40 ?_
    refine g_istore (L1 := [some (rv w 164), none, some (iv a2), some (iv (-1)), some (iv 1), none, none]) C dX2_choose_41 rfl (Nat.le_of_ble_eq_true rfl) rfl ?_
    refine g_iconst C dX2_choose_43 ?_
    refine g_istore (L1 := [some (rv w 164), none, some (iv a2), some (iv (-1)), some (iv 1), some (iv 0), none]) C dX2_choose_44 rfl (Nat.le_of_ble_eq_true rfl) rfl ?_
    obtain ⟨b10, hb10, hF10⟩ := bnd h
    have hX10 : ∀ (x27 : Int) (σ28 : St) , InI x27 → (x27, σ28) = b10 → GM w p l e rm_X2_choose s m args below meth c (some (iv y)) (InI y) σ' 7 96 [none, none, none, some (iv x27), none, none, none] [] σ28 := by
      intro x27 σ28 ix27 q
      subst q
      have h := hF10
      refine g_iload_n C dX2_choose_96 rfl ?_
      exact g_iretP C dX2_choose_97 hr hlk h ix27
    have hL10 : ∀ (n : Nat) (x11 : Int) (x12 : Int) (x13 : Int) (σ14 : St) , InI x11 → InZ x12 → InI x13 → lpN (fun a => m_X2_choose_L46 a2 a.1 a.2.1 a.2.2.1 a.2.2.2) n (x11, x12, x13, σ14) = some b10 → GM w p l e rm_X2_choose s m args below meth c (some (iv y)) (InI y) σ' 7 46 [some (rv w 164), none, some (iv a2), some (iv x11), some (iv x12), some (iv x13), none] [] σ14 := by
      intro n
      induction n with
      | zero => intro x11 x12 x13 σ14 ix11 ix12 ix13 q; cases q
      | succ n ih10 =>
        intro x11 x12 x13 σ14 ix11 ix12 ix13 q
        obtain ⟨o10, h, hk10⟩ := lp_step q
        replace h : m_X2_choose_L46 a2 x11 x12 x13 σ14 = some o10 := h
        unfold m_X2_choose_L46 at h
        refine g_iload C dX2_choose_46 rfl ?_
        refine g_sipush C dX2_choose_48 rfl ?_
        refine g_icmp_ge C dX2_choose_51 ix13 (by decide) rfl (tgt := 96) (fun c15 => ?_) (fun c15 => ?_)
        · have h := ifT c15 h
          refine g_mask [false, true, false, true, false, false, true] ?_
          obtain rfl := Option.some.inj h
          exact hX10 x11 σ14 ix11 (lpR hk10).symm
        · have h := ifF c15 h
          refine g_iload C dX2_choose_54 rfl ?_
          refine g_if_eq C dX2_choose_56 (zI ix12) rfl (tgt := 96) (fun c16 => ?_) (fun c16 => ?_)
          · have h := ifT c16 h
            refine g_mask [false, true, false, true, false, false, true] ?_
            obtain rfl := Option.some.inj h
            exact hX10 x11 σ14 ix11 (lpR hk10).symm
          · have h := ifF c16 h
            refine g_aload_n C dX2_choose_59 rfl ?_
            obtain ⟨⟨x17, σ18⟩, qx17, h⟩ := bnd h
            refine g_callV1 (As := []) C dX2_choose_60 mi_X2_worstDoubt ml_2_31 (ct_X2_worstDoubt qx17) rfl rfl ⟨rfl, rfl⟩ ⟨Nat.le_of_ble_eq_true rfl, Nat.le_of_ble_eq_true rfl⟩ ⟨Nat.zero_le _, Nat.zero_le _⟩ rfl (Nat.le_of_ble_eq_true rfl) (fun ix17 => ?_)
            refine g_istore (L1 := [some (rv w 164), none, some (iv a2), some (iv x11), some (iv x12), some (iv x13), some (iv x17)]) C dX2_choose_63 rfl (Nat.le_of_ble_eq_true rfl) rfl ?_
            refine g_iload_n C dX2_choose_65 rfl ?_
            refine g_iconst C dX2_choose_66 ?_
            have hJ76_26 : m_X2_choose_J76 σ18 a2 x17 x13 = some o10 → GM w p l e rm_X2_choose s m args below meth c (some (iv y)) (InI y) σ' 7 76 [some (rv w 164), none, some (iv a2), none, none, some (iv x13), some (iv x17)] [] σ18 := by
              intro h
              unfold m_X2_choose_J76 at h
              refine g_iload C dX2_choose_76 rfl ?_
              refine g_istore_n (L1 := [some (rv w 164), none, some (iv a2), some (iv x17), none, some (iv x13), some (iv x17)]) C dX2_choose_78 rfl (Nat.le_of_ble_eq_true rfl) rfl ?_
              refine g_aload_n C dX2_choose_79 rfl ?_
              obtain ⟨σ23, qσ23, h⟩ := bnd h
              refine g_callV0 (As := []) C dX2_choose_80 mi_X2_keep ml_2_35 (ct_X2_keep qσ23) rfl rfl ⟨rfl, rfl⟩ ⟨Nat.le_of_ble_eq_true rfl, Nat.le_of_ble_eq_true rfl⟩ ⟨Nat.zero_le _, Nat.zero_le _⟩ rfl (Nat.le_of_ble_eq_true rfl) (fun _ => ?_)
              refine g_aload_n C dX2_choose_83 rfl ?_
              refine g_iload_n C dX2_choose_84 rfl ?_
              obtain ⟨⟨x24, σ25⟩, qx24, h⟩ := bnd h
              refine g_callV1 (As := [iv a2]) C dX2_choose_85 mi_X2_nextTry ml_2_38 (ct_X2_nextTry ia2 qx24) rfl rfl ⟨rfl, rfl⟩ ⟨Nat.le_of_ble_eq_true rfl, Nat.le_of_ble_eq_true rfl⟩ ⟨Nat.zero_le _, Nat.zero_le _⟩ rfl (Nat.le_of_ble_eq_true rfl) (fun ix24 => ?_)
              refine g_istore (L1 := [some (rv w 164), none, some (iv a2), some (iv x17), some (iv x24), some (iv x13), some (iv x17)]) C dX2_choose_88 rfl (Nat.le_of_ble_eq_true rfl) rfl ?_
              refine g_iinc (L1 := [some (rv w 164), none, some (iv a2), some (iv x17), some (iv x24), some (iv (wr (x13 + 1))), some (iv x17)]) C dX2_choose_90 rfl rfl (Nat.le_of_ble_eq_true rfl) rfl ?_
              refine g_goto C dX2_choose_93 rfl (tgt := 46) ?_
              refine g_mask [true, true, true, true, true, true, false] ?_
              obtain rfl := Option.some.inj h
              exact ih10 _ _ _ _ ix17 ix24 (iwr _) (lpL hk10)
            refine g_icmp_eq C dX2_choose_67 ix11 (by decide) rfl (tgt := 76) (fun c19 => ?_) (fun c19 => ?_)
            · have h := ifT c19 h
              refine g_mask [true, true, true, false, false, true, true] ?_
              exact hJ76_26  h
            · have h := ifF c19 h
              refine g_iload C dX2_choose_70 rfl ?_
              refine g_iload_n C dX2_choose_72 rfl ?_
              refine g_icmp_ge C dX2_choose_73 ix17 ix11 rfl (tgt := 83) (fun c20 => ?_) (fun c20 => ?_)
              · have h := ifT c20 h
                refine g_aload_n C dX2_choose_83 rfl ?_
                refine g_iload_n C dX2_choose_84 rfl ?_
                obtain ⟨⟨x21, σ22⟩, qx21, h⟩ := bnd h
                refine g_callV1 (As := [iv a2]) C dX2_choose_85 mi_X2_nextTry ml_2_38 (ct_X2_nextTry ia2 qx21) rfl rfl ⟨rfl, rfl⟩ ⟨Nat.le_of_ble_eq_true rfl, Nat.le_of_ble_eq_true rfl⟩ ⟨Nat.zero_le _, Nat.zero_le _⟩ rfl (Nat.le_of_ble_eq_true rfl) (fun ix21 => ?_)
                refine g_istore (L1 := [some (rv w 164), none, some (iv a2), some (iv x11), some (iv x21), some (iv x13), some (iv x17)]) C dX2_choose_88 rfl (Nat.le_of_ble_eq_true rfl) rfl ?_
                refine g_iinc (L1 := [some (rv w 164), none, some (iv a2), some (iv x11), some (iv x21), some (iv (wr (x13 + 1))), some (iv x17)]) C dX2_choose_90 rfl rfl (Nat.le_of_ble_eq_true rfl) rfl ?_
                refine g_goto C dX2_choose_93 rfl (tgt := 46) ?_
                refine g_mask [true, true, true, true, true, true, false] ?_
                obtain rfl := Option.some.inj h
                exact ih10 _ _ _ _ ix11 ix21 (iwr _) (lpL hk10)
              · have h := ifF c20 h
                refine g_mask [true, true, true, false, false, true, true] ?_
                exact hJ76_26  h
    exact hL10 FU _ _ _ _ (by decide) (Or.inr rfl) (by decide) hb10
  have hL2 : ∀ (n : Nat) (x3 : Int) (σ4 : St) , InI x3 → lpN (fun a => m_X2_choose_L7 a1 a.1 a.2) n (x3, σ4) = some b2 → GM w p l e rm_X2_choose s m args below meth c (some (iv y)) (InI y) σ' 7 7 [some (rv w 164), some (iv a1), some (iv a2), some (iv x3), none, none, none] [] σ4 := by
    intro n
    induction n with
    | zero => intro x3 σ4 ix3 q; cases q
    | succ n ih2 =>
      intro x3 σ4 ix3 q
      obtain ⟨o2, h, hk2⟩ := lp_step q
      replace h : m_X2_choose_L7 a1 x3 σ4 = some o2 := h
      unfold m_X2_choose_L7 at h
      refine g_iload_n C dX2_choose_7 rfl ?_
      refine g_bipush C dX2_choose_8 rfl ?_
      refine g_icmp_ge C dX2_choose_10 ix3 (by decide) rfl (tgt := 38) (fun c5 => ?_) (fun c5 => ?_)
      · have h := ifT c5 h
        refine g_mask [true, false, true, false, true, true, true] ?_
        obtain rfl := Option.some.inj h
        exact hX2 σ4 (lpR hk2).symm
      · have h := ifF c5 h
        refine g_aload_n C dX2_choose_13 rfl ?_
        refine g_getR (j := 4) C dX2_choose_14 rfl (Nat.le_of_ble_eq_true rfl) (Nat.le_of_ble_eq_true rfl) fl_2_21 rfl rfl (r := 168) rfl ?_
        refine g_iload_n C dX2_choose_17 rfl ?_
        refine g_iload_n C dX2_choose_18 rfl ?_
        refine g_iload_n C dX2_choose_19 rfl ?_
        refine g_ishr C dX2_choose_20 ?_
        refine g_iconst C dX2_choose_21 ?_
        refine g_iand C dX2_choose_22 ?_
        refine g_if_eq C dX2_choose_23 (iand _ _) rfl (tgt := 30) (fun c6 => ?_) (fun c6 => ?_)
        · have h := ifT c6 h
          refine g_iconst C dX2_choose_30 ?_
          obtain ⟨σ7, qσ7, h⟩ := bnd h
          refine g_iast C dX2_choose_31 rfl rfl qσ7 ix3 (by decide) ?_
          refine g_iinc (L1 := [some (rv w 164), some (iv a1), some (iv a2), some (iv (wr (x3 + 1))), none, none, none]) C dX2_choose_32 rfl rfl (Nat.le_of_ble_eq_true rfl) rfl ?_
          refine g_goto C dX2_choose_35 rfl (tgt := 7) ?_
          obtain rfl := Option.some.inj h
          exact ih2 _ _ (iwr _) (lpL hk2)
        · have h := ifF c6 h
          refine g_iconst C dX2_choose_26 ?_
          refine g_goto C dX2_choose_27 rfl (tgt := 31) ?_
          obtain ⟨σ8, qσ8, h⟩ := bnd h
          refine g_iast C dX2_choose_31 rfl rfl qσ8 ix3 (by decide) ?_
          refine g_iinc (L1 := [some (rv w 164), some (iv a1), some (iv a2), some (iv (wr (x3 + 1))), none, none, none]) C dX2_choose_32 rfl rfl (Nat.le_of_ble_eq_true rfl) rfl ?_
          refine g_goto C dX2_choose_35 rfl (tgt := 7) ?_
          obtain rfl := Option.some.inj h
          exact ih2 _ _ (iwr _) (lpL hk2)
  exact hL2 FU _ _ (by decide) hb2
theorem dX11_isTick_0 : decode cX11_isTick 0 = .ok (.iload_n 0, 1) := by decide +kernel
theorem dX11_isTick_1 : decode cX11_isTick 1 = .ok (.ifCond .lt 13, 3) := by decide +kernel
theorem dX11_isTick_4 : decode cX11_isTick 4 = .ok (.iload_n 0, 1) := by decide +kernel
theorem dX11_isTick_5 : decode cX11_isTick 5 = .ok (.bipush 96, 2) := by decide +kernel
theorem dX11_isTick_7 : decode cX11_isTick 7 = .ok (.if_icmp .ge 7, 3) := by decide +kernel
theorem dX11_isTick_10 : decode cX11_isTick 10 = .ok (.iconst 1, 1) := by decide +kernel
theorem dX11_isTick_11 : decode cX11_isTick 11 = .ok (.goto 4, 3) := by decide +kernel
theorem dX11_isTick_14 : decode cX11_isTick 14 = .ok (.iconst 0, 1) := by decide +kernel
theorem dX11_isTick_15 : decode cX11_isTick 15 = .ok (.ireturn, 1) := by decide +kernel
abbrev rm_X11_isTick : Room := { frames := 0, cells := 0, slots := 0, locals := 0 }
set_option maxRecDepth 100000 in
set_option maxHeartbeats 4000000 in
theorem ct_X11_isTick {w : Wd} {l : Launch} {a1 : Int} {σ : St} {y : Int} (ia1 : InI a1) (h : m_X11_isTick a1 σ = some y) : Ct w l yX11_isTick (Cond.code yX11_isTick cX11_isTick 1 (some .boolean) :: TB) rm_X11_isTick [iv a1] σ (some (iv y)) (InZ y) σ := by
  refine Ct.of2 [some (iv a1)] 0 rfl pn_RX11 (Nat.le_of_ble_eq_true rfl) ?_
  intro p e s m args below meth c C hr hlk
  unfold m_X11_isTick at h
  refine g_iload_n C dX11_isTick_0 rfl ?_
  refine g_if_lt C dX11_isTick_1 ia1 rfl (tgt := 14) (fun c1 => ?_) (fun c1 => ?_)
  · have h := ifT c1 h
    refine g_iconst C dX11_isTick_14 ?_
    exact g_zretU C dX11_isTick_15 hr hlk h (Or.inl rfl)
  · have h := ifF c1 h
    refine g_iload_n C dX11_isTick_4 rfl ?_
    refine g_bipush C dX11_isTick_5 rfl ?_
    refine g_icmp_ge C dX11_isTick_7 ia1 (by decide) rfl (tgt := 14) (fun c2 => ?_) (fun c2 => ?_)
    · have h := ifT c2 h
      refine g_iconst C dX11_isTick_14 ?_
      exact g_zretU C dX11_isTick_15 hr hlk h (Or.inl rfl)
    · have h := ifF c2 h
      refine g_iconst C dX11_isTick_10 ?_
      refine g_goto C dX11_isTick_11 rfl (tgt := 15) ?_
      exact g_zretU C dX11_isTick_15 hr hlk h (Or.inr rfl)
theorem dX6_noteSights_0 : decode cX6_noteSights 0 = .ok (.iconst 0, 1) := by decide +kernel
theorem dX6_noteSights_1 : decode cX6_noteSights 1 = .ok (.istore_n 2, 1) := by decide +kernel
theorem dX6_noteSights_2 : decode cX6_noteSights 2 = .ok (.iload_n 2, 1) := by decide +kernel
theorem dX6_noteSights_3 : decode cX6_noteSights 3 = .ok (.bipush 96, 2) := by decide +kernel
theorem dX6_noteSights_5 : decode cX6_noteSights 5 = .ok (.if_icmp .ge 16, 3) := by decide +kernel
theorem dX6_noteSights_8 : decode cX6_noteSights 8 = .ok (.aload_n 0, 1) := by decide +kernel
theorem dX6_noteSights_9 : decode cX6_noteSights 9 = .ok (.getfield 19, 3) := by decide +kernel
theorem dX6_noteSights_12 : decode cX6_noteSights 12 = .ok (.iload_n 2, 1) := by decide +kernel
theorem dX6_noteSights_13 : decode cX6_noteSights 13 = .ok (.iconst (-1), 1) := by decide +kernel
theorem dX6_noteSights_14 : decode cX6_noteSights 14 = .ok (.iastore, 1) := by decide +kernel
theorem dX6_noteSights_15 : decode cX6_noteSights 15 = .ok (.iinc 2 1, 3) := by decide +kernel
theorem dX6_noteSights_18 : decode cX6_noteSights 18 = .ok (.goto (-16), 3) := by decide +kernel
theorem dX6_noteSights_21 : decode cX6_noteSights 21 = .ok (.iconst 0, 1) := by decide +kernel
theorem dX6_noteSights_22 : decode cX6_noteSights 22 = .ok (.istore_n 2, 1) := by decide +kernel
theorem dX6_noteSights_23 : decode cX6_noteSights 23 = .ok (.iload_n 2, 1) := by decide +kernel
theorem dX6_noteSights_24 : decode cX6_noteSights 24 = .ok (.aload_n 0, 1) := by decide +kernel
theorem dX6_noteSights_25 : decode cX6_noteSights 25 = .ok (.getfield 36, 3) := by decide +kernel
theorem dX6_noteSights_28 : decode cX6_noteSights 28 = .ok (.getfield 61, 3) := by decide +kernel
theorem dX6_noteSights_31 : decode cX6_noteSights 31 = .ok (.if_icmp .ge 77, 3) := by decide +kernel
theorem dX6_noteSights_34 : decode cX6_noteSights 34 = .ok (.aload_n 0, 1) := by decide +kernel
theorem dX6_noteSights_35 : decode cX6_noteSights 35 = .ok (.getfield 36, 3) := by decide +kernel
theorem dX6_noteSights_38 : decode cX6_noteSights 38 = .ok (.iload_n 2, 1) := by decide +kernel
theorem dX6_noteSights_39 : decode cX6_noteSights 39 = .ok (.iconst 1, 1) := by decide +kernel
theorem dX6_noteSights_40 : decode cX6_noteSights 40 = .ok (.invokevirtual 65, 3) := by decide +kernel
theorem dX6_noteSights_43 : decode cX6_noteSights 43 = .ok (.ifCond .eq 59, 3) := by decide +kernel
theorem dX6_noteSights_46 : decode cX6_noteSights 46 = .ok (.aload_n 0, 1) := by decide +kernel
theorem dX6_noteSights_47 : decode cX6_noteSights 47 = .ok (.getfield 36, 3) := by decide +kernel
theorem dX6_noteSights_50 : decode cX6_noteSights 50 = .ok (.getfield 69, 3) := by decide +kernel
theorem dX6_noteSights_53 : decode cX6_noteSights 53 = .ok (.iload_n 2, 1) := by decide +kernel
theorem dX6_noteSights_54 : decode cX6_noteSights 54 = .ok (.iaload, 1) := by decide +kernel
theorem dX6_noteSights_55 : decode cX6_noteSights 55 = .ok (.iload_n 1, 1) := by decide +kernel
theorem dX6_noteSights_56 : decode cX6_noteSights 56 = .ok (.if_icmp .ne 46, 3) := by decide +kernel
theorem dX6_noteSights_59 : decode cX6_noteSights 59 = .ok (.aload_n 0, 1) := by decide +kernel
theorem dX6_noteSights_60 : decode cX6_noteSights 60 = .ok (.getfield 36, 3) := by decide +kernel
theorem dX6_noteSights_63 : decode cX6_noteSights 63 = .ok (.getfield 72, 3) := by decide +kernel
theorem dX6_noteSights_66 : decode cX6_noteSights 66 = .ok (.iload_n 2, 1) := by decide +kernel
theorem dX6_noteSights_67 : decode cX6_noteSights 67 = .ok (.iaload, 1) := by decide +kernel
theorem dX6_noteSights_68 : decode cX6_noteSights 68 = .ok (.invokestatic 75, 3) := by decide +kernel
theorem dX6_noteSights_71 : decode cX6_noteSights 71 = .ok (.ifCond .eq 31, 3) := by decide +kernel
theorem dX6_noteSights_74 : decode cX6_noteSights 74 = .ok (.aload_n 0, 1) := by decide +kernel
theorem dX6_noteSights_75 : decode cX6_noteSights 75 = .ok (.getfield 19, 3) := by decide +kernel
theorem dX6_noteSights_78 : decode cX6_noteSights 78 = .ok (.aload_n 0, 1) := by decide +kernel
theorem dX6_noteSights_79 : decode cX6_noteSights 79 = .ok (.getfield 36, 3) := by decide +kernel
theorem dX6_noteSights_82 : decode cX6_noteSights 82 = .ok (.getfield 72, 3) := by decide +kernel
theorem dX6_noteSights_85 : decode cX6_noteSights 85 = .ok (.iload_n 2, 1) := by decide +kernel
theorem dX6_noteSights_86 : decode cX6_noteSights 86 = .ok (.iaload, 1) := by decide +kernel
theorem dX6_noteSights_87 : decode cX6_noteSights 87 = .ok (.dup2, 1) := by decide +kernel
theorem dX6_noteSights_88 : decode cX6_noteSights 88 = .ok (.iaload, 1) := by decide +kernel
theorem dX6_noteSights_89 : decode cX6_noteSights 89 = .ok (.iconst 1, 1) := by decide +kernel
theorem dX6_noteSights_90 : decode cX6_noteSights 90 = .ok (.aload_n 0, 1) := by decide +kernel
theorem dX6_noteSights_91 : decode cX6_noteSights 91 = .ok (.getfield 36, 3) := by decide +kernel
theorem dX6_noteSights_94 : decode cX6_noteSights 94 = .ok (.getfield 79, 3) := by decide +kernel
theorem dX6_noteSights_97 : decode cX6_noteSights 97 = .ok (.iload_n 2, 1) := by decide +kernel
theorem dX6_noteSights_98 : decode cX6_noteSights 98 = .ok (.iaload, 1) := by decide +kernel
theorem dX6_noteSights_99 : decode cX6_noteSights 99 = .ok (.ishl, 1) := by decide +kernel
theorem dX6_noteSights_100 : decode cX6_noteSights 100 = .ok (.iand, 1) := by decide +kernel
theorem dX6_noteSights_101 : decode cX6_noteSights 101 = .ok (.iastore, 1) := by decide +kernel
theorem dX6_noteSights_102 : decode cX6_noteSights 102 = .ok (.iinc 2 1, 3) := by decide +kernel
theorem dX6_noteSights_105 : decode cX6_noteSights 105 = .ok (.goto (-82), 3) := by decide +kernel
theorem dX6_noteSights_108 : decode cX6_noteSights 108 = .ok (.return_, 1) := by decide +kernel
abbrev rm_X6_noteSights : Room := { frames := 2, cells := 0, slots := 0, locals := 44 }
set_option maxRecDepth 100000 in
set_option maxHeartbeats 4000000 in
theorem ct_X6_noteSights {w : Wd} {l : Launch} {a1 : Int} {σ : St} {σ' : St} (ia1 : InI a1) (h : m_X6_noteSights a1 σ = some σ') : Ct w l yX6_noteSights (Cond.code yX6_noteSights cX6_noteSights 3 none :: TB) rm_X6_noteSights [rv w 95, iv a1] σ none True σ' := by
  refine Ct.of2 [some (rv w 95), some (iv a1), none] 1 rfl pn_RX6 (Nat.le_of_ble_eq_true rfl) ?_
  intro p e s m args below meth c C hr hlk
  unfold m_X6_noteSights at h
  refine g_iconst C dX6_noteSights_0 ?_
  refine g_istore_n (L1 := [some (rv w 95), some (iv a1), some (iv 0)]) C dX6_noteSights_1 rfl (Nat.le_of_ble_eq_true rfl) rfl ?_
  obtain ⟨b1, hb1, hF1⟩ := bnd h
  have hX1 : ∀ (σ6 : St) , σ6 = b1 → GM w p l e rm_X6_noteSights s m args below meth c none True σ' 3 21 [some (rv w 95), some (iv a1), none] [] σ6 := by
    intro σ6 q
    subst q
    have h := hF1
    refine g_iconst C dX6_noteSights_21 ?_
    refine g_istore_n (L1 := [some (rv w 95), some (iv a1), some (iv 0)]) C dX6_noteSights_22 rfl (Nat.le_of_ble_eq_true rfl) rfl ?_
    obtain ⟨b7, hb7, hF7⟩ := bnd h
    have hX7 : ∀ (σ23 : St) , σ23 = b7 → GM w p l e rm_X6_noteSights s m args below meth c none True σ' 3 108 [none, none, none] [] σ23 := by
      intro σ23 q
      subst q
      have h := hF7
      exact g_vretP C dX6_noteSights_108 hr hlk h
    have hL7 : ∀ (n : Nat) (x8 : Int) (σ9 : St) , InI x8 → lpN (fun a => m_X6_noteSights_L23 a1 a.1 a.2) n (x8, σ9) = some b7 → GM w p l e rm_X6_noteSights s m args below meth c none True σ' 3 23 [some (rv w 95), some (iv a1), some (iv x8)] [] σ9 := by
      intro n
      induction n with
      | zero => intro x8 σ9 ix8 q; cases q
      | succ n ih7 =>
        intro x8 σ9 ix8 q
        obtain ⟨o7, h, hk7⟩ := lp_step q
        replace h : m_X6_noteSights_L23 a1 x8 σ9 = some o7 := h
        unfold m_X6_noteSights_L23 at h
        refine g_iload_n C dX6_noteSights_23 rfl ?_
        refine g_aload_n C dX6_noteSights_24 rfl ?_
        refine g_getR (j := 3) C dX6_noteSights_25 rfl (Nat.le_of_ble_eq_true rfl) (Nat.le_of_ble_eq_true rfl) fl_6_36 rfl rfl (r := 30) rfl ?_
        refine g_getI (j := 6) C dX6_noteSights_28 rfl (Nat.le_of_ble_eq_true rfl) (Nat.le_of_ble_eq_true rfl) fl_6_61 rfl rfl (fun i10 => ?_)
        refine g_icmp_ge C dX6_noteSights_31 ix8 i10 rfl (tgt := 108) (fun c11 => ?_) (fun c11 => ?_)
        · have h := ifT c11 h
          refine g_mask [false, false, false] ?_
          obtain rfl := Option.some.inj h
          exact hX7 σ9 (lpR hk7).symm
        · have h := ifF c11 h
          refine g_aload_n C dX6_noteSights_34 rfl ?_
          refine g_getR (j := 3) C dX6_noteSights_35 rfl (Nat.le_of_ble_eq_true rfl) (Nat.le_of_ble_eq_true rfl) fl_6_36 rfl rfl (r := 30) rfl ?_
          refine g_iload_n C dX6_noteSights_38 rfl ?_
          refine g_iconst C dX6_noteSights_39 ?_
          obtain ⟨x12, qx12, h⟩ := bnd h
          refine g_callV1 (As := [iv x8, iv 1]) C dX6_noteSights_40 mi_X1_holds ml_6_65 (ct_X1_holds ix8 (by decide) qx12) rfl rfl ⟨rfl, rfl⟩ ⟨Nat.le_of_ble_eq_true rfl, Nat.le_of_ble_eq_true rfl⟩ ⟨Nat.zero_le _, Nat.zero_le _⟩ rfl (Nat.le_of_ble_eq_true rfl) (fun ix12 => ?_)
          refine g_if_eq C dX6_noteSights_43 (zI ix12) rfl (tgt := 102) (fun c13 => ?_) (fun c13 => ?_)
          · have h := ifT c13 h
            refine g_iinc (L1 := [some (rv w 95), some (iv a1), some (iv (wr (x8 + 1)))]) C dX6_noteSights_102 rfl rfl (Nat.le_of_ble_eq_true rfl) rfl ?_
            refine g_goto C dX6_noteSights_105 rfl (tgt := 23) ?_
            obtain rfl := Option.some.inj h
            exact ih7 _ _ (iwr _) (lpL hk7)
          · have h := ifF c13 h
            refine g_aload_n C dX6_noteSights_46 rfl ?_
            refine g_getR (j := 3) C dX6_noteSights_47 rfl (Nat.le_of_ble_eq_true rfl) (Nat.le_of_ble_eq_true rfl) fl_6_36 rfl rfl (r := 30) rfl ?_
            refine g_getR (j := 1) C dX6_noteSights_50 rfl (Nat.le_of_ble_eq_true rfl) (Nat.le_of_ble_eq_true rfl) fl_6_69 rfl rfl (r := 32) rfl ?_
            refine g_iload_n C dX6_noteSights_53 rfl ?_
            obtain ⟨x14, qx14, h⟩ := bnd h
            refine g_iald C dX6_noteSights_54 rfl rfl qx14 ix8 (fun ix14 => ?_)
            refine g_iload_n C dX6_noteSights_55 rfl ?_
            refine g_icmp_ne C dX6_noteSights_56 ix14 ia1 rfl (tgt := 102) (fun c15 => ?_) (fun c15 => ?_)
            · have h := ifF c15 h
              refine g_iinc (L1 := [some (rv w 95), some (iv a1), some (iv (wr (x8 + 1)))]) C dX6_noteSights_102 rfl rfl (Nat.le_of_ble_eq_true rfl) rfl ?_
              refine g_goto C dX6_noteSights_105 rfl (tgt := 23) ?_
              obtain rfl := Option.some.inj h
              exact ih7 _ _ (iwr _) (lpL hk7)
            · have h := ifT c15 h
              refine g_aload_n C dX6_noteSights_59 rfl ?_
              refine g_getR (j := 3) C dX6_noteSights_60 rfl (Nat.le_of_ble_eq_true rfl) (Nat.le_of_ble_eq_true rfl) fl_6_36 rfl rfl (r := 30) rfl ?_
              refine g_getR (j := 3) C dX6_noteSights_63 rfl (Nat.le_of_ble_eq_true rfl) (Nat.le_of_ble_eq_true rfl) fl_6_72 rfl rfl (r := 34) rfl ?_
              refine g_iload_n C dX6_noteSights_66 rfl ?_
              obtain ⟨x16, qx16, h⟩ := bnd h
              refine g_iald C dX6_noteSights_67 rfl rfl qx16 ix8 (fun ix16 => ?_)
              obtain ⟨x17, qx17, h⟩ := bnd h
              refine g_callN1 (As := [iv x16]) C rfl dX6_noteSights_68 mi_X11_isTick (ct_X11_isTick ix16 qx17) rfl ⟨rfl, rfl⟩ ⟨Nat.le_of_ble_eq_true rfl, Nat.le_of_ble_eq_true rfl⟩ ⟨Nat.zero_le _, Nat.zero_le _⟩ rfl (Nat.le_of_ble_eq_true rfl) (fun ix17 => ?_)
              refine g_if_eq C dX6_noteSights_71 (zI ix17) rfl (tgt := 102) (fun c18 => ?_) (fun c18 => ?_)
              · have h := ifT c18 h
                refine g_iinc (L1 := [some (rv w 95), some (iv a1), some (iv (wr (x8 + 1)))]) C dX6_noteSights_102 rfl rfl (Nat.le_of_ble_eq_true rfl) rfl ?_
                refine g_goto C dX6_noteSights_105 rfl (tgt := 23) ?_
                obtain rfl := Option.some.inj h
                exact ih7 _ _ (iwr _) (lpL hk7)
              · have h := ifF c18 h
                refine g_aload_n C dX6_noteSights_74 rfl ?_
                refine g_getR (j := 4) C dX6_noteSights_75 rfl (Nat.le_of_ble_eq_true rfl) (Nat.le_of_ble_eq_true rfl) fl_6_19 rfl rfl (r := 114) rfl ?_
                refine g_aload_n C dX6_noteSights_78 rfl ?_
                refine g_getR (j := 3) C dX6_noteSights_79 rfl (Nat.le_of_ble_eq_true rfl) (Nat.le_of_ble_eq_true rfl) fl_6_36 rfl rfl (r := 30) rfl ?_
                refine g_getR (j := 3) C dX6_noteSights_82 rfl (Nat.le_of_ble_eq_true rfl) (Nat.le_of_ble_eq_true rfl) fl_6_72 rfl rfl (r := 34) rfl ?_
                refine g_iload_n C dX6_noteSights_85 rfl ?_
                obtain ⟨x19, qx19, h⟩ := bnd h
                refine g_iald C dX6_noteSights_86 rfl rfl qx19 ix8 (fun ix19 => ?_)
                refine g_dup2 C dX6_noteSights_87 rfl rfl ?_
                obtain ⟨x20, qx20, h⟩ := bnd h
                refine g_iald C dX6_noteSights_88 rfl rfl qx20 ix19 (fun ix20 => ?_)
                refine g_iconst C dX6_noteSights_89 ?_
                refine g_aload_n C dX6_noteSights_90 rfl ?_
                refine g_getR (j := 3) C dX6_noteSights_91 rfl (Nat.le_of_ble_eq_true rfl) (Nat.le_of_ble_eq_true rfl) fl_6_36 rfl rfl (r := 30) rfl ?_
                refine g_getR (j := 2) C dX6_noteSights_94 rfl (Nat.le_of_ble_eq_true rfl) (Nat.le_of_ble_eq_true rfl) fl_6_79 rfl rfl (r := 33) rfl ?_
                refine g_iload_n C dX6_noteSights_97 rfl ?_
                obtain ⟨x21, qx21, h⟩ := bnd h
                refine g_iald C dX6_noteSights_98 rfl rfl qx21 ix8 (fun ix21 => ?_)
                refine g_ishl C dX6_noteSights_99 ?_
                refine g_iand C dX6_noteSights_100 ?_
                obtain ⟨σ22, qσ22, h⟩ := bnd h
                refine g_iast C dX6_noteSights_101 rfl rfl qσ22 ix19 (iand _ _) ?_
                refine g_iinc (L1 := [some (rv w 95), some (iv a1), some (iv (wr (x8 + 1)))]) C dX6_noteSights_102 rfl rfl (Nat.le_of_ble_eq_true rfl) rfl ?_
                refine g_goto C dX6_noteSights_105 rfl (tgt := 23) ?_
                obtain rfl := Option.some.inj h
                exact ih7 _ _ (iwr _) (lpL hk7)
    exact hL7 FU _ _ (by decide) hb7
  have hL1 : ∀ (n : Nat) (x2 : Int) (σ3 : St) , InI x2 → lpN (fun a => m_X6_noteSights_L2 a.1 a.2) n (x2, σ3) = some b1 → GM w p l e rm_X6_noteSights s m args below meth c none True σ' 3 2 [some (rv w 95), some (iv a1), some (iv x2)] [] σ3 := by
    intro n
    induction n with
    | zero => intro x2 σ3 ix2 q; cases q
    | succ n ih1 =>
      intro x2 σ3 ix2 q
      obtain ⟨o1, h, hk1⟩ := lp_step q
      replace h : m_X6_noteSights_L2 x2 σ3 = some o1 := h
      unfold m_X6_noteSights_L2 at h
      refine g_iload_n C dX6_noteSights_2 rfl ?_
      refine g_bipush C dX6_noteSights_3 rfl ?_
      refine g_icmp_ge C dX6_noteSights_5 ix2 (by decide) rfl (tgt := 21) (fun c4 => ?_) (fun c4 => ?_)
      · have h := ifT c4 h
        refine g_mask [true, true, false] ?_
        obtain rfl := Option.some.inj h
        exact hX1 σ3 (lpR hk1).symm
      · have h := ifF c4 h
        refine g_aload_n C dX6_noteSights_8 rfl ?_
        refine g_getR (j := 4) C dX6_noteSights_9 rfl (Nat.le_of_ble_eq_true rfl) (Nat.le_of_ble_eq_true rfl) fl_6_19 rfl rfl (r := 114) rfl ?_
        refine g_iload_n C dX6_noteSights_12 rfl ?_
        refine g_iconst C dX6_noteSights_13 ?_
        obtain ⟨σ5, qσ5, h⟩ := bnd h
        refine g_iast C dX6_noteSights_14 rfl rfl qσ5 ix2 (by decide) ?_
        refine g_iinc (L1 := [some (rv w 95), some (iv a1), some (iv (wr (x2 + 1)))]) C dX6_noteSights_15 rfl rfl (Nat.le_of_ble_eq_true rfl) rfl ?_
        refine g_goto C dX6_noteSights_18 rfl (tgt := 2) ?_
        obtain rfl := Option.some.inj h
        exact ih1 _ _ (iwr _) (lpL hk1)
  exact hL1 FU _ _ (by decide) hb1
theorem dX6_arrival_0 : decode cX6_arrival 0 = .ok (.iload_n 2, 1) := by decide +kernel
theorem dX6_arrival_1 : decode cX6_arrival 1 = .ok (.aload_n 0, 1) := by decide +kernel
theorem dX6_arrival_2 : decode cX6_arrival 2 = .ok (.getfield 32, 3) := by decide +kernel
theorem dX6_arrival_5 : decode cX6_arrival 5 = .ok (.getfield 82, 3) := by decide +kernel
theorem dX6_arrival_8 : decode cX6_arrival 8 = .ok (.iload_n 3, 1) := by decide +kernel
theorem dX6_arrival_9 : decode cX6_arrival 9 = .ok (.iaload, 1) := by decide +kernel
theorem dX6_arrival_10 : decode cX6_arrival 10 = .ok (.iadd, 1) := by decide +kernel
theorem dX6_arrival_11 : decode cX6_arrival 11 = .ok (.istore 4, 2) := by decide +kernel
theorem dX6_arrival_13 : decode cX6_arrival 13 = .ok (.iload 4, 2) := by decide +kernel
theorem dX6_arrival_15 : decode cX6_arrival 15 = .ok (.aload_n 0, 1) := by decide +kernel
theorem dX6_arrival_16 : decode cX6_arrival 16 = .ok (.getfield 16, 3) := by decide +kernel
theorem dX6_arrival_19 : decode cX6_arrival 19 = .ok (.iload_n 1, 1) := by decide +kernel
theorem dX6_arrival_20 : decode cX6_arrival 20 = .ok (.aaload, 1) := by decide +kernel
theorem dX6_arrival_21 : decode cX6_arrival 21 = .ok (.iload_n 2, 1) := by decide +kernel
theorem dX6_arrival_22 : decode cX6_arrival 22 = .ok (.iaload, 1) := by decide +kernel
theorem dX6_arrival_23 : decode cX6_arrival 23 = .ok (.if_icmp .gt 8, 3) := by decide +kernel
theorem dX6_arrival_26 : decode cX6_arrival 26 = .ok (.iload 4, 2) := by decide +kernel
theorem dX6_arrival_28 : decode cX6_arrival 28 = .ok (.goto 6, 3) := by decide +kernel
theorem dX6_arrival_31 : decode cX6_arrival 31 = .ok (.sipush 1000, 3) := by decide +kernel
theorem dX6_arrival_34 : decode cX6_arrival 34 = .ok (.ireturn, 1) := by decide +kernel
abbrev rm_X6_arrival : Room := { frames := 0, cells := 0, slots := 0, locals := 0 }
set_option maxRecDepth 100000 in
set_option maxHeartbeats 4000000 in
theorem ct_X6_arrival {w : Wd} {l : Launch} {a1 : Int} {a2 : Int} {a3 : Int} {σ : St} {y : Int} (ia1 : InI a1) (ia2 : InI a2) (ia3 : InI a3) (h : m_X6_arrival a1 a2 a3 σ = some y) : Ct w l yX6_arrival (Cond.code yX6_arrival cX6_arrival 5 (some .int) :: TB) rm_X6_arrival [rv w 95, iv a1, iv a2, iv a3] σ (some (iv y)) (InI y) σ := by
  refine Ct.of2 [some (rv w 95), some (iv a1), some (iv a2), some (iv a3), none] 1 rfl pn_RX6 (Nat.le_of_ble_eq_true rfl) ?_
  intro p e s m args below meth c C hr hlk
  unfold m_X6_arrival at h
  refine g_iload_n C dX6_arrival_0 rfl ?_
  refine g_aload_n C dX6_arrival_1 rfl ?_
  refine g_getR (j := 2) C dX6_arrival_2 rfl (Nat.le_of_ble_eq_true rfl) (Nat.le_of_ble_eq_true rfl) fl_6_32 rfl rfl (r := 1) rfl ?_
  refine g_getR (j := 2) C dX6_arrival_5 rfl (Nat.le_of_ble_eq_true rfl) (Nat.le_of_ble_eq_true rfl) fl_6_82 rfl rfl (r := 4) rfl ?_
  refine g_iload_n C dX6_arrival_8 rfl ?_
  obtain ⟨x1, qx1, h⟩ := bnd h
  refine g_iald C dX6_arrival_9 rfl rfl qx1 ia3 (fun ix1 => ?_)
  refine g_iadd C dX6_arrival_10 ?_
  obtain ⟨x2, qx2, h⟩ := bnd h
  have qx2 := Option.some.inj qx2
  have ix2 : InI x2 := by rw [← qx2]; exact (iwr _)
  refine g_E qx2 ?_
  refine g_istore (L1 := [some (rv w 95), some (iv a1), some (iv a2), some (iv a3), some (iv x2)]) C dX6_arrival_11 rfl (Nat.le_of_ble_eq_true rfl) rfl ?_
  refine g_iload C dX6_arrival_13 rfl ?_
  refine g_aload_n C dX6_arrival_15 rfl ?_
  refine g_getR (j := 1) C dX6_arrival_16 rfl (Nat.le_of_ble_eq_true rfl) (Nat.le_of_ble_eq_true rfl) fl_6_16 rfl rfl (r := 105) rfl ?_
  refine g_iload_n C dX6_arrival_19 rfl ?_
  obtain ⟨k3, qk3, h⟩ := bnd h
  refine g_aalI C dX6_arrival_20 rfl rfl qk3 ia1 ?_
  refine g_iload_n C dX6_arrival_21 rfl ?_
  obtain ⟨x4, qx4, h⟩ := bnd h
  refine g_iald C dX6_arrival_22 (rrB_105 qk3).1 (rrB_105 qk3).2 qx4 ia2 (fun ix4 => ?_)
  refine g_icmp_gt C dX6_arrival_23 ix2 ix4 rfl (tgt := 31) (fun c5 => ?_) (fun c5 => ?_)
  · have h := ifT c5 h
    refine g_sipush C dX6_arrival_31 rfl ?_
    exact g_iretU C dX6_arrival_34 hr hlk h (by decide)
  · have h := ifF c5 h
    refine g_iload C dX6_arrival_26 rfl ?_
    refine g_goto C dX6_arrival_28 rfl (tgt := 34) ?_
    exact g_iretU C dX6_arrival_34 hr hlk h ix2
theorem dX6_goForth_0 : decode cX6_goForth 0 = .ok (.iconst 0, 1) := by decide +kernel
theorem dX6_goForth_1 : decode cX6_goForth 1 = .ok (.istore_n 2, 1) := by decide +kernel
theorem dX6_goForth_2 : decode cX6_goForth 2 = .ok (.iload_n 2, 1) := by decide +kernel
theorem dX6_goForth_3 : decode cX6_goForth 3 = .ok (.bipush 96, 2) := by decide +kernel
theorem dX6_goForth_5 : decode cX6_goForth 5 = .ok (.if_icmp .ge 29, 3) := by decide +kernel
theorem dX6_goForth_8 : decode cX6_goForth 8 = .ok (.aload_n 0, 1) := by decide +kernel
theorem dX6_goForth_9 : decode cX6_goForth 9 = .ok (.getfield 26, 3) := by decide +kernel
theorem dX6_goForth_12 : decode cX6_goForth 12 = .ok (.iload_n 2, 1) := by decide +kernel
theorem dX6_goForth_13 : decode cX6_goForth 13 = .ok (.iload_n 2, 1) := by decide +kernel
theorem dX6_goForth_14 : decode cX6_goForth 14 = .ok (.ifCond .ne 12, 3) := by decide +kernel
theorem dX6_goForth_17 : decode cX6_goForth 17 = .ok (.aload_n 0, 1) := by decide +kernel
theorem dX6_goForth_18 : decode cX6_goForth 18 = .ok (.getfield 23, 3) := by decide +kernel
theorem dX6_goForth_21 : decode cX6_goForth 21 = .ok (.iconst 0, 1) := by decide +kernel
theorem dX6_goForth_22 : decode cX6_goForth 22 = .ok (.iaload, 1) := by decide +kernel
theorem dX6_goForth_23 : decode cX6_goForth 23 = .ok (.goto 4, 3) := by decide +kernel
theorem dX6_goForth_26 : decode cX6_goForth 26 = .ok (.iconst 0, 1) := by decide +kernel
theorem dX6_goForth_27 : decode cX6_goForth 27 = .ok (.iastore, 1) := by decide +kernel
theorem dX6_goForth_28 : decode cX6_goForth 28 = .ok (.iinc 2 1, 3) := by decide +kernel
theorem dX6_goForth_31 : decode cX6_goForth 31 = .ok (.goto (-29), 3) := by decide +kernel
theorem dX6_goForth_34 : decode cX6_goForth 34 = .ok (.iconst 0, 1) := by decide +kernel
theorem dX6_goForth_35 : decode cX6_goForth 35 = .ok (.istore_n 2, 1) := by decide +kernel
theorem dX6_goForth_36 : decode cX6_goForth 36 = .ok (.iload_n 2, 1) := by decide +kernel
theorem dX6_goForth_37 : decode cX6_goForth 37 = .ok (.bipush 96, 2) := by decide +kernel
theorem dX6_goForth_39 : decode cX6_goForth 39 = .ok (.if_icmp .ge 110, 3) := by decide +kernel
theorem dX6_goForth_42 : decode cX6_goForth 42 = .ok (.iload_n 2, 1) := by decide +kernel
theorem dX6_goForth_43 : decode cX6_goForth 43 = .ok (.iconst 1, 1) := by decide +kernel
theorem dX6_goForth_44 : decode cX6_goForth 44 = .ok (.iadd, 1) := by decide +kernel
theorem dX6_goForth_45 : decode cX6_goForth 45 = .ok (.bipush 96, 2) := by decide +kernel
theorem dX6_goForth_47 : decode cX6_goForth 47 = .ok (.if_icmp .ge 29, 3) := by decide +kernel
theorem dX6_goForth_50 : decode cX6_goForth 50 = .ok (.aload_n 0, 1) := by decide +kernel
theorem dX6_goForth_51 : decode cX6_goForth 51 = .ok (.getfield 26, 3) := by decide +kernel
theorem dX6_goForth_54 : decode cX6_goForth 54 = .ok (.iload_n 2, 1) := by decide +kernel
theorem dX6_goForth_55 : decode cX6_goForth 55 = .ok (.iconst 1, 1) := by decide +kernel
theorem dX6_goForth_56 : decode cX6_goForth 56 = .ok (.iadd, 1) := by decide +kernel
theorem dX6_goForth_57 : decode cX6_goForth 57 = .ok (.dup2, 1) := by decide +kernel
theorem dX6_goForth_58 : decode cX6_goForth 58 = .ok (.iaload, 1) := by decide +kernel
theorem dX6_goForth_59 : decode cX6_goForth 59 = .ok (.aload_n 0, 1) := by decide +kernel
theorem dX6_goForth_60 : decode cX6_goForth 60 = .ok (.getfield 26, 3) := by decide +kernel
theorem dX6_goForth_63 : decode cX6_goForth 63 = .ok (.iload_n 2, 1) := by decide +kernel
theorem dX6_goForth_64 : decode cX6_goForth 64 = .ok (.iaload, 1) := by decide +kernel
theorem dX6_goForth_65 : decode cX6_goForth 65 = .ok (.aload_n 0, 1) := by decide +kernel
theorem dX6_goForth_66 : decode cX6_goForth 66 = .ok (.getfield 23, 3) := by decide +kernel
theorem dX6_goForth_69 : decode cX6_goForth 69 = .ok (.iload_n 2, 1) := by decide +kernel
theorem dX6_goForth_70 : decode cX6_goForth 70 = .ok (.iconst 1, 1) := by decide +kernel
theorem dX6_goForth_71 : decode cX6_goForth 71 = .ok (.iadd, 1) := by decide +kernel
theorem dX6_goForth_72 : decode cX6_goForth 72 = .ok (.iaload, 1) := by decide +kernel
theorem dX6_goForth_73 : decode cX6_goForth 73 = .ok (.iand, 1) := by decide +kernel
theorem dX6_goForth_74 : decode cX6_goForth 74 = .ok (.ior, 1) := by decide +kernel
theorem dX6_goForth_75 : decode cX6_goForth 75 = .ok (.iastore, 1) := by decide +kernel
theorem dX6_goForth_76 : decode cX6_goForth 76 = .ok (.iconst 0, 1) := by decide +kernel
theorem dX6_goForth_77 : decode cX6_goForth 77 = .ok (.istore_n 3, 1) := by decide +kernel
theorem dX6_goForth_78 : decode cX6_goForth 78 = .ok (.iload_n 3, 1) := by decide +kernel
theorem dX6_goForth_79 : decode cX6_goForth 79 = .ok (.aload_n 0, 1) := by decide +kernel
theorem dX6_goForth_80 : decode cX6_goForth 80 = .ok (.getfield 32, 3) := by decide +kernel
theorem dX6_goForth_83 : decode cX6_goForth 83 = .ok (.getfield 85, 3) := by decide +kernel
theorem dX6_goForth_86 : decode cX6_goForth 86 = .ok (.if_icmp .ge 57, 3) := by decide +kernel
theorem dX6_goForth_89 : decode cX6_goForth 89 = .ok (.aload_n 0, 1) := by decide +kernel
theorem dX6_goForth_90 : decode cX6_goForth 90 = .ok (.iload_n 1, 1) := by decide +kernel
theorem dX6_goForth_91 : decode cX6_goForth 91 = .ok (.iload_n 2, 1) := by decide +kernel
theorem dX6_goForth_92 : decode cX6_goForth 92 = .ok (.iload_n 3, 1) := by decide +kernel
theorem dX6_goForth_93 : decode cX6_goForth 93 = .ok (.invokevirtual 88, 3) := by decide +kernel
theorem dX6_goForth_96 : decode cX6_goForth 96 = .ok (.istore 4, 2) := by decide +kernel
theorem dX6_goForth_98 : decode cX6_goForth 98 = .ok (.iload 4, 2) := by decide +kernel
theorem dX6_goForth_100 : decode cX6_goForth 100 = .ok (.bipush 96, 2) := by decide +kernel
theorem dX6_goForth_102 : decode cX6_goForth 102 = .ok (.if_icmp .ge 35, 3) := by decide +kernel
theorem dX6_goForth_105 : decode cX6_goForth 105 = .ok (.aload_n 0, 1) := by decide +kernel
theorem dX6_goForth_106 : decode cX6_goForth 106 = .ok (.getfield 26, 3) := by decide +kernel
theorem dX6_goForth_109 : decode cX6_goForth 109 = .ok (.iload 4, 2) := by decide +kernel
theorem dX6_goForth_111 : decode cX6_goForth 111 = .ok (.dup2, 1) := by decide +kernel
theorem dX6_goForth_112 : decode cX6_goForth 112 = .ok (.iaload, 1) := by decide +kernel
theorem dX6_goForth_113 : decode cX6_goForth 113 = .ok (.aload_n 0, 1) := by decide +kernel
theorem dX6_goForth_114 : decode cX6_goForth 114 = .ok (.getfield 32, 3) := by decide +kernel
theorem dX6_goForth_117 : decode cX6_goForth 117 = .ok (.iload_n 3, 1) := by decide +kernel
theorem dX6_goForth_118 : decode cX6_goForth 118 = .ok (.aload_n 0, 1) := by decide +kernel
theorem dX6_goForth_119 : decode cX6_goForth 119 = .ok (.getfield 26, 3) := by decide +kernel
theorem dX6_goForth_122 : decode cX6_goForth 122 = .ok (.iload_n 2, 1) := by decide +kernel
theorem dX6_goForth_123 : decode cX6_goForth 123 = .ok (.iaload, 1) := by decide +kernel
theorem dX6_goForth_124 : decode cX6_goForth 124 = .ok (.invokevirtual 92, 3) := by decide +kernel
theorem dX6_goForth_127 : decode cX6_goForth 127 = .ok (.aload_n 0, 1) := by decide +kernel
theorem dX6_goForth_128 : decode cX6_goForth 128 = .ok (.getfield 23, 3) := by decide +kernel
theorem dX6_goForth_131 : decode cX6_goForth 131 = .ok (.iload 4, 2) := by decide +kernel
theorem dX6_goForth_133 : decode cX6_goForth 133 = .ok (.iaload, 1) := by decide +kernel
theorem dX6_goForth_134 : decode cX6_goForth 134 = .ok (.iand, 1) := by decide +kernel
theorem dX6_goForth_135 : decode cX6_goForth 135 = .ok (.ior, 1) := by decide +kernel
theorem dX6_goForth_136 : decode cX6_goForth 136 = .ok (.iastore, 1) := by decide +kernel
theorem dX6_goForth_137 : decode cX6_goForth 137 = .ok (.iinc 3 1, 3) := by decide +kernel
theorem dX6_goForth_140 : decode cX6_goForth 140 = .ok (.goto (-62), 3) := by decide +kernel
theorem dX6_goForth_143 : decode cX6_goForth 143 = .ok (.iinc 2 1, 3) := by decide +kernel
theorem dX6_goForth_146 : decode cX6_goForth 146 = .ok (.goto (-110), 3) := by decide +kernel
theorem dX6_goForth_149 : decode cX6_goForth 149 = .ok (.return_, 1) := by decide +kernel
abbrev rm_X6_goForth : Room := { frames := 1, cells := 0, slots := 0, locals := 24 }
set_option maxRecDepth 100000 in
set_option maxHeartbeats 4000000 in
theorem ct_X6_goForth {w : Wd} {l : Launch} {a1 : Int} {σ : St} {σ' : St} (ia1 : InI a1) (h : m_X6_goForth a1 σ = some σ') : Ct w l yX6_goForth (Cond.code yX6_goForth cX6_goForth 5 none :: TB) rm_X6_goForth [rv w 95, iv a1] σ none True σ' := by
  refine Ct.of2 [some (rv w 95), some (iv a1), none, none, none] 3 rfl pn_RX6 (Nat.le_of_ble_eq_true rfl) ?_
  intro p e s m args below meth c C hr hlk
  unfold m_X6_goForth at h
  refine g_iconst C dX6_goForth_0 ?_
  refine g_istore_n (L1 := [some (rv w 95), some (iv a1), some (iv 0), none, none]) C dX6_goForth_1 rfl (Nat.le_of_ble_eq_true rfl) rfl ?_
  obtain ⟨b1, hb1, hF1⟩ := bnd h
  have hX1 : ∀ (σ9 : St) , σ9 = b1 → GM w p l e rm_X6_goForth s m args below meth c none True σ' 5 34 [some (rv w 95), some (iv a1), none, none, none] [] σ9 := by
    intro σ9 q
    subst q
    have h := hF1
    refine g_iconst C dX6_goForth_34 ?_
    refine g_istore_n (L1 := [some (rv w 95), some (iv a1), some (iv 0), none, none]) C dX6_goForth_35 rfl (Nat.le_of_ble_eq_true rfl) rfl ?_
    obtain ⟨b10, hb10, hF10⟩ := bnd h
    have hX10 : ∀ (σ34 : St) , σ34 = b10 → GM w p l e rm_X6_goForth s m args below meth c none True σ' 5 149 [none, none, none, none, none] [] σ34 := by
      intro σ34 q
      subst q
      have h := hF10
      exact g_vretP C dX6_goForth_149 hr hlk h
    have hL10 : ∀ (n : Nat) (x11 : Int) (σ12 : St) , InI x11 → lpN (fun a => m_X6_goForth_L36 a1 a.1 a.2) n (x11, σ12) = some b10 → GM w p l e rm_X6_goForth s m args below meth c none True σ' 5 36 [some (rv w 95), some (iv a1), some (iv x11), none, none] [] σ12 := by
      intro n
      induction n with
      | zero => intro x11 σ12 ix11 q; cases q
      | succ n ih10 =>
        intro x11 σ12 ix11 q
        obtain ⟨o10, h, hk10⟩ := lp_step q
        replace h : m_X6_goForth_L36 a1 x11 σ12 = some o10 := h
        unfold m_X6_goForth_L36 at h
        refine g_iload_n C dX6_goForth_36 rfl ?_
        refine g_bipush C dX6_goForth_37 rfl ?_
        refine g_icmp_ge C dX6_goForth_39 ix11 (by decide) rfl (tgt := 149) (fun c13 => ?_) (fun c13 => ?_)
        · have h := ifT c13 h
          refine g_mask [false, false, false, true, true] ?_
          obtain rfl := Option.some.inj h
          exact hX10 σ12 (lpR hk10).symm
        · have h := ifF c13 h
          refine g_iload_n C dX6_goForth_42 rfl ?_
          refine g_iconst C dX6_goForth_43 ?_
          refine g_iadd C dX6_goForth_44 ?_
          refine g_bipush C dX6_goForth_45 rfl ?_
          have hJ76_33 : ∀ (σ19 : St) , m_X6_goForth_J76 a1 x11 σ19 = some o10 → GM w p l e rm_X6_goForth s m args below meth c none True σ' 5 76 [some (rv w 95), some (iv a1), some (iv x11), none, none] [] σ19 := by
            intro σ19 h
            unfold m_X6_goForth_J76 at h
            refine g_iconst C dX6_goForth_76 ?_
            refine g_istore_n (L1 := [some (rv w 95), some (iv a1), some (iv x11), some (iv 0), none]) C dX6_goForth_77 rfl (Nat.le_of_ble_eq_true rfl) rfl ?_
            obtain ⟨b20, hb20, hF20⟩ := bnd h
            have hX20 : ∀ (σ32 : St) , σ32 = b20 → GM w p l e rm_X6_goForth s m args below meth c none True σ' 5 143 [some (rv w 95), some (iv a1), some (iv x11), none, none] [] σ32 := by
              intro σ32 q
              subst q
              have h := hF20
              refine g_iinc (L1 := [some (rv w 95), some (iv a1), some (iv (wr (x11 + 1))), none, none]) C dX6_goForth_143 rfl rfl (Nat.le_of_ble_eq_true rfl) rfl ?_
              refine g_goto C dX6_goForth_146 rfl (tgt := 36) ?_
              obtain rfl := Option.some.inj h
              exact ih10 _ _ (iwr _) (lpL hk10)
            have hL20 : ∀ (n : Nat) (x21 : Int) (σ22 : St) , InI x21 → lpN (fun a => m_X6_goForth_L78 a1 x11 a.1 a.2) n (x21, σ22) = some b20 → GM w p l e rm_X6_goForth s m args below meth c none True σ' 5 78 [some (rv w 95), some (iv a1), some (iv x11), some (iv x21), none] [] σ22 := by
              intro n
              induction n with
              | zero => intro x21 σ22 ix21 q; cases q
              | succ n ih20 =>
                intro x21 σ22 ix21 q
                obtain ⟨o20, h, hk20⟩ := lp_step q
                replace h : m_X6_goForth_L78 a1 x11 x21 σ22 = some o20 := h
                unfold m_X6_goForth_L78 at h
                refine g_iload_n C dX6_goForth_78 rfl ?_
                refine g_aload_n C dX6_goForth_79 rfl ?_
                refine g_getR (j := 2) C dX6_goForth_80 rfl (Nat.le_of_ble_eq_true rfl) (Nat.le_of_ble_eq_true rfl) fl_6_32 rfl rfl (r := 1) rfl ?_
                refine g_getI (j := 5) C dX6_goForth_83 rfl (Nat.le_of_ble_eq_true rfl) (Nat.le_of_ble_eq_true rfl) fl_6_85 rfl rfl (fun i23 => ?_)
                refine g_icmp_ge C dX6_goForth_86 ix21 i23 rfl (tgt := 143) (fun c24 => ?_) (fun c24 => ?_)
                · have h := ifT c24 h
                  refine g_mask [true, true, true, false, true] ?_
                  obtain rfl := Option.some.inj h
                  exact hX20 σ22 (lpR hk20).symm
                · have h := ifF c24 h
                  refine g_aload_n C dX6_goForth_89 rfl ?_
                  refine g_iload_n C dX6_goForth_90 rfl ?_
                  refine g_iload_n C dX6_goForth_91 rfl ?_
                  refine g_iload_n C dX6_goForth_92 rfl ?_
                  obtain ⟨x25, qx25, h⟩ := bnd h
                  refine g_callV1 (As := [iv a1, iv x11, iv x21]) C dX6_goForth_93 mi_X6_arrival ml_6_88 (ct_X6_arrival ia1 ix11 ix21 qx25) rfl rfl ⟨rfl, rfl⟩ ⟨Nat.le_of_ble_eq_true rfl, Nat.le_of_ble_eq_true rfl⟩ ⟨Nat.zero_le _, Nat.zero_le _⟩ rfl (Nat.le_of_ble_eq_true rfl) (fun ix25 => ?_)
                  refine g_istore (L1 := [some (rv w 95), some (iv a1), some (iv x11), some (iv x21), some (iv x25)]) C dX6_goForth_96 rfl (Nat.le_of_ble_eq_true rfl) rfl ?_
                  refine g_iload C dX6_goForth_98 rfl ?_
                  refine g_bipush C dX6_goForth_100 rfl ?_
                  refine g_icmp_ge C dX6_goForth_102 ix25 (by decide) rfl (tgt := 137) (fun c26 => ?_) (fun c26 => ?_)
                  · have h := ifT c26 h
                    refine g_iinc (L1 := [some (rv w 95), some (iv a1), some (iv x11), some (iv (wr (x21 + 1))), some (iv x25)]) C dX6_goForth_137 rfl rfl (Nat.le_of_ble_eq_true rfl) rfl ?_
                    refine g_goto C dX6_goForth_140 rfl (tgt := 78) ?_
                    refine g_mask [true, true, true, true, false] ?_
                    obtain rfl := Option.some.inj h
                    exact ih20 _ _ (iwr _) (lpL hk20)
                  · have h := ifF c26 h
                    refine g_aload_n C dX6_goForth_105 rfl ?_
                    refine g_getR (j := 6) C dX6_goForth_106 rfl (Nat.le_of_ble_eq_true rfl) (Nat.le_of_ble_eq_true rfl) fl_6_26 rfl rfl (r := 116) rfl ?_
                    refine g_iload C dX6_goForth_109 rfl ?_
                    refine g_dup2 C dX6_goForth_111 rfl rfl ?_
                    obtain ⟨x27, qx27, h⟩ := bnd h
                    refine g_iald C dX6_goForth_112 rfl rfl qx27 ix25 (fun ix27 => ?_)
                    refine g_aload_n C dX6_goForth_113 rfl ?_
                    refine g_getR (j := 2) C dX6_goForth_114 rfl (Nat.le_of_ble_eq_true rfl) (Nat.le_of_ble_eq_true rfl) fl_6_32 rfl rfl (r := 1) rfl ?_
                    refine g_iload_n C dX6_goForth_117 rfl ?_
                    refine g_aload_n C dX6_goForth_118 rfl ?_
                    refine g_getR (j := 6) C dX6_goForth_119 rfl (Nat.le_of_ble_eq_true rfl) (Nat.le_of_ble_eq_true rfl) fl_6_26 rfl rfl (r := 116) rfl ?_
                    refine g_iload_n C dX6_goForth_122 rfl ?_
                    obtain ⟨x28, qx28, h⟩ := bnd h
                    refine g_iald C dX6_goForth_123 rfl rfl qx28 ix11 (fun ix28 => ?_)
                    obtain ⟨x29, qx29, h⟩ := bnd h
                    refine g_callV1 (As := [iv x21, iv x28]) C dX6_goForth_124 mi_X10_across ml_6_92 (ct_X10_across ix21 ix28 qx29) rfl rfl ⟨rfl, rfl⟩ ⟨Nat.le_of_ble_eq_true rfl, Nat.le_of_ble_eq_true rfl⟩ ⟨Nat.zero_le _, Nat.zero_le _⟩ rfl (Nat.le_of_ble_eq_true rfl) (fun ix29 => ?_)
                    refine g_aload_n C dX6_goForth_127 rfl ?_
                    refine g_getR (j := 5) C dX6_goForth_128 rfl (Nat.le_of_ble_eq_true rfl) (Nat.le_of_ble_eq_true rfl) fl_6_23 rfl rfl (r := 115) rfl ?_
                    refine g_iload C dX6_goForth_131 rfl ?_
                    obtain ⟨x30, qx30, h⟩ := bnd h
                    refine g_iald C dX6_goForth_133 rfl rfl qx30 ix25 (fun ix30 => ?_)
                    refine g_iand C dX6_goForth_134 ?_
                    refine g_ior C dX6_goForth_135 ?_
                    obtain ⟨σ31, qσ31, h⟩ := bnd h
                    refine g_iast C dX6_goForth_136 rfl rfl qσ31 ix25 (ior _ _) ?_
                    refine g_iinc (L1 := [some (rv w 95), some (iv a1), some (iv x11), some (iv (wr (x21 + 1))), some (iv x25)]) C dX6_goForth_137 rfl rfl (Nat.le_of_ble_eq_true rfl) rfl ?_
                    refine g_goto C dX6_goForth_140 rfl (tgt := 78) ?_
                    refine g_mask [true, true, true, true, false] ?_
                    obtain rfl := Option.some.inj h
                    exact ih20 _ _ (iwr _) (lpL hk20)
            exact hL20 FU _ _ (by decide) hb20
          refine g_icmp_ge C dX6_goForth_47 (iwr _) (by decide) rfl (tgt := 76) (fun c14 => ?_) (fun c14 => ?_)
          · have h := ifT c14 h
            exact hJ76_33 σ12 h
          · have h := ifF c14 h
            refine g_aload_n C dX6_goForth_50 rfl ?_
            refine g_getR (j := 6) C dX6_goForth_51 rfl (Nat.le_of_ble_eq_true rfl) (Nat.le_of_ble_eq_true rfl) fl_6_26 rfl rfl (r := 116) rfl ?_
            refine g_iload_n C dX6_goForth_54 rfl ?_
            refine g_iconst C dX6_goForth_55 ?_
            refine g_iadd C dX6_goForth_56 ?_
            refine g_dup2 C dX6_goForth_57 rfl rfl ?_
            obtain ⟨x15, qx15, h⟩ := bnd h
            refine g_iald C dX6_goForth_58 rfl rfl qx15 (iwr _) (fun ix15 => ?_)
            refine g_aload_n C dX6_goForth_59 rfl ?_
            refine g_getR (j := 6) C dX6_goForth_60 rfl (Nat.le_of_ble_eq_true rfl) (Nat.le_of_ble_eq_true rfl) fl_6_26 rfl rfl (r := 116) rfl ?_
            refine g_iload_n C dX6_goForth_63 rfl ?_
            obtain ⟨x16, qx16, h⟩ := bnd h
            refine g_iald C dX6_goForth_64 rfl rfl qx16 ix11 (fun ix16 => ?_)
            refine g_aload_n C dX6_goForth_65 rfl ?_
            refine g_getR (j := 5) C dX6_goForth_66 rfl (Nat.le_of_ble_eq_true rfl) (Nat.le_of_ble_eq_true rfl) fl_6_23 rfl rfl (r := 115) rfl ?_
            refine g_iload_n C dX6_goForth_69 rfl ?_
            refine g_iconst C dX6_goForth_70 ?_
            refine g_iadd C dX6_goForth_71 ?_
            obtain ⟨x17, qx17, h⟩ := bnd h
            refine g_iald C dX6_goForth_72 rfl rfl qx17 (iwr _) (fun ix17 => ?_)
            refine g_iand C dX6_goForth_73 ?_
            refine g_ior C dX6_goForth_74 ?_
            obtain ⟨σ18, qσ18, h⟩ := bnd h
            refine g_iast C dX6_goForth_75 rfl rfl qσ18 (iwr _) (ior _ _) ?_
            exact hJ76_33 σ18 h
    exact hL10 FU _ _ (by decide) hb10
  have hL1 : ∀ (n : Nat) (x2 : Int) (σ3 : St) , InI x2 → lpN (fun a => m_X6_goForth_L2 a.1 a.2) n (x2, σ3) = some b1 → GM w p l e rm_X6_goForth s m args below meth c none True σ' 5 2 [some (rv w 95), some (iv a1), some (iv x2), none, none] [] σ3 := by
    intro n
    induction n with
    | zero => intro x2 σ3 ix2 q; cases q
    | succ n ih1 =>
      intro x2 σ3 ix2 q
      obtain ⟨o1, h, hk1⟩ := lp_step q
      replace h : m_X6_goForth_L2 x2 σ3 = some o1 := h
      unfold m_X6_goForth_L2 at h
      refine g_iload_n C dX6_goForth_2 rfl ?_
      refine g_bipush C dX6_goForth_3 rfl ?_
      refine g_icmp_ge C dX6_goForth_5 ix2 (by decide) rfl (tgt := 34) (fun c4 => ?_) (fun c4 => ?_)
      · have h := ifT c4 h
        refine g_mask [true, true, false, true, true] ?_
        obtain rfl := Option.some.inj h
        exact hX1 σ3 (lpR hk1).symm
      · have h := ifF c4 h
        refine g_aload_n C dX6_goForth_8 rfl ?_
        refine g_getR (j := 6) C dX6_goForth_9 rfl (Nat.le_of_ble_eq_true rfl) (Nat.le_of_ble_eq_true rfl) fl_6_26 rfl rfl (r := 116) rfl ?_
        refine g_iload_n C dX6_goForth_12 rfl ?_
        refine g_iload_n C dX6_goForth_13 rfl ?_
        refine g_if_ne C dX6_goForth_14 ix2 rfl (tgt := 26) (fun c5 => ?_) (fun c5 => ?_)
        · have h := ifF c5 h
          refine g_iconst C dX6_goForth_26 ?_
          obtain ⟨σ6, qσ6, h⟩ := bnd h
          refine g_iast C dX6_goForth_27 rfl rfl qσ6 ix2 (by decide) ?_
          refine g_iinc (L1 := [some (rv w 95), some (iv a1), some (iv (wr (x2 + 1))), none, none]) C dX6_goForth_28 rfl rfl (Nat.le_of_ble_eq_true rfl) rfl ?_
          refine g_goto C dX6_goForth_31 rfl (tgt := 2) ?_
          obtain rfl := Option.some.inj h
          exact ih1 _ _ (iwr _) (lpL hk1)
        · have h := ifT c5 h
          refine g_aload_n C dX6_goForth_17 rfl ?_
          refine g_getR (j := 5) C dX6_goForth_18 rfl (Nat.le_of_ble_eq_true rfl) (Nat.le_of_ble_eq_true rfl) fl_6_23 rfl rfl (r := 115) rfl ?_
          refine g_iconst C dX6_goForth_21 ?_
          obtain ⟨x7, qx7, h⟩ := bnd h
          refine g_iald C dX6_goForth_22 rfl rfl qx7 (by decide) (fun ix7 => ?_)
          refine g_goto C dX6_goForth_23 rfl (tgt := 27) ?_
          obtain ⟨σ8, qσ8, h⟩ := bnd h
          refine g_iast C dX6_goForth_27 rfl rfl qσ8 ix2 ix7 ?_
          refine g_iinc (L1 := [some (rv w 95), some (iv a1), some (iv (wr (x2 + 1))), none, none]) C dX6_goForth_28 rfl rfl (Nat.le_of_ble_eq_true rfl) rfl ?_
          refine g_goto C dX6_goForth_31 rfl (tgt := 2) ?_
          obtain rfl := Option.some.inj h
          exact ih1 _ _ (iwr _) (lpL hk1)
  exact hL1 FU _ _ (by decide) hb1
theorem dX6_goBack_0 : decode cX6_goBack 0 = .ok (.bipush 95, 2) := by decide +kernel
theorem dX6_goBack_2 : decode cX6_goBack 2 = .ok (.istore_n 2, 1) := by decide +kernel
theorem dX6_goBack_3 : decode cX6_goBack 3 = .ok (.iload_n 2, 1) := by decide +kernel
theorem dX6_goBack_4 : decode cX6_goBack 4 = .ok (.ifCond .lt 137, 3) := by decide +kernel
theorem dX6_goBack_7 : decode cX6_goBack 7 = .ok (.iload_n 2, 1) := by decide +kernel
theorem dX6_goBack_8 : decode cX6_goBack 8 = .ok (.iconst 1, 1) := by decide +kernel
theorem dX6_goBack_9 : decode cX6_goBack 9 = .ok (.iadd, 1) := by decide +kernel
theorem dX6_goBack_10 : decode cX6_goBack 10 = .ok (.bipush 96, 2) := by decide +kernel
theorem dX6_goBack_12 : decode cX6_goBack 12 = .ok (.if_icmp .ge 14, 3) := by decide +kernel
theorem dX6_goBack_15 : decode cX6_goBack 15 = .ok (.aload_n 0, 1) := by decide +kernel
theorem dX6_goBack_16 : decode cX6_goBack 16 = .ok (.getfield 29, 3) := by decide +kernel
theorem dX6_goBack_19 : decode cX6_goBack 19 = .ok (.iload_n 2, 1) := by decide +kernel
theorem dX6_goBack_20 : decode cX6_goBack 20 = .ok (.iconst 1, 1) := by decide +kernel
theorem dX6_goBack_21 : decode cX6_goBack 21 = .ok (.iadd, 1) := by decide +kernel
theorem dX6_goBack_22 : decode cX6_goBack 22 = .ok (.iaload, 1) := by decide +kernel
theorem dX6_goBack_23 : decode cX6_goBack 23 = .ok (.goto 10, 3) := by decide +kernel
theorem dX6_goBack_26 : decode cX6_goBack 26 = .ok (.aload_n 0, 1) := by decide +kernel
theorem dX6_goBack_27 : decode cX6_goBack 27 = .ok (.getfield 32, 3) := by decide +kernel
theorem dX6_goBack_30 : decode cX6_goBack 30 = .ok (.invokevirtual 44, 3) := by decide +kernel
theorem dX6_goBack_33 : decode cX6_goBack 33 = .ok (.istore_n 3, 1) := by decide +kernel
theorem dX6_goBack_34 : decode cX6_goBack 34 = .ok (.iconst 0, 1) := by decide +kernel
theorem dX6_goBack_35 : decode cX6_goBack 35 = .ok (.istore 4, 2) := by decide +kernel
theorem dX6_goBack_37 : decode cX6_goBack 37 = .ok (.iload 4, 2) := by decide +kernel
theorem dX6_goBack_39 : decode cX6_goBack 39 = .ok (.aload_n 0, 1) := by decide +kernel
theorem dX6_goBack_40 : decode cX6_goBack 40 = .ok (.getfield 32, 3) := by decide +kernel
theorem dX6_goBack_43 : decode cX6_goBack 43 = .ok (.getfield 85, 3) := by decide +kernel
theorem dX6_goBack_46 : decode cX6_goBack 46 = .ok (.if_icmp .ge 75, 3) := by decide +kernel
theorem dX6_goBack_49 : decode cX6_goBack 49 = .ok (.aload_n 0, 1) := by decide +kernel
theorem dX6_goBack_50 : decode cX6_goBack 50 = .ok (.iload_n 1, 1) := by decide +kernel
theorem dX6_goBack_51 : decode cX6_goBack 51 = .ok (.iload_n 2, 1) := by decide +kernel
theorem dX6_goBack_52 : decode cX6_goBack 52 = .ok (.iload 4, 2) := by decide +kernel
theorem dX6_goBack_54 : decode cX6_goBack 54 = .ok (.invokevirtual 88, 3) := by decide +kernel
theorem dX6_goBack_57 : decode cX6_goBack 57 = .ok (.istore 5, 2) := by decide +kernel
theorem dX6_goBack_59 : decode cX6_goBack 59 = .ok (.iload 5, 2) := by decide +kernel
theorem dX6_goBack_61 : decode cX6_goBack 61 = .ok (.bipush 96, 2) := by decide +kernel
theorem dX6_goBack_63 : decode cX6_goBack 63 = .ok (.if_icmp .ge 25, 3) := by decide +kernel
theorem dX6_goBack_66 : decode cX6_goBack 66 = .ok (.iload_n 3, 1) := by decide +kernel
theorem dX6_goBack_67 : decode cX6_goBack 67 = .ok (.aload_n 0, 1) := by decide +kernel
theorem dX6_goBack_68 : decode cX6_goBack 68 = .ok (.getfield 32, 3) := by decide +kernel
theorem dX6_goBack_71 : decode cX6_goBack 71 = .ok (.iload 4, 2) := by decide +kernel
theorem dX6_goBack_73 : decode cX6_goBack 73 = .ok (.aload_n 0, 1) := by decide +kernel
theorem dX6_goBack_74 : decode cX6_goBack 74 = .ok (.getfield 29, 3) := by decide +kernel
theorem dX6_goBack_77 : decode cX6_goBack 77 = .ok (.iload 5, 2) := by decide +kernel
theorem dX6_goBack_79 : decode cX6_goBack 79 = .ok (.iaload, 1) := by decide +kernel
theorem dX6_goBack_80 : decode cX6_goBack 80 = .ok (.invokevirtual 92, 3) := by decide +kernel
theorem dX6_goBack_83 : decode cX6_goBack 83 = .ok (.ior, 1) := by decide +kernel
theorem dX6_goBack_84 : decode cX6_goBack 84 = .ok (.istore_n 3, 1) := by decide +kernel
theorem dX6_goBack_85 : decode cX6_goBack 85 = .ok (.goto 30, 3) := by decide +kernel
theorem dX6_goBack_88 : decode cX6_goBack 88 = .ok (.iload 5, 2) := by decide +kernel
theorem dX6_goBack_90 : decode cX6_goBack 90 = .ok (.sipush 1000, 3) := by decide +kernel
theorem dX6_goBack_93 : decode cX6_goBack 93 = .ok (.if_icmp .eq 22, 3) := by decide +kernel
theorem dX6_goBack_96 : decode cX6_goBack 96 = .ok (.iload_n 3, 1) := by decide +kernel
theorem dX6_goBack_97 : decode cX6_goBack 97 = .ok (.aload_n 0, 1) := by decide +kernel
theorem dX6_goBack_98 : decode cX6_goBack 98 = .ok (.getfield 32, 3) := by decide +kernel
theorem dX6_goBack_101 : decode cX6_goBack 101 = .ok (.iload 4, 2) := by decide +kernel
theorem dX6_goBack_103 : decode cX6_goBack 103 = .ok (.aload_n 0, 1) := by decide +kernel
theorem dX6_goBack_104 : decode cX6_goBack 104 = .ok (.getfield 32, 3) := by decide +kernel
theorem dX6_goBack_107 : decode cX6_goBack 107 = .ok (.invokevirtual 44, 3) := by decide +kernel
theorem dX6_goBack_110 : decode cX6_goBack 110 = .ok (.invokevirtual 92, 3) := by decide +kernel
theorem dX6_goBack_113 : decode cX6_goBack 113 = .ok (.ior, 1) := by decide +kernel
theorem dX6_goBack_114 : decode cX6_goBack 114 = .ok (.istore_n 3, 1) := by decide +kernel
theorem dX6_goBack_115 : decode cX6_goBack 115 = .ok (.iinc 4 1, 3) := by decide +kernel
theorem dX6_goBack_118 : decode cX6_goBack 118 = .ok (.goto (-81), 3) := by decide +kernel
theorem dX6_goBack_121 : decode cX6_goBack 121 = .ok (.aload_n 0, 1) := by decide +kernel
theorem dX6_goBack_122 : decode cX6_goBack 122 = .ok (.getfield 29, 3) := by decide +kernel
theorem dX6_goBack_125 : decode cX6_goBack 125 = .ok (.iload_n 2, 1) := by decide +kernel
theorem dX6_goBack_126 : decode cX6_goBack 126 = .ok (.iload_n 3, 1) := by decide +kernel
theorem dX6_goBack_127 : decode cX6_goBack 127 = .ok (.aload_n 0, 1) := by decide +kernel
theorem dX6_goBack_128 : decode cX6_goBack 128 = .ok (.getfield 23, 3) := by decide +kernel
theorem dX6_goBack_131 : decode cX6_goBack 131 = .ok (.iload_n 2, 1) := by decide +kernel
theorem dX6_goBack_132 : decode cX6_goBack 132 = .ok (.iaload, 1) := by decide +kernel
theorem dX6_goBack_133 : decode cX6_goBack 133 = .ok (.iand, 1) := by decide +kernel
theorem dX6_goBack_134 : decode cX6_goBack 134 = .ok (.iastore, 1) := by decide +kernel
theorem dX6_goBack_135 : decode cX6_goBack 135 = .ok (.iinc 2 (-1), 3) := by decide +kernel
theorem dX6_goBack_138 : decode cX6_goBack 138 = .ok (.goto (-135), 3) := by decide +kernel
theorem dX6_goBack_141 : decode cX6_goBack 141 = .ok (.return_, 1) := by decide +kernel
abbrev rm_X6_goBack : Room := { frames := 1, cells := 0, slots := 0, locals := 24 }
set_option maxRecDepth 100000 in
set_option maxHeartbeats 4000000 in
theorem ct_X6_goBack {w : Wd} {l : Launch} {a1 : Int} {σ : St} {σ' : St} (ia1 : InI a1) (h : m_X6_goBack a1 σ = some σ') : Ct w l yX6_goBack (Cond.code yX6_goBack cX6_goBack 6 none :: TB) rm_X6_goBack [rv w 95, iv a1] σ none True σ' := by
  refine Ct.of2 [some (rv w 95), some (iv a1), none, none, none, none] 4 rfl pn_RX6 (Nat.le_of_ble_eq_true rfl) ?_
  intro p e s m args below meth c C hr hlk
  unfold m_X6_goBack at h
  refine g_bipush C dX6_goBack_0 rfl ?_
  refine g_istore_n (L1 := [some (rv w 95), some (iv a1), some (iv 95), none, none, none]) C dX6_goBack_2 rfl (Nat.le_of_ble_eq_true rfl) rfl ?_
  obtain ⟨b1, hb1, hF1⟩ := bnd h
  have hX1 : ∀ (σ27 : St) , σ27 = b1 → GM w p l e rm_X6_goBack s m args below meth c none True σ' 6 141 [none, none, none, none, none, none] [] σ27 := by
    intro σ27 q
    subst q
    have h := hF1
    exact g_vretP C dX6_goBack_141 hr hlk h
  have hL1 : ∀ (n : Nat) (x2 : Int) (σ3 : St) , InI x2 → lpN (fun a => m_X6_goBack_L3 a1 a.1 a.2) n (x2, σ3) = some b1 → GM w p l e rm_X6_goBack s m args below meth c none True σ' 6 3 [some (rv w 95), some (iv a1), some (iv x2), none, none, none] [] σ3 := by
    intro n
    induction n with
    | zero => intro x2 σ3 ix2 q; cases q
    | succ n ih1 =>
      intro x2 σ3 ix2 q
      obtain ⟨o1, h, hk1⟩ := lp_step q
      replace h : m_X6_goBack_L3 a1 x2 σ3 = some o1 := h
      unfold m_X6_goBack_L3 at h
      refine g_iload_n C dX6_goBack_3 rfl ?_
      refine g_if_lt C dX6_goBack_4 ix2 rfl (tgt := 141) (fun c4 => ?_) (fun c4 => ?_)
      · have h := ifT c4 h
        refine g_mask [false, false, false, true, true, true] ?_
        obtain rfl := Option.some.inj h
        exact hX1 σ3 (lpR hk1).symm
      · have h := ifF c4 h
        refine g_iload_n C dX6_goBack_7 rfl ?_
        refine g_iconst C dX6_goBack_8 ?_
        refine g_iadd C dX6_goBack_9 ?_
        refine g_bipush C dX6_goBack_10 rfl ?_
        have hJ33_26 : ∀ (x8 : Int) , InI x8 → m_X6_goBack_J33 σ3 a1 x2 x8 = some o1 → GM w p l e rm_X6_goBack s m args below meth c none True σ' 6 33 [some (rv w 95), some (iv a1), some (iv x2), none, none, none] [iv x8] σ3 := by
          intro x8 ix8 h
          unfold m_X6_goBack_J33 at h
          refine g_istore_n (L1 := [some (rv w 95), some (iv a1), some (iv x2), some (iv x8), none, none]) C dX6_goBack_33 rfl (Nat.le_of_ble_eq_true rfl) rfl ?_
          refine g_iconst C dX6_goBack_34 ?_
          refine g_istore (L1 := [some (rv w 95), some (iv a1), some (iv x2), some (iv x8), some (iv 0), none]) C dX6_goBack_35 rfl (Nat.le_of_ble_eq_true rfl) rfl ?_
          obtain ⟨b9, hb9, hF9⟩ := bnd h
          have hX9 : ∀ (x23 : Int) , InI x23 → x23 = b9 → GM w p l e rm_X6_goBack s m args below meth c none True σ' 6 121 [some (rv w 95), some (iv a1), some (iv x2), some (iv x23), none, none] [] σ3 := by
            intro x23 ix23 q
            subst q
            have h := hF9
            refine g_aload_n C dX6_goBack_121 rfl ?_
            refine g_getR (j := 7) C dX6_goBack_122 rfl (Nat.le_of_ble_eq_true rfl) (Nat.le_of_ble_eq_true rfl) fl_6_29 rfl rfl (r := 117) rfl ?_
            refine g_iload_n C dX6_goBack_125 rfl ?_
            refine g_iload_n C dX6_goBack_126 rfl ?_
            refine g_aload_n C dX6_goBack_127 rfl ?_
            refine g_getR (j := 5) C dX6_goBack_128 rfl (Nat.le_of_ble_eq_true rfl) (Nat.le_of_ble_eq_true rfl) fl_6_23 rfl rfl (r := 115) rfl ?_
            refine g_iload_n C dX6_goBack_131 rfl ?_
            obtain ⟨x24, qx24, h⟩ := bnd h
            refine g_iald C dX6_goBack_132 rfl rfl qx24 ix2 (fun ix24 => ?_)
            refine g_iand C dX6_goBack_133 ?_
            obtain ⟨σ25, qσ25, h⟩ := bnd h
            refine g_iast C dX6_goBack_134 rfl rfl qσ25 ix2 (iand _ _) ?_
            refine g_iinc (L1 := [some (rv w 95), some (iv a1), some (iv (wr (x2 + (-1)))), some (iv x23), none, none]) C dX6_goBack_135 rfl rfl (Nat.le_of_ble_eq_true rfl) rfl ?_
            refine g_goto C dX6_goBack_138 rfl (tgt := 3) ?_
            refine g_mask [true, true, true, false, true, true] ?_
            obtain rfl := Option.some.inj h
            exact ih1 _ _ (iwr _) (lpL hk1)
          have hL9 : ∀ (n : Nat) (x10 : Int) (x11 : Int) , InI x10 → InI x11 → lpN (fun a => m_X6_goBack_L37 σ3 a1 x2 a.1 a.2) n (x10, x11) = some b9 → GM w p l e rm_X6_goBack s m args below meth c none True σ' 6 37 [some (rv w 95), some (iv a1), some (iv x2), some (iv x10), some (iv x11), none] [] σ3 := by
            intro n
            induction n with
            | zero => intro x10 x11 ix10 ix11 q; cases q
            | succ n ih9 =>
              intro x10 x11 ix10 ix11 q
              obtain ⟨o9, h, hk9⟩ := lp_step q
              replace h : m_X6_goBack_L37 σ3 a1 x2 x10 x11 = some o9 := h
              unfold m_X6_goBack_L37 at h
              refine g_iload C dX6_goBack_37 rfl ?_
              refine g_aload_n C dX6_goBack_39 rfl ?_
              refine g_getR (j := 2) C dX6_goBack_40 rfl (Nat.le_of_ble_eq_true rfl) (Nat.le_of_ble_eq_true rfl) fl_6_32 rfl rfl (r := 1) rfl ?_
              refine g_getI (j := 5) C dX6_goBack_43 rfl (Nat.le_of_ble_eq_true rfl) (Nat.le_of_ble_eq_true rfl) fl_6_85 rfl rfl (fun i12 => ?_)
              refine g_icmp_ge C dX6_goBack_46 ix11 i12 rfl (tgt := 121) (fun c13 => ?_) (fun c13 => ?_)
              · have h := ifT c13 h
                refine g_mask [true, true, true, true, false, true] ?_
                obtain rfl := Option.some.inj h
                exact hX9 x10 ix10 (lpR hk9).symm
              · have h := ifF c13 h
                refine g_aload_n C dX6_goBack_49 rfl ?_
                refine g_iload_n C dX6_goBack_50 rfl ?_
                refine g_iload_n C dX6_goBack_51 rfl ?_
                refine g_iload C dX6_goBack_52 rfl ?_
                obtain ⟨x14, qx14, h⟩ := bnd h
                refine g_callV1 (As := [iv a1, iv x2, iv x11]) C dX6_goBack_54 mi_X6_arrival ml_6_88 (ct_X6_arrival ia1 ix2 ix11 qx14) rfl rfl ⟨rfl, rfl⟩ ⟨Nat.le_of_ble_eq_true rfl, Nat.le_of_ble_eq_true rfl⟩ ⟨Nat.zero_le _, Nat.zero_le _⟩ rfl (Nat.le_of_ble_eq_true rfl) (fun ix14 => ?_)
                refine g_istore (L1 := [some (rv w 95), some (iv a1), some (iv x2), some (iv x10), some (iv x11), some (iv x14)]) C dX6_goBack_57 rfl (Nat.le_of_ble_eq_true rfl) rfl ?_
                refine g_iload C dX6_goBack_59 rfl ?_
                refine g_bipush C dX6_goBack_61 rfl ?_
                refine g_icmp_ge C dX6_goBack_63 ix14 (by decide) rfl (tgt := 88) (fun c15 => ?_) (fun c15 => ?_)
                · have h := ifT c15 h
                  refine g_iload C dX6_goBack_88 rfl ?_
                  refine g_sipush C dX6_goBack_90 rfl ?_
                  refine g_icmp_eq C dX6_goBack_93 ix14 (by decide) rfl (tgt := 115) (fun c16 => ?_) (fun c16 => ?_)
                  · have h := ifT c16 h
                    refine g_iinc (L1 := [some (rv w 95), some (iv a1), some (iv x2), some (iv x10), some (iv (wr (x11 + 1))), some (iv x14)]) C dX6_goBack_115 rfl rfl (Nat.le_of_ble_eq_true rfl) rfl ?_
                    refine g_goto C dX6_goBack_118 rfl (tgt := 37) ?_
                    refine g_mask [true, true, true, true, true, false] ?_
                    obtain rfl := Option.some.inj h
                    exact ih9 _ _ ix10 (iwr _) (lpL hk9)
                  · have h := ifF c16 h
                    refine g_iload_n C dX6_goBack_96 rfl ?_
                    refine g_aload_n C dX6_goBack_97 rfl ?_
                    refine g_getR (j := 2) C dX6_goBack_98 rfl (Nat.le_of_ble_eq_true rfl) (Nat.le_of_ble_eq_true rfl) fl_6_32 rfl rfl (r := 1) rfl ?_
                    refine g_iload C dX6_goBack_101 rfl ?_
                    refine g_aload_n C dX6_goBack_103 rfl ?_
                    refine g_getR (j := 2) C dX6_goBack_104 rfl (Nat.le_of_ble_eq_true rfl) (Nat.le_of_ble_eq_true rfl) fl_6_32 rfl rfl (r := 1) rfl ?_
                    obtain ⟨x17, qx17, h⟩ := bnd h
                    refine g_callV1 (As := []) C dX6_goBack_107 mi_X10_allSpots ml_6_44 (ct_X10_allSpots qx17) rfl rfl ⟨rfl, rfl⟩ ⟨Nat.le_of_ble_eq_true rfl, Nat.le_of_ble_eq_true rfl⟩ ⟨Nat.zero_le _, Nat.zero_le _⟩ rfl (Nat.le_of_ble_eq_true rfl) (fun ix17 => ?_)
                    obtain ⟨x18, qx18, h⟩ := bnd h
                    refine g_callV1 (As := [iv x11, iv x17]) C dX6_goBack_110 mi_X10_across ml_6_92 (ct_X10_across ix11 ix17 qx18) rfl rfl ⟨rfl, rfl⟩ ⟨Nat.le_of_ble_eq_true rfl, Nat.le_of_ble_eq_true rfl⟩ ⟨Nat.zero_le _, Nat.zero_le _⟩ rfl (Nat.le_of_ble_eq_true rfl) (fun ix18 => ?_)
                    refine g_ior C dX6_goBack_113 ?_
                    obtain ⟨x19, qx19, h⟩ := bnd h
                    have qx19 := Option.some.inj qx19
                    have ix19 : InI x19 := by rw [← qx19]; exact (ior _ _)
                    refine g_E qx19 ?_
                    refine g_istore_n (L1 := [some (rv w 95), some (iv a1), some (iv x2), some (iv x19), some (iv x11), some (iv x14)]) C dX6_goBack_114 rfl (Nat.le_of_ble_eq_true rfl) rfl ?_
                    refine g_iinc (L1 := [some (rv w 95), some (iv a1), some (iv x2), some (iv x19), some (iv (wr (x11 + 1))), some (iv x14)]) C dX6_goBack_115 rfl rfl (Nat.le_of_ble_eq_true rfl) rfl ?_
                    refine g_goto C dX6_goBack_118 rfl (tgt := 37) ?_
                    refine g_mask [true, true, true, true, true, false] ?_
                    obtain rfl := Option.some.inj h
                    exact ih9 _ _ ix19 (iwr _) (lpL hk9)
                · have h := ifF c15 h
                  refine g_iload_n C dX6_goBack_66 rfl ?_
                  refine g_aload_n C dX6_goBack_67 rfl ?_
                  refine g_getR (j := 2) C dX6_goBack_68 rfl (Nat.le_of_ble_eq_true rfl) (Nat.le_of_ble_eq_true rfl) fl_6_32 rfl rfl (r := 1) rfl ?_
                  refine g_iload C dX6_goBack_71 rfl ?_
                  refine g_aload_n C dX6_goBack_73 rfl ?_
                  refine g_getR (j := 7) C dX6_goBack_74 rfl (Nat.le_of_ble_eq_true rfl) (Nat.le_of_ble_eq_true rfl) fl_6_29 rfl rfl (r := 117) rfl ?_
                  refine g_iload C dX6_goBack_77 rfl ?_
                  obtain ⟨x20, qx20, h⟩ := bnd h
                  refine g_iald C dX6_goBack_79 rfl rfl qx20 ix14 (fun ix20 => ?_)
                  obtain ⟨x21, qx21, h⟩ := bnd h
                  refine g_callV1 (As := [iv x11, iv x20]) C dX6_goBack_80 mi_X10_across ml_6_92 (ct_X10_across ix11 ix20 qx21) rfl rfl ⟨rfl, rfl⟩ ⟨Nat.le_of_ble_eq_true rfl, Nat.le_of_ble_eq_true rfl⟩ ⟨Nat.zero_le _, Nat.zero_le _⟩ rfl (Nat.le_of_ble_eq_true rfl) (fun ix21 => ?_)
                  refine g_ior C dX6_goBack_83 ?_
                  obtain ⟨x22, qx22, h⟩ := bnd h
                  have qx22 := Option.some.inj qx22
                  have ix22 : InI x22 := by rw [← qx22]; exact (ior _ _)
                  refine g_E qx22 ?_
                  refine g_istore_n (L1 := [some (rv w 95), some (iv a1), some (iv x2), some (iv x22), some (iv x11), some (iv x14)]) C dX6_goBack_84 rfl (Nat.le_of_ble_eq_true rfl) rfl ?_
                  refine g_goto C dX6_goBack_85 rfl (tgt := 115) ?_
                  refine g_iinc (L1 := [some (rv w 95), some (iv a1), some (iv x2), some (iv x22), some (iv (wr (x11 + 1))), some (iv x14)]) C dX6_goBack_115 rfl rfl (Nat.le_of_ble_eq_true rfl) rfl ?_
                  refine g_goto C dX6_goBack_118 rfl (tgt := 37) ?_
                  refine g_mask [true, true, true, true, true, false] ?_
                  obtain rfl := Option.some.inj h
                  exact ih9 _ _ ix22 (iwr _) (lpL hk9)
          exact hL9 FU _ _ ix8 (by decide) hb9
        refine g_icmp_ge C dX6_goBack_12 (iwr _) (by decide) rfl (tgt := 26) (fun c5 => ?_) (fun c5 => ?_)
        · have h := ifT c5 h
          refine g_aload_n C dX6_goBack_26 rfl ?_
          refine g_getR (j := 2) C dX6_goBack_27 rfl (Nat.le_of_ble_eq_true rfl) (Nat.le_of_ble_eq_true rfl) fl_6_32 rfl rfl (r := 1) rfl ?_
          obtain ⟨x6, qx6, h⟩ := bnd h
          refine g_callV1 (As := []) C dX6_goBack_30 mi_X10_allSpots ml_6_44 (ct_X10_allSpots qx6) rfl rfl ⟨rfl, rfl⟩ ⟨Nat.le_of_ble_eq_true rfl, Nat.le_of_ble_eq_true rfl⟩ ⟨Nat.zero_le _, Nat.zero_le _⟩ rfl (Nat.le_of_ble_eq_true rfl) (fun ix6 => ?_)
          exact hJ33_26 x6 ix6 h
        · have h := ifF c5 h
          refine g_aload_n C dX6_goBack_15 rfl ?_
          refine g_getR (j := 7) C dX6_goBack_16 rfl (Nat.le_of_ble_eq_true rfl) (Nat.le_of_ble_eq_true rfl) fl_6_29 rfl rfl (r := 117) rfl ?_
          refine g_iload_n C dX6_goBack_19 rfl ?_
          refine g_iconst C dX6_goBack_20 ?_
          refine g_iadd C dX6_goBack_21 ?_
          obtain ⟨x7, qx7, h⟩ := bnd h
          refine g_iald C dX6_goBack_22 rfl rfl qx7 (iwr _) (fun ix7 => ?_)
          refine g_goto C dX6_goBack_23 rfl (tgt := 33) ?_
          exact hJ33_26 x7 ix7 h
  exact hL1 FU _ _ (by decide) hb1
theorem dX6_reckon_0 : decode cX6_reckon 0 = .ok (.iload_n 1, 1) := by decide +kernel
theorem dX6_reckon_1 : decode cX6_reckon 1 = .ok (.ifCond .lt 9, 3) := by decide +kernel
theorem dX6_reckon_4 : decode cX6_reckon 4 = .ok (.iload_n 1, 1) := by decide +kernel
theorem dX6_reckon_5 : decode cX6_reckon 5 = .ok (.bipush 8, 2) := by decide +kernel
theorem dX6_reckon_7 : decode cX6_reckon 7 = .ok (.if_icmp .lt 4, 3) := by decide +kernel
theorem dX6_reckon_10 : decode cX6_reckon 10 = .ok (.return_, 1) := by decide +kernel
theorem dX6_reckon_11 : decode cX6_reckon 11 = .ok (.aload_n 0, 1) := by decide +kernel
theorem dX6_reckon_12 : decode cX6_reckon 12 = .ok (.iload_n 1, 1) := by decide +kernel
theorem dX6_reckon_13 : decode cX6_reckon 13 = .ok (.invokevirtual 40, 3) := by decide +kernel
theorem dX6_reckon_16 : decode cX6_reckon 16 = .ok (.sipush 1000, 3) := by decide +kernel
theorem dX6_reckon_19 : decode cX6_reckon 19 = .ok (.istore_n 2, 1) := by decide +kernel
theorem dX6_reckon_20 : decode cX6_reckon 20 = .ok (.bipush 95, 2) := by decide +kernel
theorem dX6_reckon_22 : decode cX6_reckon 22 = .ok (.istore_n 3, 1) := by decide +kernel
theorem dX6_reckon_23 : decode cX6_reckon 23 = .ok (.iload_n 3, 1) := by decide +kernel
theorem dX6_reckon_24 : decode cX6_reckon 24 = .ok (.ifCond .lt 70, 3) := by decide +kernel
theorem dX6_reckon_27 : decode cX6_reckon 27 = .ok (.aload_n 0, 1) := by decide +kernel
theorem dX6_reckon_28 : decode cX6_reckon 28 = .ok (.getfield 16, 3) := by decide +kernel
theorem dX6_reckon_31 : decode cX6_reckon 31 = .ok (.iload_n 1, 1) := by decide +kernel
theorem dX6_reckon_32 : decode cX6_reckon 32 = .ok (.aaload, 1) := by decide +kernel
theorem dX6_reckon_33 : decode cX6_reckon 33 = .ok (.iload_n 3, 1) := by decide +kernel
theorem dX6_reckon_34 : decode cX6_reckon 34 = .ok (.iload_n 2, 1) := by decide +kernel
theorem dX6_reckon_35 : decode cX6_reckon 35 = .ok (.iastore, 1) := by decide +kernel
theorem dX6_reckon_36 : decode cX6_reckon 36 = .ok (.aload_n 0, 1) := by decide +kernel
theorem dX6_reckon_37 : decode cX6_reckon 37 = .ok (.getfield 19, 3) := by decide +kernel
theorem dX6_reckon_40 : decode cX6_reckon 40 = .ok (.iload_n 3, 1) := by decide +kernel
theorem dX6_reckon_41 : decode cX6_reckon 41 = .ok (.iaload, 1) := by decide +kernel
theorem dX6_reckon_42 : decode cX6_reckon 42 = .ok (.iconst (-1), 1) := by decide +kernel
theorem dX6_reckon_43 : decode cX6_reckon 43 = .ok (.if_icmp .eq 20, 3) := by decide +kernel
theorem dX6_reckon_46 : decode cX6_reckon 46 = .ok (.iload_n 3, 1) := by decide +kernel
theorem dX6_reckon_47 : decode cX6_reckon 47 = .ok (.istore_n 2, 1) := by decide +kernel
theorem dX6_reckon_48 : decode cX6_reckon 48 = .ok (.aload_n 0, 1) := by decide +kernel
theorem dX6_reckon_49 : decode cX6_reckon 49 = .ok (.getfield 23, 3) := by decide +kernel
theorem dX6_reckon_52 : decode cX6_reckon 52 = .ok (.iload_n 3, 1) := by decide +kernel
theorem dX6_reckon_53 : decode cX6_reckon 53 = .ok (.aload_n 0, 1) := by decide +kernel
theorem dX6_reckon_54 : decode cX6_reckon 54 = .ok (.getfield 19, 3) := by decide +kernel
theorem dX6_reckon_57 : decode cX6_reckon 57 = .ok (.iload_n 3, 1) := by decide +kernel
theorem dX6_reckon_58 : decode cX6_reckon 58 = .ok (.iaload, 1) := by decide +kernel
theorem dX6_reckon_59 : decode cX6_reckon 59 = .ok (.iastore, 1) := by decide +kernel
theorem dX6_reckon_60 : decode cX6_reckon 60 = .ok (.goto 28, 3) := by decide +kernel
theorem dX6_reckon_63 : decode cX6_reckon 63 = .ok (.aload_n 0, 1) := by decide +kernel
theorem dX6_reckon_64 : decode cX6_reckon 64 = .ok (.getfield 23, 3) := by decide +kernel
theorem dX6_reckon_67 : decode cX6_reckon 67 = .ok (.iload_n 3, 1) := by decide +kernel
theorem dX6_reckon_68 : decode cX6_reckon 68 = .ok (.aload_n 0, 1) := by decide +kernel
theorem dX6_reckon_69 : decode cX6_reckon 69 = .ok (.getfield 32, 3) := by decide +kernel
theorem dX6_reckon_72 : decode cX6_reckon 72 = .ok (.invokevirtual 44, 3) := by decide +kernel
theorem dX6_reckon_75 : decode cX6_reckon 75 = .ok (.aload_n 0, 1) := by decide +kernel
theorem dX6_reckon_76 : decode cX6_reckon 76 = .ok (.getfield 36, 3) := by decide +kernel
theorem dX6_reckon_79 : decode cX6_reckon 79 = .ok (.getfield 50, 3) := by decide +kernel
theorem dX6_reckon_82 : decode cX6_reckon 82 = .ok (.iload_n 3, 1) := by decide +kernel
theorem dX6_reckon_83 : decode cX6_reckon 83 = .ok (.iaload, 1) := by decide +kernel
theorem dX6_reckon_84 : decode cX6_reckon 84 = .ok (.iconst (-1), 1) := by decide +kernel
theorem dX6_reckon_85 : decode cX6_reckon 85 = .ok (.ixor, 1) := by decide +kernel
theorem dX6_reckon_86 : decode cX6_reckon 86 = .ok (.iand, 1) := by decide +kernel
theorem dX6_reckon_87 : decode cX6_reckon 87 = .ok (.iastore, 1) := by decide +kernel
theorem dX6_reckon_88 : decode cX6_reckon 88 = .ok (.iinc 3 (-1), 3) := by decide +kernel
theorem dX6_reckon_91 : decode cX6_reckon 91 = .ok (.goto (-68), 3) := by decide +kernel
theorem dX6_reckon_94 : decode cX6_reckon 94 = .ok (.aload_n 0, 1) := by decide +kernel
theorem dX6_reckon_95 : decode cX6_reckon 95 = .ok (.iload_n 1, 1) := by decide +kernel
theorem dX6_reckon_96 : decode cX6_reckon 96 = .ok (.invokevirtual 55, 3) := by decide +kernel
theorem dX6_reckon_99 : decode cX6_reckon 99 = .ok (.aload_n 0, 1) := by decide +kernel
theorem dX6_reckon_100 : decode cX6_reckon 100 = .ok (.iload_n 1, 1) := by decide +kernel
theorem dX6_reckon_101 : decode cX6_reckon 101 = .ok (.invokevirtual 58, 3) := by decide +kernel
theorem dX6_reckon_104 : decode cX6_reckon 104 = .ok (.iconst 0, 1) := by decide +kernel
theorem dX6_reckon_105 : decode cX6_reckon 105 = .ok (.istore_n 3, 1) := by decide +kernel
theorem dX6_reckon_106 : decode cX6_reckon 106 = .ok (.iload_n 3, 1) := by decide +kernel
theorem dX6_reckon_107 : decode cX6_reckon 107 = .ok (.bipush 96, 2) := by decide +kernel
theorem dX6_reckon_109 : decode cX6_reckon 109 = .ok (.if_icmp .ge 30, 3) := by decide +kernel
theorem dX6_reckon_112 : decode cX6_reckon 112 = .ok (.aload_n 0, 1) := by decide +kernel
theorem dX6_reckon_113 : decode cX6_reckon 113 = .ok (.getfield 11, 3) := by decide +kernel
theorem dX6_reckon_116 : decode cX6_reckon 116 = .ok (.iload_n 1, 1) := by decide +kernel
theorem dX6_reckon_117 : decode cX6_reckon 117 = .ok (.aaload, 1) := by decide +kernel
theorem dX6_reckon_118 : decode cX6_reckon 118 = .ok (.iload_n 3, 1) := by decide +kernel
theorem dX6_reckon_119 : decode cX6_reckon 119 = .ok (.aload_n 0, 1) := by decide +kernel
theorem dX6_reckon_120 : decode cX6_reckon 120 = .ok (.getfield 26, 3) := by decide +kernel
theorem dX6_reckon_123 : decode cX6_reckon 123 = .ok (.iload_n 3, 1) := by decide +kernel
theorem dX6_reckon_124 : decode cX6_reckon 124 = .ok (.iaload, 1) := by decide +kernel
theorem dX6_reckon_125 : decode cX6_reckon 125 = .ok (.aload_n 0, 1) := by decide +kernel
theorem dX6_reckon_126 : decode cX6_reckon 126 = .ok (.getfield 29, 3) := by decide +kernel
theorem dX6_reckon_129 : decode cX6_reckon 129 = .ok (.iload_n 3, 1) := by decide +kernel
theorem dX6_reckon_130 : decode cX6_reckon 130 = .ok (.iaload, 1) := by decide +kernel
theorem dX6_reckon_131 : decode cX6_reckon 131 = .ok (.iand, 1) := by decide +kernel
theorem dX6_reckon_132 : decode cX6_reckon 132 = .ok (.iastore, 1) := by decide +kernel
theorem dX6_reckon_133 : decode cX6_reckon 133 = .ok (.iinc 3 1, 3) := by decide +kernel
theorem dX6_reckon_136 : decode cX6_reckon 136 = .ok (.goto (-30), 3) := by decide +kernel
theorem dX6_reckon_139 : decode cX6_reckon 139 = .ok (.return_, 1) := by decide +kernel
abbrev rm_X6_reckon : Room := { frames := 3, cells := 0, slots := 0, locals := 66 }
set_option maxRecDepth 100000 in
set_option maxHeartbeats 4000000 in
theorem ct_X6_reckon {w : Wd} {l : Launch} {a1 : Int} {σ : St} {σ' : St} (ia1 : InI a1) (h : m_X6_reckon a1 σ = some σ') : Ct w l yX6_reckon (Cond.code yX6_reckon cX6_reckon 4 none :: TB) rm_X6_reckon [rv w 95, iv a1] σ none True σ' := by
  refine Ct.of2 [some (rv w 95), some (iv a1), none, none] 2 rfl pn_RX6 (Nat.le_of_ble_eq_true rfl) ?_
  intro p e s m args below meth c C hr hlk
  unfold m_X6_reckon at h
  refine g_iload_n C dX6_reckon_0 rfl ?_
  refine g_if_lt C dX6_reckon_1 ia1 rfl (tgt := 10) (fun c1 => ?_) (fun c1 => ?_)
  · have h := ifT c1 h
    exact g_vretP C dX6_reckon_10 hr hlk h
  · have h := ifF c1 h
    refine g_iload_n C dX6_reckon_4 rfl ?_
    refine g_bipush C dX6_reckon_5 rfl ?_
    refine g_icmp_lt C dX6_reckon_7 ia1 (by decide) rfl (tgt := 11) (fun c2 => ?_) (fun c2 => ?_)
    · have h := ifT c2 h
      refine g_aload_n C dX6_reckon_11 rfl ?_
      refine g_iload_n C dX6_reckon_12 rfl ?_
      obtain ⟨σ3, qσ3, h⟩ := bnd h
      refine g_callV0 (As := [iv a1]) C dX6_reckon_13 mi_X6_noteSights ml_6_40 (ct_X6_noteSights ia1 qσ3) rfl rfl ⟨rfl, rfl⟩ ⟨Nat.le_of_ble_eq_true rfl, Nat.le_of_ble_eq_true rfl⟩ ⟨Nat.zero_le _, Nat.zero_le _⟩ rfl (Nat.le_of_ble_eq_true rfl) (fun _ => ?_)
      refine g_sipush C dX6_reckon_16 rfl ?_
      refine g_istore_n (L1 := [some (rv w 95), some (iv a1), some (iv 1000), none]) C dX6_reckon_19 rfl (Nat.le_of_ble_eq_true rfl) rfl ?_
      refine g_bipush C dX6_reckon_20 rfl ?_
      refine g_istore_n (L1 := [some (rv w 95), some (iv a1), some (iv 1000), some (iv 95)]) C dX6_reckon_22 rfl (Nat.le_of_ble_eq_true rfl) rfl ?_
      obtain ⟨b4, hb4, hF4⟩ := bnd h
      have hX4 : ∀ (σ18 : St) , σ18 = b4 → GM w p l e rm_X6_reckon s m args below meth c none True σ' 4 94 [some (rv w 95), some (iv a1), none, none] [] σ18 := by
        intro σ18 q
        subst q
        have h := hF4
        refine g_aload_n C dX6_reckon_94 rfl ?_
        refine g_iload_n C dX6_reckon_95 rfl ?_
        obtain ⟨σ19, qσ19, h⟩ := bnd h
        refine g_callV0 (As := [iv a1]) C dX6_reckon_96 mi_X6_goForth ml_6_55 (ct_X6_goForth ia1 qσ19) rfl rfl ⟨rfl, rfl⟩ ⟨Nat.le_of_ble_eq_true rfl, Nat.le_of_ble_eq_true rfl⟩ ⟨Nat.zero_le _, Nat.zero_le _⟩ rfl (Nat.le_of_ble_eq_true rfl) (fun _ => ?_)
        refine g_aload_n C dX6_reckon_99 rfl ?_
        refine g_iload_n C dX6_reckon_100 rfl ?_
        obtain ⟨σ20, qσ20, h⟩ := bnd h
        refine g_callV0 (As := [iv a1]) C dX6_reckon_101 mi_X6_goBack ml_6_58 (ct_X6_goBack ia1 qσ20) rfl rfl ⟨rfl, rfl⟩ ⟨Nat.le_of_ble_eq_true rfl, Nat.le_of_ble_eq_true rfl⟩ ⟨Nat.zero_le _, Nat.zero_le _⟩ rfl (Nat.le_of_ble_eq_true rfl) (fun _ => ?_)
        refine g_iconst C dX6_reckon_104 ?_
        refine g_istore_n (L1 := [some (rv w 95), some (iv a1), none, some (iv 0)]) C dX6_reckon_105 rfl (Nat.le_of_ble_eq_true rfl) rfl ?_
        obtain ⟨b21, hb21, hF21⟩ := bnd h
        have hX21 : ∀ (σ29 : St) , σ29 = b21 → GM w p l e rm_X6_reckon s m args below meth c none True σ' 4 139 [none, none, none, none] [] σ29 := by
          intro σ29 q
          subst q
          have h := hF21
          exact g_vretP C dX6_reckon_139 hr hlk h
        have hL21 : ∀ (n : Nat) (x22 : Int) (σ23 : St) , InI x22 → lpN (fun a => m_X6_reckon_L106 a1 a.1 a.2) n (x22, σ23) = some b21 → GM w p l e rm_X6_reckon s m args below meth c none True σ' 4 106 [some (rv w 95), some (iv a1), none, some (iv x22)] [] σ23 := by
          intro n
          induction n with
          | zero => intro x22 σ23 ix22 q; cases q
          | succ n ih21 =>
            intro x22 σ23 ix22 q
            obtain ⟨o21, h, hk21⟩ := lp_step q
            replace h : m_X6_reckon_L106 a1 x22 σ23 = some o21 := h
            unfold m_X6_reckon_L106 at h
            refine g_iload_n C dX6_reckon_106 rfl ?_
            refine g_bipush C dX6_reckon_107 rfl ?_
            refine g_icmp_ge C dX6_reckon_109 ix22 (by decide) rfl (tgt := 139) (fun c24 => ?_) (fun c24 => ?_)
            · have h := ifT c24 h
              refine g_mask [false, false, true, false] ?_
              obtain rfl := Option.some.inj h
              exact hX21 σ23 (lpR hk21).symm
            · have h := ifF c24 h
              refine g_aload_n C dX6_reckon_112 rfl ?_
              refine g_getR (j := 0) C dX6_reckon_113 rfl (Nat.le_of_ble_eq_true rfl) (Nat.le_of_ble_eq_true rfl) fl_6_11 rfl rfl (r := 96) rfl ?_
              refine g_iload_n C dX6_reckon_116 rfl ?_
              obtain ⟨k25, qk25, h⟩ := bnd h
              refine g_aalI C dX6_reckon_117 rfl rfl qk25 ia1 ?_
              refine g_iload_n C dX6_reckon_118 rfl ?_
              refine g_aload_n C dX6_reckon_119 rfl ?_
              refine g_getR (j := 6) C dX6_reckon_120 rfl (Nat.le_of_ble_eq_true rfl) (Nat.le_of_ble_eq_true rfl) fl_6_26 rfl rfl (r := 116) rfl ?_
              refine g_iload_n C dX6_reckon_123 rfl ?_
              obtain ⟨x26, qx26, h⟩ := bnd h
              refine g_iald C dX6_reckon_124 rfl rfl qx26 ix22 (fun ix26 => ?_)
              refine g_aload_n C dX6_reckon_125 rfl ?_
              refine g_getR (j := 7) C dX6_reckon_126 rfl (Nat.le_of_ble_eq_true rfl) (Nat.le_of_ble_eq_true rfl) fl_6_29 rfl rfl (r := 117) rfl ?_
              refine g_iload_n C dX6_reckon_129 rfl ?_
              obtain ⟨x27, qx27, h⟩ := bnd h
              refine g_iald C dX6_reckon_130 rfl rfl qx27 ix22 (fun ix27 => ?_)
              refine g_iand C dX6_reckon_131 ?_
              obtain ⟨σ28, qσ28, h⟩ := bnd h
              refine g_iast C dX6_reckon_132 (rrB_96 qk25).1 (rrB_96 qk25).2 qσ28 ix22 (iand _ _) ?_
              refine g_iinc (L1 := [some (rv w 95), some (iv a1), none, some (iv (wr (x22 + 1)))]) C dX6_reckon_133 rfl rfl (Nat.le_of_ble_eq_true rfl) rfl ?_
              refine g_goto C dX6_reckon_136 rfl (tgt := 106) ?_
              obtain rfl := Option.some.inj h
              exact ih21 _ _ (iwr _) (lpL hk21)
        exact hL21 FU _ _ (by decide) hb21
      have hL4 : ∀ (n : Nat) (x5 : Int) (x6 : Int) (σ7 : St) , InI x5 → InI x6 → lpN (fun a => m_X6_reckon_L23 a1 a.1 a.2.1 a.2.2) n (x5, x6, σ7) = some b4 → GM w p l e rm_X6_reckon s m args below meth c none True σ' 4 23 [some (rv w 95), some (iv a1), some (iv x5), some (iv x6)] [] σ7 := by
        intro n
        induction n with
        | zero => intro x5 x6 σ7 ix5 ix6 q; cases q
        | succ n ih4 =>
          intro x5 x6 σ7 ix5 ix6 q
          obtain ⟨o4, h, hk4⟩ := lp_step q
          replace h : m_X6_reckon_L23 a1 x5 x6 σ7 = some o4 := h
          unfold m_X6_reckon_L23 at h
          refine g_iload_n C dX6_reckon_23 rfl ?_
          refine g_if_lt C dX6_reckon_24 ix6 rfl (tgt := 94) (fun c8 => ?_) (fun c8 => ?_)
          · have h := ifT c8 h
            refine g_mask [true, true, false, false] ?_
            obtain rfl := Option.some.inj h
            exact hX4 σ7 (lpR hk4).symm
          · have h := ifF c8 h
            refine g_aload_n C dX6_reckon_27 rfl ?_
            refine g_getR (j := 1) C dX6_reckon_28 rfl (Nat.le_of_ble_eq_true rfl) (Nat.le_of_ble_eq_true rfl) fl_6_16 rfl rfl (r := 105) rfl ?_
            refine g_iload_n C dX6_reckon_31 rfl ?_
            obtain ⟨k9, qk9, h⟩ := bnd h
            refine g_aalI C dX6_reckon_32 rfl rfl qk9 ia1 ?_
            refine g_iload_n C dX6_reckon_33 rfl ?_
            refine g_iload_n C dX6_reckon_34 rfl ?_
            obtain ⟨σ10, qσ10, h⟩ := bnd h
            refine g_iast C dX6_reckon_35 (rrB_105 qk9).1 (rrB_105 qk9).2 qσ10 ix6 ix5 ?_
            refine g_aload_n C dX6_reckon_36 rfl ?_
            refine g_getR (j := 4) C dX6_reckon_37 rfl (Nat.le_of_ble_eq_true rfl) (Nat.le_of_ble_eq_true rfl) fl_6_19 rfl rfl (r := 114) rfl ?_
            refine g_iload_n C dX6_reckon_40 rfl ?_
            obtain ⟨x11, qx11, h⟩ := bnd h
            refine g_iald C dX6_reckon_41 rfl rfl qx11 ix6 (fun ix11 => ?_)
            refine g_iconst C dX6_reckon_42 ?_
            refine g_icmp_eq C dX6_reckon_43 ix11 (by decide) rfl (tgt := 63) (fun c12 => ?_) (fun c12 => ?_)
            · have h := ifT c12 h
              refine g_aload_n C dX6_reckon_63 rfl ?_
              refine g_getR (j := 5) C dX6_reckon_64 rfl (Nat.le_of_ble_eq_true rfl) (Nat.le_of_ble_eq_true rfl) fl_6_23 rfl rfl (r := 115) rfl ?_
              refine g_iload_n C dX6_reckon_67 rfl ?_
              refine g_aload_n C dX6_reckon_68 rfl ?_
              refine g_getR (j := 2) C dX6_reckon_69 rfl (Nat.le_of_ble_eq_true rfl) (Nat.le_of_ble_eq_true rfl) fl_6_32 rfl rfl (r := 1) rfl ?_
              obtain ⟨x13, qx13, h⟩ := bnd h
              refine g_callV1 (As := []) C dX6_reckon_72 mi_X10_allSpots ml_6_44 (ct_X10_allSpots qx13) rfl rfl ⟨rfl, rfl⟩ ⟨Nat.le_of_ble_eq_true rfl, Nat.le_of_ble_eq_true rfl⟩ ⟨Nat.zero_le _, Nat.zero_le _⟩ rfl (Nat.le_of_ble_eq_true rfl) (fun ix13 => ?_)
              refine g_aload_n C dX6_reckon_75 rfl ?_
              refine g_getR (j := 3) C dX6_reckon_76 rfl (Nat.le_of_ble_eq_true rfl) (Nat.le_of_ble_eq_true rfl) fl_6_36 rfl rfl (r := 30) rfl ?_
              refine g_getR (j := 8) C dX6_reckon_79 rfl (Nat.le_of_ble_eq_true rfl) (Nat.le_of_ble_eq_true rfl) fl_6_50 rfl rfl (r := 37) rfl ?_
              refine g_iload_n C dX6_reckon_82 rfl ?_
              obtain ⟨x14, qx14, h⟩ := bnd h
              refine g_iald C dX6_reckon_83 rfl rfl qx14 ix6 (fun ix14 => ?_)
              refine g_iconst C dX6_reckon_84 ?_
              refine g_ixor C dX6_reckon_85 ?_
              refine g_iand C dX6_reckon_86 ?_
              obtain ⟨σ15, qσ15, h⟩ := bnd h
              refine g_iast C dX6_reckon_87 rfl rfl qσ15 ix6 (iand _ _) ?_
              refine g_iinc (L1 := [some (rv w 95), some (iv a1), some (iv x5), some (iv (wr (x6 + (-1))))]) C dX6_reckon_88 rfl rfl (Nat.le_of_ble_eq_true rfl) rfl ?_
              refine g_goto C dX6_reckon_91 rfl (tgt := 23) ?_
              obtain rfl := Option.some.inj h
              exact ih4 _ _ _ ix5 (iwr _) (lpL hk4)
            · have h := ifF c12 h
              refine g_iload_n C dX6_reckon_46 rfl ?_
              refine g_istore_n (L1 := [some (rv w 95), some (iv a1), some (iv x6), some (iv x6)]) C dX6_reckon_47 rfl (Nat.le_of_ble_eq_true rfl) rfl ?_
              refine g_aload_n C dX6_reckon_48 rfl ?_
              refine g_getR (j := 5) C dX6_reckon_49 rfl (Nat.le_of_ble_eq_true rfl) (Nat.le_of_ble_eq_true rfl) fl_6_23 rfl rfl (r := 115) rfl ?_
              refine g_iload_n C dX6_reckon_52 rfl ?_
              refine g_aload_n C dX6_reckon_53 rfl ?_
              refine g_getR (j := 4) C dX6_reckon_54 rfl (Nat.le_of_ble_eq_true rfl) (Nat.le_of_ble_eq_true rfl) fl_6_19 rfl rfl (r := 114) rfl ?_
              refine g_iload_n C dX6_reckon_57 rfl ?_
              obtain ⟨x16, qx16, h⟩ := bnd h
              refine g_iald C dX6_reckon_58 rfl rfl qx16 ix6 (fun ix16 => ?_)
              obtain ⟨σ17, qσ17, h⟩ := bnd h
              refine g_iast C dX6_reckon_59 rfl rfl qσ17 ix6 ix16 ?_
              refine g_goto C dX6_reckon_60 rfl (tgt := 88) ?_
              refine g_iinc (L1 := [some (rv w 95), some (iv a1), some (iv x6), some (iv (wr (x6 + (-1))))]) C dX6_reckon_88 rfl rfl (Nat.le_of_ble_eq_true rfl) rfl ?_
              refine g_goto C dX6_reckon_91 rfl (tgt := 23) ?_
              obtain rfl := Option.some.inj h
              exact ih4 _ _ _ ix6 (iwr _) (lpL hk4)
      exact hL4 FU _ _ _ (by decide) (by decide) hb4
    · have h := ifF c2 h
      exact g_vretP C dX6_reckon_10 hr hlk h
theorem dX6_canShare_0 : decode cX6_canShare 0 = .ok (.iload_n 1, 1) := by decide +kernel
theorem dX6_canShare_1 : decode cX6_canShare 1 = .ok (.ifCond .lt 19, 3) := by decide +kernel
theorem dX6_canShare_4 : decode cX6_canShare 4 = .ok (.iload_n 1, 1) := by decide +kernel
theorem dX6_canShare_5 : decode cX6_canShare 5 = .ok (.bipush 8, 2) := by decide +kernel
theorem dX6_canShare_7 : decode cX6_canShare 7 = .ok (.if_icmp .ge 13, 3) := by decide +kernel
theorem dX6_canShare_10 : decode cX6_canShare 10 = .ok (.iload_n 2, 1) := by decide +kernel
theorem dX6_canShare_11 : decode cX6_canShare 11 = .ok (.ifCond .lt 9, 3) := by decide +kernel
theorem dX6_canShare_14 : decode cX6_canShare 14 = .ok (.iload_n 2, 1) := by decide +kernel
theorem dX6_canShare_15 : decode cX6_canShare 15 = .ok (.bipush 8, 2) := by decide +kernel
theorem dX6_canShare_17 : decode cX6_canShare 17 = .ok (.if_icmp .lt 5, 3) := by decide +kernel
theorem dX6_canShare_20 : decode cX6_canShare 20 = .ok (.iconst 0, 1) := by decide +kernel
theorem dX6_canShare_21 : decode cX6_canShare 21 = .ok (.ireturn, 1) := by decide +kernel
theorem dX6_canShare_22 : decode cX6_canShare 22 = .ok (.iload_n 3, 1) := by decide +kernel
theorem dX6_canShare_23 : decode cX6_canShare 23 = .ok (.iconst 0, 1) := by decide +kernel
theorem dX6_canShare_24 : decode cX6_canShare 24 = .ok (.invokestatic 96, 3) := by decide +kernel
theorem dX6_canShare_27 : decode cX6_canShare 27 = .ok (.istore 4, 2) := by decide +kernel
theorem dX6_canShare_29 : decode cX6_canShare 29 = .ok (.iload 4, 2) := by decide +kernel
theorem dX6_canShare_31 : decode cX6_canShare 31 = .ok (.bipush 96, 2) := by decide +kernel
theorem dX6_canShare_33 : decode cX6_canShare 33 = .ok (.if_icmp .ge 33, 3) := by decide +kernel
theorem dX6_canShare_36 : decode cX6_canShare 36 = .ok (.aload_n 0, 1) := by decide +kernel
theorem dX6_canShare_37 : decode cX6_canShare 37 = .ok (.getfield 11, 3) := by decide +kernel
theorem dX6_canShare_40 : decode cX6_canShare 40 = .ok (.iload_n 1, 1) := by decide +kernel
theorem dX6_canShare_41 : decode cX6_canShare 41 = .ok (.aaload, 1) := by decide +kernel
theorem dX6_canShare_42 : decode cX6_canShare 42 = .ok (.iload 4, 2) := by decide +kernel
theorem dX6_canShare_44 : decode cX6_canShare 44 = .ok (.iaload, 1) := by decide +kernel
theorem dX6_canShare_45 : decode cX6_canShare 45 = .ok (.aload_n 0, 1) := by decide +kernel
theorem dX6_canShare_46 : decode cX6_canShare 46 = .ok (.getfield 11, 3) := by decide +kernel
theorem dX6_canShare_49 : decode cX6_canShare 49 = .ok (.iload_n 2, 1) := by decide +kernel
theorem dX6_canShare_50 : decode cX6_canShare 50 = .ok (.aaload, 1) := by decide +kernel
theorem dX6_canShare_51 : decode cX6_canShare 51 = .ok (.iload 4, 2) := by decide +kernel
theorem dX6_canShare_53 : decode cX6_canShare 53 = .ok (.iaload, 1) := by decide +kernel
theorem dX6_canShare_54 : decode cX6_canShare 54 = .ok (.iand, 1) := by decide +kernel
theorem dX6_canShare_55 : decode cX6_canShare 55 = .ok (.ifCond .eq 5, 3) := by decide +kernel
theorem dX6_canShare_58 : decode cX6_canShare 58 = .ok (.iconst 1, 1) := by decide +kernel
theorem dX6_canShare_59 : decode cX6_canShare 59 = .ok (.ireturn, 1) := by decide +kernel
theorem dX6_canShare_60 : decode cX6_canShare 60 = .ok (.iinc 4 1, 3) := by decide +kernel
theorem dX6_canShare_63 : decode cX6_canShare 63 = .ok (.goto (-34), 3) := by decide +kernel
theorem dX6_canShare_66 : decode cX6_canShare 66 = .ok (.iconst 0, 1) := by decide +kernel
theorem dX6_canShare_67 : decode cX6_canShare 67 = .ok (.ireturn, 1) := by decide +kernel
abbrev rm_X6_canShare : Room := { frames := 1, cells := 0, slots := 0, locals := 21 }
set_option maxRecDepth 100000 in
set_option maxHeartbeats 4000000 in
theorem ct_X6_canShare {w : Wd} {l : Launch} {a1 : Int} {a2 : Int} {a3 : Int} {σ : St} {y : Int} (ia1 : InI a1) (ia2 : InI a2) (ia3 : InI a3) (h : m_X6_canShare a1 a2 a3 σ = some y) : Ct w l yX6_canShare (Cond.code yX6_canShare cX6_canShare 5 (some .boolean) :: TB) rm_X6_canShare [rv w 95, iv a1, iv a2, iv a3] σ (some (iv y)) (InZ y) σ := by
  refine Ct.of2 [some (rv w 95), some (iv a1), some (iv a2), some (iv a3), none] 1 rfl pn_RX6 (Nat.le_of_ble_eq_true rfl) ?_
  intro p e s m args below meth c C hr hlk
  unfold m_X6_canShare at h
  refine g_iload_n C dX6_canShare_0 rfl ?_
  refine g_if_lt C dX6_canShare_1 ia1 rfl (tgt := 20) (fun c1 => ?_) (fun c1 => ?_)
  · have h := ifT c1 h
    refine g_iconst C dX6_canShare_20 ?_
    exact g_zretU C dX6_canShare_21 hr hlk h (Or.inl rfl)
  · have h := ifF c1 h
    refine g_iload_n C dX6_canShare_4 rfl ?_
    refine g_bipush C dX6_canShare_5 rfl ?_
    refine g_icmp_ge C dX6_canShare_7 ia1 (by decide) rfl (tgt := 20) (fun c2 => ?_) (fun c2 => ?_)
    · have h := ifT c2 h
      refine g_iconst C dX6_canShare_20 ?_
      exact g_zretU C dX6_canShare_21 hr hlk h (Or.inl rfl)
    · have h := ifF c2 h
      refine g_iload_n C dX6_canShare_10 rfl ?_
      refine g_if_lt C dX6_canShare_11 ia2 rfl (tgt := 20) (fun c3 => ?_) (fun c3 => ?_)
      · have h := ifT c3 h
        refine g_iconst C dX6_canShare_20 ?_
        exact g_zretU C dX6_canShare_21 hr hlk h (Or.inl rfl)
      · have h := ifF c3 h
        refine g_iload_n C dX6_canShare_14 rfl ?_
        refine g_bipush C dX6_canShare_15 rfl ?_
        refine g_icmp_lt C dX6_canShare_17 ia2 (by decide) rfl (tgt := 22) (fun c4 => ?_) (fun c4 => ?_)
        · have h := ifT c4 h
          refine g_iload_n C dX6_canShare_22 rfl ?_
          refine g_iconst C dX6_canShare_23 ?_
          refine g_mmax C dX6_canShare_24 ia3 (by decide) ml_6_96 ⟨Nat.le_of_ble_eq_true rfl, Nat.le_of_ble_eq_true rfl⟩ ⟨Nat.zero_le _, Nat.zero_le _⟩ ?_
          obtain ⟨x5, qx5, h⟩ := bnd h
          have qx5 := Option.some.inj qx5
          have ix5 : InI x5 := by rw [← qx5]; exact (imax ia3 (by decide))
          refine g_E qx5 ?_
          refine g_istore (L1 := [some (rv w 95), some (iv a1), some (iv a2), some (iv a3), some (iv x5)]) C dX6_canShare_27 rfl (Nat.le_of_ble_eq_true rfl) rfl ?_
          refine g_mask [true, true, true, false, true] ?_
          obtain ⟨b6, hb6, hF6⟩ := bnd h
          have hX6 : Sum.inl () = b6 → GM w p l e rm_X6_canShare s m args below meth c (some (iv y)) (InZ y) σ 5 66 [none, none, none, none, none] [] σ := by
            intro q
            subst q
            have h := hF6
            refine g_iconst C dX6_canShare_66 ?_
            exact g_zretU C dX6_canShare_67 hr hlk h (Or.inl rfl)
          have hL6 : ∀ (n : Nat) (x7 : Int) , InI x7 → lpN (fun a => m_X6_canShare_L29 a1 σ a2 a) n x7 = some b6 → GM w p l e rm_X6_canShare s m args below meth c (some (iv y)) (InZ y) σ 5 29 [some (rv w 95), some (iv a1), some (iv a2), none, some (iv x7)] [] σ := by
            intro n
            induction n with
            | zero => intro x7 ix7 q; cases q
            | succ n ih6 =>
              intro x7 ix7 q
              obtain ⟨o6, h, hk6⟩ := lp_step q
              replace h : m_X6_canShare_L29 a1 σ a2 x7 = some o6 := h
              unfold m_X6_canShare_L29 at h
              refine g_iload C dX6_canShare_29 rfl ?_
              refine g_bipush C dX6_canShare_31 rfl ?_
              refine g_icmp_ge C dX6_canShare_33 ix7 (by decide) rfl (tgt := 66) (fun c8 => ?_) (fun c8 => ?_)
              · have h := ifT c8 h
                refine g_mask [false, false, false, true, false] ?_
                obtain rfl := Option.some.inj h
                exact hX6  (lpR hk6).symm
              · have h := ifF c8 h
                refine g_aload_n C dX6_canShare_36 rfl ?_
                refine g_getR (j := 0) C dX6_canShare_37 rfl (Nat.le_of_ble_eq_true rfl) (Nat.le_of_ble_eq_true rfl) fl_6_11 rfl rfl (r := 96) rfl ?_
                refine g_iload_n C dX6_canShare_40 rfl ?_
                obtain ⟨k9, qk9, h⟩ := bnd h
                refine g_aalI C dX6_canShare_41 rfl rfl qk9 ia1 ?_
                refine g_iload C dX6_canShare_42 rfl ?_
                obtain ⟨x10, qx10, h⟩ := bnd h
                refine g_iald C dX6_canShare_44 (rrB_96 qk9).1 (rrB_96 qk9).2 qx10 ix7 (fun ix10 => ?_)
                refine g_aload_n C dX6_canShare_45 rfl ?_
                refine g_getR (j := 0) C dX6_canShare_46 rfl (Nat.le_of_ble_eq_true rfl) (Nat.le_of_ble_eq_true rfl) fl_6_11 rfl rfl (r := 96) rfl ?_
                refine g_iload_n C dX6_canShare_49 rfl ?_
                obtain ⟨k11, qk11, h⟩ := bnd h
                refine g_aalI C dX6_canShare_50 rfl rfl qk11 ia2 ?_
                refine g_iload C dX6_canShare_51 rfl ?_
                obtain ⟨x12, qx12, h⟩ := bnd h
                refine g_iald C dX6_canShare_53 (rrB_96 qk11).1 (rrB_96 qk11).2 qx12 ix7 (fun ix12 => ?_)
                refine g_iand C dX6_canShare_54 ?_
                refine g_if_eq C dX6_canShare_55 (iand _ _) rfl (tgt := 60) (fun c13 => ?_) (fun c13 => ?_)
                · have h := ifT c13 h
                  refine g_iinc (L1 := [some (rv w 95), some (iv a1), some (iv a2), none, some (iv (wr (x7 + 1)))]) C dX6_canShare_60 rfl rfl (Nat.le_of_ble_eq_true rfl) rfl ?_
                  refine g_goto C dX6_canShare_63 rfl (tgt := 29) ?_
                  obtain rfl := Option.some.inj h
                  exact ih6 _ (iwr _) (lpL hk6)
                · have h := ifF c13 h
                  refine g_iconst C dX6_canShare_58 ?_
                  obtain rfl := Option.some.inj h
                  have e6 := (lpR hk6).symm
                  subst e6
                  have h := hF6
                  exact g_zretU C dX6_canShare_59 hr hlk h (Or.inr rfl)
          exact hL6 FU _ ix5 hb6
        · have h := ifF c4 h
          refine g_iconst C dX6_canShare_20 ?_
          exact g_zretU C dX6_canShare_21 hr hlk h (Or.inl rfl)
theorem dX7_carryOn_0 : decode cX7_carryOn 0 = .ok (.aload_n 0, 1) := by decide +kernel
theorem dX7_carryOn_1 : decode cX7_carryOn 1 = .ok (.getfield 17, 3) := by decide +kernel
theorem dX7_carryOn_4 : decode cX7_carryOn 4 = .ok (.iload_n 1, 1) := by decide +kernel
theorem dX7_carryOn_5 : decode cX7_carryOn 5 = .ok (.aaload, 1) := by decide +kernel
theorem dX7_carryOn_6 : decode cX7_carryOn 6 = .ok (.iload_n 2, 1) := by decide +kernel
theorem dX7_carryOn_7 : decode cX7_carryOn 7 = .ok (.iaload, 1) := by decide +kernel
theorem dX7_carryOn_8 : decode cX7_carryOn 8 = .ok (.istore_n 3, 1) := by decide +kernel
theorem dX7_carryOn_9 : decode cX7_carryOn 9 = .ok (.iload_n 3, 1) := by decide +kernel
theorem dX7_carryOn_10 : decode cX7_carryOn 10 = .ok (.ifCond .ne 4, 3) := by decide +kernel
theorem dX7_carryOn_13 : decode cX7_carryOn 13 = .ok (.return_, 1) := by decide +kernel
theorem dX7_carryOn_14 : decode cX7_carryOn 14 = .ok (.aload_n 0, 1) := by decide +kernel
theorem dX7_carryOn_15 : decode cX7_carryOn 15 = .ok (.getfield 9, 3) := by decide +kernel
theorem dX7_carryOn_18 : decode cX7_carryOn 18 = .ok (.iload_n 1, 1) := by decide +kernel
theorem dX7_carryOn_19 : decode cX7_carryOn 19 = .ok (.iaload, 1) := by decide +kernel
theorem dX7_carryOn_20 : decode cX7_carryOn 20 = .ok (.iconst (-1), 1) := by decide +kernel
theorem dX7_carryOn_21 : decode cX7_carryOn 21 = .ok (.if_icmp .ne 10, 3) := by decide +kernel
theorem dX7_carryOn_24 : decode cX7_carryOn 24 = .ok (.aload_n 0, 1) := by decide +kernel
theorem dX7_carryOn_25 : decode cX7_carryOn 25 = .ok (.getfield 9, 3) := by decide +kernel
theorem dX7_carryOn_28 : decode cX7_carryOn 28 = .ok (.iload_n 1, 1) := by decide +kernel
theorem dX7_carryOn_29 : decode cX7_carryOn 29 = .ok (.iload_n 2, 1) := by decide +kernel
theorem dX7_carryOn_30 : decode cX7_carryOn 30 = .ok (.iastore, 1) := by decide +kernel
theorem dX7_carryOn_31 : decode cX7_carryOn 31 = .ok (.iload_n 2, 1) := by decide +kernel
theorem dX7_carryOn_32 : decode cX7_carryOn 32 = .ok (.iconst 1, 1) := by decide +kernel
theorem dX7_carryOn_33 : decode cX7_carryOn 33 = .ok (.iadd, 1) := by decide +kernel
theorem dX7_carryOn_34 : decode cX7_carryOn 34 = .ok (.bipush 96, 2) := by decide +kernel
theorem dX7_carryOn_36 : decode cX7_carryOn 36 = .ok (.if_icmp .ge 31, 3) := by decide +kernel
theorem dX7_carryOn_39 : decode cX7_carryOn 39 = .ok (.aload_n 0, 1) := by decide +kernel
theorem dX7_carryOn_40 : decode cX7_carryOn 40 = .ok (.getfield 17, 3) := by decide +kernel
theorem dX7_carryOn_43 : decode cX7_carryOn 43 = .ok (.iload_n 1, 1) := by decide +kernel
theorem dX7_carryOn_44 : decode cX7_carryOn 44 = .ok (.aaload, 1) := by decide +kernel
theorem dX7_carryOn_45 : decode cX7_carryOn 45 = .ok (.iload_n 2, 1) := by decide +kernel
theorem dX7_carryOn_46 : decode cX7_carryOn 46 = .ok (.iconst 1, 1) := by decide +kernel
theorem dX7_carryOn_47 : decode cX7_carryOn 47 = .ok (.iadd, 1) := by decide +kernel
theorem dX7_carryOn_48 : decode cX7_carryOn 48 = .ok (.dup2, 1) := by decide +kernel
theorem dX7_carryOn_49 : decode cX7_carryOn 49 = .ok (.iaload, 1) := by decide +kernel
theorem dX7_carryOn_50 : decode cX7_carryOn 50 = .ok (.iload_n 3, 1) := by decide +kernel
theorem dX7_carryOn_51 : decode cX7_carryOn 51 = .ok (.aload_n 0, 1) := by decide +kernel
theorem dX7_carryOn_52 : decode cX7_carryOn 52 = .ok (.getfield 24, 3) := by decide +kernel
theorem dX7_carryOn_55 : decode cX7_carryOn 55 = .ok (.getfield 34, 3) := by decide +kernel
theorem dX7_carryOn_58 : decode cX7_carryOn 58 = .ok (.iload_n 1, 1) := by decide +kernel
theorem dX7_carryOn_59 : decode cX7_carryOn 59 = .ok (.aaload, 1) := by decide +kernel
theorem dX7_carryOn_60 : decode cX7_carryOn 60 = .ok (.iload_n 2, 1) := by decide +kernel
theorem dX7_carryOn_61 : decode cX7_carryOn 61 = .ok (.iconst 1, 1) := by decide +kernel
theorem dX7_carryOn_62 : decode cX7_carryOn 62 = .ok (.iadd, 1) := by decide +kernel
theorem dX7_carryOn_63 : decode cX7_carryOn 63 = .ok (.iaload, 1) := by decide +kernel
theorem dX7_carryOn_64 : decode cX7_carryOn 64 = .ok (.iand, 1) := by decide +kernel
theorem dX7_carryOn_65 : decode cX7_carryOn 65 = .ok (.ior, 1) := by decide +kernel
theorem dX7_carryOn_66 : decode cX7_carryOn 66 = .ok (.iastore, 1) := by decide +kernel
theorem dX7_carryOn_67 : decode cX7_carryOn 67 = .ok (.iconst 0, 1) := by decide +kernel
theorem dX7_carryOn_68 : decode cX7_carryOn 68 = .ok (.istore 4, 2) := by decide +kernel
theorem dX7_carryOn_70 : decode cX7_carryOn 70 = .ok (.iload 4, 2) := by decide +kernel
theorem dX7_carryOn_72 : decode cX7_carryOn 72 = .ok (.aload_n 0, 1) := by decide +kernel
theorem dX7_carryOn_73 : decode cX7_carryOn 73 = .ok (.getfield 20, 3) := by decide +kernel
theorem dX7_carryOn_76 : decode cX7_carryOn 76 = .ok (.getfield 46, 3) := by decide +kernel
theorem dX7_carryOn_79 : decode cX7_carryOn 79 = .ok (.if_icmp .ge 64, 3) := by decide +kernel
theorem dX7_carryOn_82 : decode cX7_carryOn 82 = .ok (.aload_n 0, 1) := by decide +kernel
theorem dX7_carryOn_83 : decode cX7_carryOn 83 = .ok (.getfield 24, 3) := by decide +kernel
theorem dX7_carryOn_86 : decode cX7_carryOn 86 = .ok (.iload_n 1, 1) := by decide +kernel
theorem dX7_carryOn_87 : decode cX7_carryOn 87 = .ok (.iload_n 2, 1) := by decide +kernel
theorem dX7_carryOn_88 : decode cX7_carryOn 88 = .ok (.iload 4, 2) := by decide +kernel
theorem dX7_carryOn_90 : decode cX7_carryOn 90 = .ok (.invokevirtual 52, 3) := by decide +kernel
theorem dX7_carryOn_93 : decode cX7_carryOn 93 = .ok (.istore 5, 2) := by decide +kernel
theorem dX7_carryOn_95 : decode cX7_carryOn 95 = .ok (.iload 5, 2) := by decide +kernel
theorem dX7_carryOn_97 : decode cX7_carryOn 97 = .ok (.bipush 96, 2) := by decide +kernel
theorem dX7_carryOn_99 : decode cX7_carryOn 99 = .ok (.if_icmp .ge 38, 3) := by decide +kernel
theorem dX7_carryOn_102 : decode cX7_carryOn 102 = .ok (.aload_n 0, 1) := by decide +kernel
theorem dX7_carryOn_103 : decode cX7_carryOn 103 = .ok (.getfield 17, 3) := by decide +kernel
theorem dX7_carryOn_106 : decode cX7_carryOn 106 = .ok (.iload_n 1, 1) := by decide +kernel
theorem dX7_carryOn_107 : decode cX7_carryOn 107 = .ok (.aaload, 1) := by decide +kernel
theorem dX7_carryOn_108 : decode cX7_carryOn 108 = .ok (.iload 5, 2) := by decide +kernel
theorem dX7_carryOn_110 : decode cX7_carryOn 110 = .ok (.dup2, 1) := by decide +kernel
theorem dX7_carryOn_111 : decode cX7_carryOn 111 = .ok (.iaload, 1) := by decide +kernel
theorem dX7_carryOn_112 : decode cX7_carryOn 112 = .ok (.aload_n 0, 1) := by decide +kernel
theorem dX7_carryOn_113 : decode cX7_carryOn 113 = .ok (.getfield 20, 3) := by decide +kernel
theorem dX7_carryOn_116 : decode cX7_carryOn 116 = .ok (.iload 4, 2) := by decide +kernel
theorem dX7_carryOn_118 : decode cX7_carryOn 118 = .ok (.iload_n 3, 1) := by decide +kernel
theorem dX7_carryOn_119 : decode cX7_carryOn 119 = .ok (.invokevirtual 56, 3) := by decide +kernel
theorem dX7_carryOn_122 : decode cX7_carryOn 122 = .ok (.aload_n 0, 1) := by decide +kernel
theorem dX7_carryOn_123 : decode cX7_carryOn 123 = .ok (.getfield 24, 3) := by decide +kernel
theorem dX7_carryOn_126 : decode cX7_carryOn 126 = .ok (.getfield 34, 3) := by decide +kernel
theorem dX7_carryOn_129 : decode cX7_carryOn 129 = .ok (.iload_n 1, 1) := by decide +kernel
theorem dX7_carryOn_130 : decode cX7_carryOn 130 = .ok (.aaload, 1) := by decide +kernel
theorem dX7_carryOn_131 : decode cX7_carryOn 131 = .ok (.iload 5, 2) := by decide +kernel
theorem dX7_carryOn_133 : decode cX7_carryOn 133 = .ok (.iaload, 1) := by decide +kernel
theorem dX7_carryOn_134 : decode cX7_carryOn 134 = .ok (.iand, 1) := by decide +kernel
theorem dX7_carryOn_135 : decode cX7_carryOn 135 = .ok (.ior, 1) := by decide +kernel
theorem dX7_carryOn_136 : decode cX7_carryOn 136 = .ok (.iastore, 1) := by decide +kernel
theorem dX7_carryOn_137 : decode cX7_carryOn 137 = .ok (.iinc 4 1, 3) := by decide +kernel
theorem dX7_carryOn_140 : decode cX7_carryOn 140 = .ok (.goto (-70), 3) := by decide +kernel
theorem dX7_carryOn_143 : decode cX7_carryOn 143 = .ok (.return_, 1) := by decide +kernel
abbrev rm_X7_carryOn : Room := { frames := 1, cells := 0, slots := 0, locals := 24 }
set_option maxRecDepth 100000 in
set_option maxHeartbeats 4000000 in
theorem ct_X7_carryOn {w : Wd} {l : Launch} {a1 : Int} {a2 : Int} {σ : St} {σ' : St} (ia1 : InI a1) (ia2 : InI a2) (h : m_X7_carryOn a1 a2 σ = some σ') : Ct w l yX7_carryOn (Cond.code yX7_carryOn cX7_carryOn 6 none :: TB) rm_X7_carryOn [rv w 153, iv a1, iv a2] σ none True σ' := by
  refine Ct.of2 [some (rv w 153), some (iv a1), some (iv a2), none, none, none] 3 rfl pn_RX7 (Nat.le_of_ble_eq_true rfl) ?_
  intro p e s m args below meth c C hr hlk
  unfold m_X7_carryOn at h
  refine g_aload_n C dX7_carryOn_0 rfl ?_
  refine g_getR (j := 3) C dX7_carryOn_1 rfl (Nat.le_of_ble_eq_true rfl) (Nat.le_of_ble_eq_true rfl) fl_7_17 rfl rfl (r := 155) rfl ?_
  refine g_iload_n C dX7_carryOn_4 rfl ?_
  obtain ⟨k1, qk1, h⟩ := bnd h
  refine g_aalI C dX7_carryOn_5 rfl rfl qk1 ia1 ?_
  refine g_iload_n C dX7_carryOn_6 rfl ?_
  obtain ⟨x2, qx2, h⟩ := bnd h
  refine g_iald C dX7_carryOn_7 (rrB_155 qk1).1 (rrB_155 qk1).2 qx2 ia2 (fun ix2 => ?_)
  refine g_istore_n (L1 := [some (rv w 153), some (iv a1), some (iv a2), some (iv x2), none, none]) C dX7_carryOn_8 rfl (Nat.le_of_ble_eq_true rfl) rfl ?_
  refine g_iload_n C dX7_carryOn_9 rfl ?_
  refine g_if_ne C dX7_carryOn_10 ix2 rfl (tgt := 14) (fun c3 => ?_) (fun c3 => ?_)
  · have h := ifF c3 h
    refine g_aload_n C dX7_carryOn_14 rfl ?_
    refine g_getR (j := 0) C dX7_carryOn_15 rfl (Nat.le_of_ble_eq_true rfl) (Nat.le_of_ble_eq_true rfl) fl_7_9 rfl rfl (r := 154) rfl ?_
    refine g_iload_n C dX7_carryOn_18 rfl ?_
    obtain ⟨x4, qx4, h⟩ := bnd h
    refine g_iald C dX7_carryOn_19 rfl rfl qx4 ia1 (fun ix4 => ?_)
    refine g_iconst C dX7_carryOn_20 ?_
    have hJ31_30 : ∀ (σ7 : St) , m_X7_carryOn_J31 a2 a1 x2 σ7 = some σ' → GM w p l e rm_X7_carryOn s m args below meth c none True σ' 6 31 [some (rv w 153), some (iv a1), some (iv a2), some (iv x2), none, none] [] σ7 := by
      intro σ7 h
      unfold m_X7_carryOn_J31 at h
      refine g_iload_n C dX7_carryOn_31 rfl ?_
      refine g_iconst C dX7_carryOn_32 ?_
      refine g_iadd C dX7_carryOn_33 ?_
      refine g_bipush C dX7_carryOn_34 rfl ?_
      have hJ67_29 : ∀ (σ14 : St) , m_X7_carryOn_J67 a1 a2 x2 σ14 = some σ' → GM w p l e rm_X7_carryOn s m args below meth c none True σ' 6 67 [some (rv w 153), some (iv a1), some (iv a2), some (iv x2), none, none] [] σ14 := by
        intro σ14 h
        unfold m_X7_carryOn_J67 at h
        refine g_iconst C dX7_carryOn_67 ?_
        refine g_istore (L1 := [some (rv w 153), some (iv a1), some (iv a2), some (iv x2), some (iv 0), none]) C dX7_carryOn_68 rfl (Nat.le_of_ble_eq_true rfl) rfl ?_
        obtain ⟨b15, hb15, hF15⟩ := bnd h
        have hX15 : ∀ (σ28 : St) , σ28 = b15 → GM w p l e rm_X7_carryOn s m args below meth c none True σ' 6 143 [none, none, none, none, none, none] [] σ28 := by
          intro σ28 q
          subst q
          have h := hF15
          exact g_vretP C dX7_carryOn_143 hr hlk h
        have hL15 : ∀ (n : Nat) (x16 : Int) (σ17 : St) , InI x16 → lpN (fun a => m_X7_carryOn_L70 a1 a2 x2 a.1 a.2) n (x16, σ17) = some b15 → GM w p l e rm_X7_carryOn s m args below meth c none True σ' 6 70 [some (rv w 153), some (iv a1), some (iv a2), some (iv x2), some (iv x16), none] [] σ17 := by
          intro n
          induction n with
          | zero => intro x16 σ17 ix16 q; cases q
          | succ n ih15 =>
            intro x16 σ17 ix16 q
            obtain ⟨o15, h, hk15⟩ := lp_step q
            replace h : m_X7_carryOn_L70 a1 a2 x2 x16 σ17 = some o15 := h
            unfold m_X7_carryOn_L70 at h
            refine g_iload C dX7_carryOn_70 rfl ?_
            refine g_aload_n C dX7_carryOn_72 rfl ?_
            refine g_getR (j := 1) C dX7_carryOn_73 rfl (Nat.le_of_ble_eq_true rfl) (Nat.le_of_ble_eq_true rfl) fl_7_20 rfl rfl (r := 1) rfl ?_
            refine g_getI (j := 5) C dX7_carryOn_76 rfl (Nat.le_of_ble_eq_true rfl) (Nat.le_of_ble_eq_true rfl) fl_7_46 rfl rfl (fun i18 => ?_)
            refine g_icmp_ge C dX7_carryOn_79 ix16 i18 rfl (tgt := 143) (fun c19 => ?_) (fun c19 => ?_)
            · have h := ifT c19 h
              refine g_mask [false, false, false, false, false, true] ?_
              obtain rfl := Option.some.inj h
              exact hX15 σ17 (lpR hk15).symm
            · have h := ifF c19 h
              refine g_aload_n C dX7_carryOn_82 rfl ?_
              refine g_getR (j := 2) C dX7_carryOn_83 rfl (Nat.le_of_ble_eq_true rfl) (Nat.le_of_ble_eq_true rfl) fl_7_24 rfl rfl (r := 95) rfl ?_
              refine g_iload_n C dX7_carryOn_86 rfl ?_
              refine g_iload_n C dX7_carryOn_87 rfl ?_
              refine g_iload C dX7_carryOn_88 rfl ?_
              obtain ⟨x20, qx20, h⟩ := bnd h
              refine g_callV1 (As := [iv a1, iv a2, iv x16]) C dX7_carryOn_90 mi_X6_arrival ml_7_52 (ct_X6_arrival ia1 ia2 ix16 qx20) rfl rfl ⟨rfl, rfl⟩ ⟨Nat.le_of_ble_eq_true rfl, Nat.le_of_ble_eq_true rfl⟩ ⟨Nat.zero_le _, Nat.zero_le _⟩ rfl (Nat.le_of_ble_eq_true rfl) (fun ix20 => ?_)
              refine g_istore (L1 := [some (rv w 153), some (iv a1), some (iv a2), some (iv x2), some (iv x16), some (iv x20)]) C dX7_carryOn_93 rfl (Nat.le_of_ble_eq_true rfl) rfl ?_
              refine g_iload C dX7_carryOn_95 rfl ?_
              refine g_bipush C dX7_carryOn_97 rfl ?_
              refine g_icmp_ge C dX7_carryOn_99 ix20 (by decide) rfl (tgt := 137) (fun c21 => ?_) (fun c21 => ?_)
              · have h := ifT c21 h
                refine g_iinc (L1 := [some (rv w 153), some (iv a1), some (iv a2), some (iv x2), some (iv (wr (x16 + 1))), some (iv x20)]) C dX7_carryOn_137 rfl rfl (Nat.le_of_ble_eq_true rfl) rfl ?_
                refine g_goto C dX7_carryOn_140 rfl (tgt := 70) ?_
                refine g_mask [true, true, true, true, true, false] ?_
                obtain rfl := Option.some.inj h
                exact ih15 _ _ (iwr _) (lpL hk15)
              · have h := ifF c21 h
                refine g_aload_n C dX7_carryOn_102 rfl ?_
                refine g_getR (j := 3) C dX7_carryOn_103 rfl (Nat.le_of_ble_eq_true rfl) (Nat.le_of_ble_eq_true rfl) fl_7_17 rfl rfl (r := 155) rfl ?_
                refine g_iload_n C dX7_carryOn_106 rfl ?_
                obtain ⟨k22, qk22, h⟩ := bnd h
                refine g_aalI C dX7_carryOn_107 rfl rfl qk22 ia1 ?_
                refine g_iload C dX7_carryOn_108 rfl ?_
                refine g_dup2 C dX7_carryOn_110 rfl rfl ?_
                obtain ⟨x23, qx23, h⟩ := bnd h
                refine g_iald C dX7_carryOn_111 (rrB_155 qk22).1 (rrB_155 qk22).2 qx23 ix20 (fun ix23 => ?_)
                refine g_aload_n C dX7_carryOn_112 rfl ?_
                refine g_getR (j := 1) C dX7_carryOn_113 rfl (Nat.le_of_ble_eq_true rfl) (Nat.le_of_ble_eq_true rfl) fl_7_20 rfl rfl (r := 1) rfl ?_
                refine g_iload C dX7_carryOn_116 rfl ?_
                refine g_iload_n C dX7_carryOn_118 rfl ?_
                obtain ⟨x24, qx24, h⟩ := bnd h
                refine g_callV1 (As := [iv x16, iv x2]) C dX7_carryOn_119 mi_X10_across ml_7_56 (ct_X10_across ix16 ix2 qx24) rfl rfl ⟨rfl, rfl⟩ ⟨Nat.le_of_ble_eq_true rfl, Nat.le_of_ble_eq_true rfl⟩ ⟨Nat.zero_le _, Nat.zero_le _⟩ rfl (Nat.le_of_ble_eq_true rfl) (fun ix24 => ?_)
                refine g_aload_n C dX7_carryOn_122 rfl ?_
                refine g_getR (j := 2) C dX7_carryOn_123 rfl (Nat.le_of_ble_eq_true rfl) (Nat.le_of_ble_eq_true rfl) fl_7_24 rfl rfl (r := 95) rfl ?_
                refine g_getR (j := 0) C dX7_carryOn_126 rfl (Nat.le_of_ble_eq_true rfl) (Nat.le_of_ble_eq_true rfl) fl_7_34 rfl rfl (r := 96) rfl ?_
                refine g_iload_n C dX7_carryOn_129 rfl ?_
                obtain ⟨k25, qk25, h⟩ := bnd h
                refine g_aalI C dX7_carryOn_130 rfl rfl qk25 ia1 ?_
                refine g_iload C dX7_carryOn_131 rfl ?_
                obtain ⟨x26, qx26, h⟩ := bnd h
                refine g_iald C dX7_carryOn_133 (rrB_96 qk25).1 (rrB_96 qk25).2 qx26 ix20 (fun ix26 => ?_)
                refine g_iand C dX7_carryOn_134 ?_
                refine g_ior C dX7_carryOn_135 ?_
                obtain ⟨σ27, qσ27, h⟩ := bnd h
                refine g_iast C dX7_carryOn_136 (rrB_155 qk22).1 (rrB_155 qk22).2 qσ27 ix20 (ior _ _) ?_
                refine g_iinc (L1 := [some (rv w 153), some (iv a1), some (iv a2), some (iv x2), some (iv (wr (x16 + 1))), some (iv x20)]) C dX7_carryOn_137 rfl rfl (Nat.le_of_ble_eq_true rfl) rfl ?_
                refine g_goto C dX7_carryOn_140 rfl (tgt := 70) ?_
                refine g_mask [true, true, true, true, true, false] ?_
                obtain rfl := Option.some.inj h
                exact ih15 _ _ (iwr _) (lpL hk15)
        exact hL15 FU _ _ (by decide) hb15
      refine g_icmp_ge C dX7_carryOn_36 (iwr _) (by decide) rfl (tgt := 67) (fun c8 => ?_) (fun c8 => ?_)
      · have h := ifT c8 h
        exact hJ67_29 σ7 h
      · have h := ifF c8 h
        refine g_aload_n C dX7_carryOn_39 rfl ?_
        refine g_getR (j := 3) C dX7_carryOn_40 rfl (Nat.le_of_ble_eq_true rfl) (Nat.le_of_ble_eq_true rfl) fl_7_17 rfl rfl (r := 155) rfl ?_
        refine g_iload_n C dX7_carryOn_43 rfl ?_
        obtain ⟨k9, qk9, h⟩ := bnd h
        refine g_aalI C dX7_carryOn_44 rfl rfl qk9 ia1 ?_
        refine g_iload_n C dX7_carryOn_45 rfl ?_
        refine g_iconst C dX7_carryOn_46 ?_
        refine g_iadd C dX7_carryOn_47 ?_
        refine g_dup2 C dX7_carryOn_48 rfl rfl ?_
        obtain ⟨x10, qx10, h⟩ := bnd h
        refine g_iald C dX7_carryOn_49 (rrB_155 qk9).1 (rrB_155 qk9).2 qx10 (iwr _) (fun ix10 => ?_)
        refine g_iload_n C dX7_carryOn_50 rfl ?_
        refine g_aload_n C dX7_carryOn_51 rfl ?_
        refine g_getR (j := 2) C dX7_carryOn_52 rfl (Nat.le_of_ble_eq_true rfl) (Nat.le_of_ble_eq_true rfl) fl_7_24 rfl rfl (r := 95) rfl ?_
        refine g_getR (j := 0) C dX7_carryOn_55 rfl (Nat.le_of_ble_eq_true rfl) (Nat.le_of_ble_eq_true rfl) fl_7_34 rfl rfl (r := 96) rfl ?_
        refine g_iload_n C dX7_carryOn_58 rfl ?_
        obtain ⟨k11, qk11, h⟩ := bnd h
        refine g_aalI C dX7_carryOn_59 rfl rfl qk11 ia1 ?_
        refine g_iload_n C dX7_carryOn_60 rfl ?_
        refine g_iconst C dX7_carryOn_61 ?_
        refine g_iadd C dX7_carryOn_62 ?_
        obtain ⟨x12, qx12, h⟩ := bnd h
        refine g_iald C dX7_carryOn_63 (rrB_96 qk11).1 (rrB_96 qk11).2 qx12 (iwr _) (fun ix12 => ?_)
        refine g_iand C dX7_carryOn_64 ?_
        refine g_ior C dX7_carryOn_65 ?_
        obtain ⟨σ13, qσ13, h⟩ := bnd h
        refine g_iast C dX7_carryOn_66 (rrB_155 qk9).1 (rrB_155 qk9).2 qσ13 (iwr _) (ior _ _) ?_
        exact hJ67_29 σ13 h
    refine g_icmp_ne C dX7_carryOn_21 ix4 (by decide) rfl (tgt := 31) (fun c5 => ?_) (fun c5 => ?_)
    · have h := ifF c5 h
      exact hJ31_30 σ h
    · have h := ifT c5 h
      refine g_aload_n C dX7_carryOn_24 rfl ?_
      refine g_getR (j := 0) C dX7_carryOn_25 rfl (Nat.le_of_ble_eq_true rfl) (Nat.le_of_ble_eq_true rfl) fl_7_9 rfl rfl (r := 154) rfl ?_
      refine g_iload_n C dX7_carryOn_28 rfl ?_
      refine g_iload_n C dX7_carryOn_29 rfl ?_
      obtain ⟨σ6, qσ6, h⟩ := bnd h
      refine g_iast C dX7_carryOn_30 rfl rfl qσ6 ia1 ia2 ?_
      exact hJ31_30 σ6 h
  · have h := ifT c3 h
    exact g_vretP C dX7_carryOn_13 hr hlk h
theorem dX7_spread_0 : decode cX7_spread 0 = .ok (.iload 4, 2) := by decide +kernel
theorem dX7_spread_2 : decode cX7_spread 2 = .ok (.bipush 8, 2) := by decide +kernel
theorem dX7_spread_4 : decode cX7_spread 4 = .ok (.invokestatic 28, 3) := by decide +kernel
theorem dX7_spread_7 : decode cX7_spread 7 = .ok (.istore 5, 2) := by decide +kernel
theorem dX7_spread_9 : decode cX7_spread 9 = .ok (.iconst 0, 1) := by decide +kernel
theorem dX7_spread_10 : decode cX7_spread 10 = .ok (.istore 6, 2) := by decide +kernel
theorem dX7_spread_12 : decode cX7_spread 12 = .ok (.iload 6, 2) := by decide +kernel
theorem dX7_spread_14 : decode cX7_spread 14 = .ok (.bipush 8, 2) := by decide +kernel
theorem dX7_spread_16 : decode cX7_spread 16 = .ok (.if_icmp .ge 75, 3) := by decide +kernel
theorem dX7_spread_19 : decode cX7_spread 19 = .ok (.aload_n 0, 1) := by decide +kernel
theorem dX7_spread_20 : decode cX7_spread 20 = .ok (.getfield 9, 3) := by decide +kernel
theorem dX7_spread_23 : decode cX7_spread 23 = .ok (.iload 6, 2) := by decide +kernel
theorem dX7_spread_25 : decode cX7_spread 25 = .ok (.iconst (-1), 1) := by decide +kernel
theorem dX7_spread_26 : decode cX7_spread 26 = .ok (.iastore, 1) := by decide +kernel
theorem dX7_spread_27 : decode cX7_spread 27 = .ok (.iconst 0, 1) := by decide +kernel
theorem dX7_spread_28 : decode cX7_spread 28 = .ok (.istore 7, 2) := by decide +kernel
theorem dX7_spread_30 : decode cX7_spread 30 = .ok (.iload 7, 2) := by decide +kernel
theorem dX7_spread_32 : decode cX7_spread 32 = .ok (.bipush 96, 2) := by decide +kernel
theorem dX7_spread_34 : decode cX7_spread 34 = .ok (.if_icmp .ge 51, 3) := by decide +kernel
theorem dX7_spread_37 : decode cX7_spread 37 = .ok (.aload_n 0, 1) := by decide +kernel
theorem dX7_spread_38 : decode cX7_spread 38 = .ok (.getfield 17, 3) := by decide +kernel
theorem dX7_spread_41 : decode cX7_spread 41 = .ok (.iload 6, 2) := by decide +kernel
theorem dX7_spread_43 : decode cX7_spread 43 = .ok (.aaload, 1) := by decide +kernel
theorem dX7_spread_44 : decode cX7_spread 44 = .ok (.iload 7, 2) := by decide +kernel
theorem dX7_spread_46 : decode cX7_spread 46 = .ok (.iload_n 1, 1) := by decide +kernel
theorem dX7_spread_47 : decode cX7_spread 47 = .ok (.iload 6, 2) := by decide +kernel
theorem dX7_spread_49 : decode cX7_spread 49 = .ok (.ishr, 1) := by decide +kernel
theorem dX7_spread_50 : decode cX7_spread 50 = .ok (.iconst 1, 1) := by decide +kernel
theorem dX7_spread_51 : decode cX7_spread 51 = .ok (.iand, 1) := by decide +kernel
theorem dX7_spread_52 : decode cX7_spread 52 = .ok (.ifCond .eq 25, 3) := by decide +kernel
theorem dX7_spread_55 : decode cX7_spread 55 = .ok (.iload 7, 2) := by decide +kernel
theorem dX7_spread_57 : decode cX7_spread 57 = .ok (.iload_n 2, 1) := by decide +kernel
theorem dX7_spread_58 : decode cX7_spread 58 = .ok (.if_icmp .lt 19, 3) := by decide +kernel
theorem dX7_spread_61 : decode cX7_spread 61 = .ok (.aload_n 0, 1) := by decide +kernel
theorem dX7_spread_62 : decode cX7_spread 62 = .ok (.getfield 24, 3) := by decide +kernel
theorem dX7_spread_65 : decode cX7_spread 65 = .ok (.getfield 34, 3) := by decide +kernel
theorem dX7_spread_68 : decode cX7_spread 68 = .ok (.iload 6, 2) := by decide +kernel
theorem dX7_spread_70 : decode cX7_spread 70 = .ok (.aaload, 1) := by decide +kernel
theorem dX7_spread_71 : decode cX7_spread 71 = .ok (.iload 7, 2) := by decide +kernel
theorem dX7_spread_73 : decode cX7_spread 73 = .ok (.iaload, 1) := by decide +kernel
theorem dX7_spread_74 : decode cX7_spread 74 = .ok (.goto 4, 3) := by decide +kernel
theorem dX7_spread_77 : decode cX7_spread 77 = .ok (.iconst 0, 1) := by decide +kernel
theorem dX7_spread_78 : decode cX7_spread 78 = .ok (.iastore, 1) := by decide +kernel
theorem dX7_spread_79 : decode cX7_spread 79 = .ok (.iinc 7 1, 3) := by decide +kernel
theorem dX7_spread_82 : decode cX7_spread 82 = .ok (.goto (-52), 3) := by decide +kernel
theorem dX7_spread_85 : decode cX7_spread 85 = .ok (.iinc 6 1, 3) := by decide +kernel
theorem dX7_spread_88 : decode cX7_spread 88 = .ok (.goto (-76), 3) := by decide +kernel
theorem dX7_spread_91 : decode cX7_spread 91 = .ok (.iconst 0, 1) := by decide +kernel
theorem dX7_spread_92 : decode cX7_spread 92 = .ok (.istore 6, 2) := by decide +kernel
theorem dX7_spread_94 : decode cX7_spread 94 = .ok (.iload_n 2, 1) := by decide +kernel
theorem dX7_spread_95 : decode cX7_spread 95 = .ok (.iconst 0, 1) := by decide +kernel
theorem dX7_spread_96 : decode cX7_spread 96 = .ok (.invokestatic 39, 3) := by decide +kernel
theorem dX7_spread_99 : decode cX7_spread 99 = .ok (.istore 7, 2) := by decide +kernel
theorem dX7_spread_101 : decode cX7_spread 101 = .ok (.iload 7, 2) := by decide +kernel
theorem dX7_spread_103 : decode cX7_spread 103 = .ok (.bipush 96, 2) := by decide +kernel
theorem dX7_spread_105 : decode cX7_spread 105 = .ok (.if_icmp .ge 109, 3) := by decide +kernel
theorem dX7_spread_108 : decode cX7_spread 108 = .ok (.iload_n 3, 1) := by decide +kernel
theorem dX7_spread_109 : decode cX7_spread 109 = .ok (.ifCond .eq 8, 3) := by decide +kernel
theorem dX7_spread_112 : decode cX7_spread 112 = .ok (.iload 6, 2) := by decide +kernel
theorem dX7_spread_114 : decode cX7_spread 114 = .ok (.goto 4, 3) := by decide +kernel
theorem dX7_spread_117 : decode cX7_spread 117 = .ok (.iconst 0, 1) := by decide +kernel
theorem dX7_spread_118 : decode cX7_spread 118 = .ok (.istore 8, 2) := by decide +kernel
theorem dX7_spread_120 : decode cX7_spread 120 = .ok (.iconst 0, 1) := by decide +kernel
theorem dX7_spread_121 : decode cX7_spread 121 = .ok (.istore 9, 2) := by decide +kernel
theorem dX7_spread_123 : decode cX7_spread 123 = .ok (.iload 9, 2) := by decide +kernel
theorem dX7_spread_125 : decode cX7_spread 125 = .ok (.iload 5, 2) := by decide +kernel
theorem dX7_spread_127 : decode cX7_spread 127 = .ok (.if_icmp .ge 24, 3) := by decide +kernel
theorem dX7_spread_130 : decode cX7_spread 130 = .ok (.iload 8, 2) := by decide +kernel
theorem dX7_spread_132 : decode cX7_spread 132 = .ok (.aload_n 0, 1) := by decide +kernel
theorem dX7_spread_133 : decode cX7_spread 133 = .ok (.getfield 17, 3) := by decide +kernel
theorem dX7_spread_136 : decode cX7_spread 136 = .ok (.iload 9, 2) := by decide +kernel
theorem dX7_spread_138 : decode cX7_spread 138 = .ok (.aaload, 1) := by decide +kernel
theorem dX7_spread_139 : decode cX7_spread 139 = .ok (.iload 7, 2) := by decide +kernel
theorem dX7_spread_141 : decode cX7_spread 141 = .ok (.iaload, 1) := by decide +kernel
theorem dX7_spread_142 : decode cX7_spread 142 = .ok (.ior, 1) := by decide +kernel
theorem dX7_spread_143 : decode cX7_spread 143 = .ok (.istore 8, 2) := by decide +kernel
theorem dX7_spread_145 : decode cX7_spread 145 = .ok (.iinc 9 1, 3) := by decide +kernel
theorem dX7_spread_148 : decode cX7_spread 148 = .ok (.goto (-25), 3) := by decide +kernel
theorem dX7_spread_151 : decode cX7_spread 151 = .ok (.iload 8, 2) := by decide +kernel
theorem dX7_spread_153 : decode cX7_spread 153 = .ok (.istore 6, 2) := by decide +kernel
theorem dX7_spread_155 : decode cX7_spread 155 = .ok (.iconst 0, 1) := by decide +kernel
theorem dX7_spread_156 : decode cX7_spread 156 = .ok (.istore 9, 2) := by decide +kernel
theorem dX7_spread_158 : decode cX7_spread 158 = .ok (.iload 9, 2) := by decide +kernel
theorem dX7_spread_160 : decode cX7_spread 160 = .ok (.iload 5, 2) := by decide +kernel
theorem dX7_spread_162 : decode cX7_spread 162 = .ok (.if_icmp .ge 46, 3) := by decide +kernel
theorem dX7_spread_165 : decode cX7_spread 165 = .ok (.aload_n 0, 1) := by decide +kernel
theorem dX7_spread_166 : decode cX7_spread 166 = .ok (.getfield 17, 3) := by decide +kernel
theorem dX7_spread_169 : decode cX7_spread 169 = .ok (.iload 9, 2) := by decide +kernel
theorem dX7_spread_171 : decode cX7_spread 171 = .ok (.aaload, 1) := by decide +kernel
theorem dX7_spread_172 : decode cX7_spread 172 = .ok (.iload 7, 2) := by decide +kernel
theorem dX7_spread_174 : decode cX7_spread 174 = .ok (.dup2, 1) := by decide +kernel
theorem dX7_spread_175 : decode cX7_spread 175 = .ok (.iaload, 1) := by decide +kernel
theorem dX7_spread_176 : decode cX7_spread 176 = .ok (.iload 8, 2) := by decide +kernel
theorem dX7_spread_178 : decode cX7_spread 178 = .ok (.aload_n 0, 1) := by decide +kernel
theorem dX7_spread_179 : decode cX7_spread 179 = .ok (.getfield 24, 3) := by decide +kernel
theorem dX7_spread_182 : decode cX7_spread 182 = .ok (.getfield 34, 3) := by decide +kernel
theorem dX7_spread_185 : decode cX7_spread 185 = .ok (.iload 9, 2) := by decide +kernel
theorem dX7_spread_187 : decode cX7_spread 187 = .ok (.aaload, 1) := by decide +kernel
theorem dX7_spread_188 : decode cX7_spread 188 = .ok (.iload 7, 2) := by decide +kernel
theorem dX7_spread_190 : decode cX7_spread 190 = .ok (.iaload, 1) := by decide +kernel
theorem dX7_spread_191 : decode cX7_spread 191 = .ok (.iand, 1) := by decide +kernel
theorem dX7_spread_192 : decode cX7_spread 192 = .ok (.ior, 1) := by decide +kernel
theorem dX7_spread_193 : decode cX7_spread 193 = .ok (.iastore, 1) := by decide +kernel
theorem dX7_spread_194 : decode cX7_spread 194 = .ok (.aload_n 0, 1) := by decide +kernel
theorem dX7_spread_195 : decode cX7_spread 195 = .ok (.iload 9, 2) := by decide +kernel
theorem dX7_spread_197 : decode cX7_spread 197 = .ok (.iload 7, 2) := by decide +kernel
theorem dX7_spread_199 : decode cX7_spread 199 = .ok (.invokevirtual 42, 3) := by decide +kernel
theorem dX7_spread_202 : decode cX7_spread 202 = .ok (.iinc 9 1, 3) := by decide +kernel
theorem dX7_spread_205 : decode cX7_spread 205 = .ok (.goto (-47), 3) := by decide +kernel
theorem dX7_spread_208 : decode cX7_spread 208 = .ok (.iinc 7 1, 3) := by decide +kernel
theorem dX7_spread_211 : decode cX7_spread 211 = .ok (.goto (-110), 3) := by decide +kernel
theorem dX7_spread_214 : decode cX7_spread 214 = .ok (.return_, 1) := by decide +kernel
abbrev rm_X7_spread : Room := { frames := 2, cells := 0, slots := 0, locals := 49 }
set_option maxRecDepth 100000 in
set_option maxHeartbeats 4000000 in
theorem ct_X7_spread {w : Wd} {l : Launch} {a1 : Int} {a2 : Int} {a3 : Int} {a4 : Int} {σ : St} {σ' : St} (ia1 : InI a1) (ia2 : InI a2) (ia3 : InZ a3) (ia4 : InI a4) (h : m_X7_spread a1 a2 a3 a4 σ = some σ') : Ct w l yX7_spread (Cond.code yX7_spread cX7_spread 10 none :: TB) rm_X7_spread [rv w 153, iv a1, iv a2, iv a3, iv a4] σ none True σ' := by
  refine Ct.of2 [some (rv w 153), some (iv a1), some (iv a2), some (iv a3), some (iv a4), none, none, none, none, none] 5 rfl pn_RX7 (Nat.le_of_ble_eq_true rfl) ?_
  intro p e s m args below meth c C hr hlk
  unfold m_X7_spread at h
  refine g_iload C dX7_spread_0 rfl ?_
  refine g_bipush C dX7_spread_2 rfl ?_
  refine g_mmin C dX7_spread_4 ia4 (by decide) ml_7_28 ⟨Nat.le_of_ble_eq_true rfl, Nat.le_of_ble_eq_true rfl⟩ ⟨Nat.zero_le _, Nat.zero_le _⟩ ?_
  obtain ⟨x1, qx1, h⟩ := bnd h
  have qx1 := Option.some.inj qx1
  have ix1 : InI x1 := by rw [← qx1]; exact (imin ia4 (by decide))
  refine g_E qx1 ?_
  refine g_istore (L1 := [some (rv w 153), some (iv a1), some (iv a2), some (iv a3), some (iv a4), some (iv x1), none, none, none, none]) C dX7_spread_7 rfl (Nat.le_of_ble_eq_true rfl) rfl ?_
  refine g_iconst C dX7_spread_9 ?_
  refine g_istore (L1 := [some (rv w 153), some (iv a1), some (iv a2), some (iv a3), some (iv a4), some (iv x1), some (iv 0), none, none, none]) C dX7_spread_10 rfl (Nat.le_of_ble_eq_true rfl) rfl ?_
  refine g_mask [true, true, true, true, false, true, true, true, true, true] ?_
  obtain ⟨b2, hb2, hF2⟩ := bnd h
  have hX2 : ∀ (σ20 : St) , σ20 = b2 → GM w p l e rm_X7_spread s m args below meth c none True σ' 10 91 [some (rv w 153), none, some (iv a2), some (iv a3), none, some (iv x1), none, none, none, none] [] σ20 := by
    intro σ20 q
    subst q
    have h := hF2
    refine g_iconst C dX7_spread_91 ?_
    refine g_istore (L1 := [some (rv w 153), none, some (iv a2), some (iv a3), none, some (iv x1), some (iv 0), none, none, none]) C dX7_spread_92 rfl (Nat.le_of_ble_eq_true rfl) rfl ?_
    refine g_iload_n C dX7_spread_94 rfl ?_
    refine g_iconst C dX7_spread_95 ?_
    refine g_mmax C dX7_spread_96 ia2 (by decide) ml_7_39 ⟨Nat.le_of_ble_eq_true rfl, Nat.le_of_ble_eq_true rfl⟩ ⟨Nat.zero_le _, Nat.zero_le _⟩ ?_
    obtain ⟨x21, qx21, h⟩ := bnd h
    have qx21 := Option.some.inj qx21
    have ix21 : InI x21 := by rw [← qx21]; exact (imax ia2 (by decide))
    refine g_E qx21 ?_
    refine g_istore (L1 := [some (rv w 153), none, some (iv a2), some (iv a3), none, some (iv x1), some (iv 0), some (iv x21), none, none]) C dX7_spread_99 rfl (Nat.le_of_ble_eq_true rfl) rfl ?_
    refine g_mask [true, true, false, true, true, true, true, true, true, true] ?_
    obtain ⟨b22, hb22, hF22⟩ := bnd h
    have hX22 : ∀ (σ49 : St) , σ49 = b22 → GM w p l e rm_X7_spread s m args below meth c none True σ' 10 214 [none, none, none, none, none, none, none, none, none, none] [] σ49 := by
      intro σ49 q
      subst q
      have h := hF22
      exact g_vretP C dX7_spread_214 hr hlk h
    have hL22 : ∀ (n : Nat) (x23 : Int) (x24 : Int) (σ25 : St) , InI x23 → InI x24 → lpN (fun a => m_X7_spread_L101 a3 x1 a.1 a.2.1 a.2.2) n (x23, x24, σ25) = some b22 → GM w p l e rm_X7_spread s m args below meth c none True σ' 10 101 [some (rv w 153), none, none, some (iv a3), none, some (iv x1), some (iv x23), some (iv x24), none, none] [] σ25 := by
      intro n
      induction n with
      | zero => intro x23 x24 σ25 ix23 ix24 q; cases q
      | succ n ih22 =>
        intro x23 x24 σ25 ix23 ix24 q
        obtain ⟨o22, h, hk22⟩ := lp_step q
        replace h : m_X7_spread_L101 a3 x1 x23 x24 σ25 = some o22 := h
        unfold m_X7_spread_L101 at h
        refine g_iload C dX7_spread_101 rfl ?_
        refine g_bipush C dX7_spread_103 rfl ?_
        refine g_icmp_ge C dX7_spread_105 ix24 (by decide) rfl (tgt := 214) (fun c26 => ?_) (fun c26 => ?_)
        · have h := ifT c26 h
          refine g_mask [false, true, true, false, true, false, false, false, true, true] ?_
          obtain rfl := Option.some.inj h
          exact hX22 σ25 (lpR hk22).symm
        · have h := ifF c26 h
          refine g_iload_n C dX7_spread_108 rfl ?_
          have hJ118_48 : ∀ (x28 : Int) , InI x28 → m_X7_spread_J118 x1 σ25 x24 x28 = some o22 → GM w p l e rm_X7_spread s m args below meth c none True σ' 10 118 [some (rv w 153), none, none, some (iv a3), none, some (iv x1), none, some (iv x24), none, none] [iv x28] σ25 := by
            intro x28 ix28 h
            unfold m_X7_spread_J118 at h
            refine g_istore (L1 := [some (rv w 153), none, none, some (iv a3), none, some (iv x1), none, some (iv x24), some (iv x28), none]) C dX7_spread_118 rfl (Nat.le_of_ble_eq_true rfl) rfl ?_
            refine g_iconst C dX7_spread_120 ?_
            refine g_istore (L1 := [some (rv w 153), none, none, some (iv a3), none, some (iv x1), none, some (iv x24), some (iv x28), some (iv 0)]) C dX7_spread_121 rfl (Nat.le_of_ble_eq_true rfl) rfl ?_
            obtain ⟨b29, hb29, hF29⟩ := bnd h
            have hX29 : ∀ (x36 : Int) , InI x36 → x36 = b29 → GM w p l e rm_X7_spread s m args below meth c none True σ' 10 151 [some (rv w 153), none, none, some (iv a3), none, some (iv x1), none, some (iv x24), some (iv x36), none] [] σ25 := by
              intro x36 ix36 q
              subst q
              have h := hF29
              refine g_iload C dX7_spread_151 rfl ?_
              refine g_istore (L1 := [some (rv w 153), none, none, some (iv a3), none, some (iv x1), some (iv x36), some (iv x24), some (iv x36), none]) C dX7_spread_153 rfl (Nat.le_of_ble_eq_true rfl) rfl ?_
              refine g_iconst C dX7_spread_155 ?_
              refine g_istore (L1 := [some (rv w 153), none, none, some (iv a3), none, some (iv x1), some (iv x36), some (iv x24), some (iv x36), some (iv 0)]) C dX7_spread_156 rfl (Nat.le_of_ble_eq_true rfl) rfl ?_
              obtain ⟨b37, hb37, hF37⟩ := bnd h
              have hX37 : ∀ (σ47 : St) , σ47 = b37 → GM w p l e rm_X7_spread s m args below meth c none True σ' 10 208 [some (rv w 153), none, none, some (iv a3), none, some (iv x1), some (iv x36), some (iv x24), none, none] [] σ47 := by
                intro σ47 q
                subst q
                have h := hF37
                refine g_iinc (L1 := [some (rv w 153), none, none, some (iv a3), none, some (iv x1), some (iv x36), some (iv (wr (x24 + 1))), none, none]) C dX7_spread_208 rfl rfl (Nat.le_of_ble_eq_true rfl) rfl ?_
                refine g_goto C dX7_spread_211 rfl (tgt := 101) ?_
                obtain rfl := Option.some.inj h
                exact ih22 _ _ _ ix36 (iwr _) (lpL hk22)
              have hL37 : ∀ (n : Nat) (x38 : Int) (σ39 : St) , InI x38 → lpN (fun a => m_X7_spread_L158 x1 x24 x36 a.1 a.2) n (x38, σ39) = some b37 → GM w p l e rm_X7_spread s m args below meth c none True σ' 10 158 [some (rv w 153), none, none, some (iv a3), none, some (iv x1), some (iv x36), some (iv x24), some (iv x36), some (iv x38)] [] σ39 := by
                intro n
                induction n with
                | zero => intro x38 σ39 ix38 q; cases q
                | succ n ih37 =>
                  intro x38 σ39 ix38 q
                  obtain ⟨o37, h, hk37⟩ := lp_step q
                  replace h : m_X7_spread_L158 x1 x24 x36 x38 σ39 = some o37 := h
                  unfold m_X7_spread_L158 at h
                  refine g_iload C dX7_spread_158 rfl ?_
                  refine g_iload C dX7_spread_160 rfl ?_
                  refine g_icmp_ge C dX7_spread_162 ix38 ix1 rfl (tgt := 208) (fun c40 => ?_) (fun c40 => ?_)
                  · have h := ifT c40 h
                    refine g_mask [true, true, true, true, true, true, true, true, false, false] ?_
                    obtain rfl := Option.some.inj h
                    exact hX37 σ39 (lpR hk37).symm
                  · have h := ifF c40 h
                    refine g_aload_n C dX7_spread_165 rfl ?_
                    refine g_getR (j := 3) C dX7_spread_166 rfl (Nat.le_of_ble_eq_true rfl) (Nat.le_of_ble_eq_true rfl) fl_7_17 rfl rfl (r := 155) rfl ?_
                    refine g_iload C dX7_spread_169 rfl ?_
                    obtain ⟨k41, qk41, h⟩ := bnd h
                    refine g_aalI C dX7_spread_171 rfl rfl qk41 ix38 ?_
                    refine g_iload C dX7_spread_172 rfl ?_
                    refine g_dup2 C dX7_spread_174 rfl rfl ?_
                    obtain ⟨x42, qx42, h⟩ := bnd h
                    refine g_iald C dX7_spread_175 (rrB_155 qk41).1 (rrB_155 qk41).2 qx42 ix24 (fun ix42 => ?_)
                    refine g_iload C dX7_spread_176 rfl ?_
                    refine g_aload_n C dX7_spread_178 rfl ?_
                    refine g_getR (j := 2) C dX7_spread_179 rfl (Nat.le_of_ble_eq_true rfl) (Nat.le_of_ble_eq_true rfl) fl_7_24 rfl rfl (r := 95) rfl ?_
                    refine g_getR (j := 0) C dX7_spread_182 rfl (Nat.le_of_ble_eq_true rfl) (Nat.le_of_ble_eq_true rfl) fl_7_34 rfl rfl (r := 96) rfl ?_
                    refine g_iload C dX7_spread_185 rfl ?_
                    obtain ⟨k43, qk43, h⟩ := bnd h
                    refine g_aalI C dX7_spread_187 rfl rfl qk43 ix38 ?_
                    refine g_iload C dX7_spread_188 rfl ?_
                    obtain ⟨x44, qx44, h⟩ := bnd h
                    refine g_iald C dX7_spread_190 (rrB_96 qk43).1 (rrB_96 qk43).2 qx44 ix24 (fun ix44 => ?_)
                    refine g_iand C dX7_spread_191 ?_
                    refine g_ior C dX7_spread_192 ?_
                    obtain ⟨σ45, qσ45, h⟩ := bnd h
                    refine g_iast C dX7_spread_193 (rrB_155 qk41).1 (rrB_155 qk41).2 qσ45 ix24 (ior _ _) ?_
                    refine g_aload_n C dX7_spread_194 rfl ?_
                    refine g_iload C dX7_spread_195 rfl ?_
                    refine g_iload C dX7_spread_197 rfl ?_
                    obtain ⟨σ46, qσ46, h⟩ := bnd h
                    refine g_callV0 (As := [iv x38, iv x24]) C dX7_spread_199 mi_X7_carryOn ml_7_42 (ct_X7_carryOn ix38 ix24 qσ46) rfl rfl ⟨rfl, rfl⟩ ⟨Nat.le_of_ble_eq_true rfl, Nat.le_of_ble_eq_true rfl⟩ ⟨Nat.zero_le _, Nat.zero_le _⟩ rfl (Nat.le_of_ble_eq_true rfl) (fun _ => ?_)
                    refine g_iinc (L1 := [some (rv w 153), none, none, some (iv a3), none, some (iv x1), some (iv x36), some (iv x24), some (iv x36), some (iv (wr (x38 + 1)))]) C dX7_spread_202 rfl rfl (Nat.le_of_ble_eq_true rfl) rfl ?_
                    refine g_goto C dX7_spread_205 rfl (tgt := 158) ?_
                    obtain rfl := Option.some.inj h
                    exact ih37 _ _ (iwr _) (lpL hk37)
              exact hL37 FU _ _ (by decide) hb37
            have hL29 : ∀ (n : Nat) (x30 : Int) (x31 : Int) , InI x30 → InI x31 → lpN (fun a => m_X7_spread_L123 x1 σ25 x24 a.1 a.2) n (x30, x31) = some b29 → GM w p l e rm_X7_spread s m args below meth c none True σ' 10 123 [some (rv w 153), none, none, some (iv a3), none, some (iv x1), none, some (iv x24), some (iv x30), some (iv x31)] [] σ25 := by
              intro n
              induction n with
              | zero => intro x30 x31 ix30 ix31 q; cases q
              | succ n ih29 =>
                intro x30 x31 ix30 ix31 q
                obtain ⟨o29, h, hk29⟩ := lp_step q
                replace h : m_X7_spread_L123 x1 σ25 x24 x30 x31 = some o29 := h
                unfold m_X7_spread_L123 at h
                refine g_iload C dX7_spread_123 rfl ?_
                refine g_iload C dX7_spread_125 rfl ?_
                refine g_icmp_ge C dX7_spread_127 ix31 ix1 rfl (tgt := 151) (fun c32 => ?_) (fun c32 => ?_)
                · have h := ifT c32 h
                  refine g_mask [true, true, true, true, true, true, true, true, true, false] ?_
                  obtain rfl := Option.some.inj h
                  exact hX29 x30 ix30 (lpR hk29).symm
                · have h := ifF c32 h
                  refine g_iload C dX7_spread_130 rfl ?_
                  refine g_aload_n C dX7_spread_132 rfl ?_
                  refine g_getR (j := 3) C dX7_spread_133 rfl (Nat.le_of_ble_eq_true rfl) (Nat.le_of_ble_eq_true rfl) fl_7_17 rfl rfl (r := 155) rfl ?_
                  refine g_iload C dX7_spread_136 rfl ?_
                  obtain ⟨k33, qk33, h⟩ := bnd h
                  refine g_aalI C dX7_spread_138 rfl rfl qk33 ix31 ?_
                  refine g_iload C dX7_spread_139 rfl ?_
                  obtain ⟨x34, qx34, h⟩ := bnd h
                  refine g_iald C dX7_spread_141 (rrB_155 qk33).1 (rrB_155 qk33).2 qx34 ix24 (fun ix34 => ?_)
                  refine g_ior C dX7_spread_142 ?_
                  obtain ⟨x35, qx35, h⟩ := bnd h
                  have qx35 := Option.some.inj qx35
                  have ix35 : InI x35 := by rw [← qx35]; exact (ior _ _)
                  refine g_E qx35 ?_
                  refine g_istore (L1 := [some (rv w 153), none, none, some (iv a3), none, some (iv x1), none, some (iv x24), some (iv x35), some (iv x31)]) C dX7_spread_143 rfl (Nat.le_of_ble_eq_true rfl) rfl ?_
                  refine g_iinc (L1 := [some (rv w 153), none, none, some (iv a3), none, some (iv x1), none, some (iv x24), some (iv x35), some (iv (wr (x31 + 1)))]) C dX7_spread_145 rfl rfl (Nat.le_of_ble_eq_true rfl) rfl ?_
                  refine g_goto C dX7_spread_148 rfl (tgt := 123) ?_
                  obtain rfl := Option.some.inj h
                  exact ih29 _ _ ix35 (iwr _) (lpL hk29)
            exact hL29 FU _ _ ix28 (by decide) hb29
          refine g_if_eq C dX7_spread_109 (zI ia3) rfl (tgt := 117) (fun c27 => ?_) (fun c27 => ?_)
          · have h := ifT c27 h
            refine g_iconst C dX7_spread_117 ?_
            refine g_mask [true, true, true, true, true, true, false, true, true, true] ?_
            exact hJ118_48 0 (by decide) h
          · have h := ifF c27 h
            refine g_iload C dX7_spread_112 rfl ?_
            refine g_goto C dX7_spread_114 rfl (tgt := 118) ?_
            refine g_mask [true, true, true, true, true, true, false, true, true, true] ?_
            exact hJ118_48 x23 ix23 h
    exact hL22 FU _ _ _ (by decide) ix21 hb22
  have hL2 : ∀ (n : Nat) (x3 : Int) (σ4 : St) , InI x3 → lpN (fun a => m_X7_spread_L12 a1 a2 a.1 a.2) n (x3, σ4) = some b2 → GM w p l e rm_X7_spread s m args below meth c none True σ' 10 12 [some (rv w 153), some (iv a1), some (iv a2), some (iv a3), none, some (iv x1), some (iv x3), none, none, none] [] σ4 := by
    intro n
    induction n with
    | zero => intro x3 σ4 ix3 q; cases q
    | succ n ih2 =>
      intro x3 σ4 ix3 q
      obtain ⟨o2, h, hk2⟩ := lp_step q
      replace h : m_X7_spread_L12 a1 a2 x3 σ4 = some o2 := h
      unfold m_X7_spread_L12 at h
      refine g_iload C dX7_spread_12 rfl ?_
      refine g_bipush C dX7_spread_14 rfl ?_
      refine g_icmp_ge C dX7_spread_16 ix3 (by decide) rfl (tgt := 91) (fun c5 => ?_) (fun c5 => ?_)
      · have h := ifT c5 h
        refine g_mask [true, false, true, true, true, true, false, true, true, true] ?_
        obtain rfl := Option.some.inj h
        exact hX2 σ4 (lpR hk2).symm
      · have h := ifF c5 h
        refine g_aload_n C dX7_spread_19 rfl ?_
        refine g_getR (j := 0) C dX7_spread_20 rfl (Nat.le_of_ble_eq_true rfl) (Nat.le_of_ble_eq_true rfl) fl_7_9 rfl rfl (r := 154) rfl ?_
        refine g_iload C dX7_spread_23 rfl ?_
        refine g_iconst C dX7_spread_25 ?_
        obtain ⟨σ6, qσ6, h⟩ := bnd h
        refine g_iast C dX7_spread_26 rfl rfl qσ6 ix3 (by decide) ?_
        refine g_iconst C dX7_spread_27 ?_
        refine g_istore (L1 := [some (rv w 153), some (iv a1), some (iv a2), some (iv a3), none, some (iv x1), some (iv x3), some (iv 0), none, none]) C dX7_spread_28 rfl (Nat.le_of_ble_eq_true rfl) rfl ?_
        obtain ⟨b7, hb7, hF7⟩ := bnd h
        have hX7 : ∀ (σ19 : St) , σ19 = b7 → GM w p l e rm_X7_spread s m args below meth c none True σ' 10 85 [some (rv w 153), some (iv a1), some (iv a2), some (iv a3), none, some (iv x1), some (iv x3), none, none, none] [] σ19 := by
          intro σ19 q
          subst q
          have h := hF7
          refine g_iinc (L1 := [some (rv w 153), some (iv a1), some (iv a2), some (iv a3), none, some (iv x1), some (iv (wr (x3 + 1))), none, none, none]) C dX7_spread_85 rfl rfl (Nat.le_of_ble_eq_true rfl) rfl ?_
          refine g_goto C dX7_spread_88 rfl (tgt := 12) ?_
          obtain rfl := Option.some.inj h
          exact ih2 _ _ (iwr _) (lpL hk2)
        have hL7 : ∀ (n : Nat) (x8 : Int) (σ9 : St) , InI x8 → lpN (fun a => m_X7_spread_L30 x3 a1 a2 a.1 a.2) n (x8, σ9) = some b7 → GM w p l e rm_X7_spread s m args below meth c none True σ' 10 30 [some (rv w 153), some (iv a1), some (iv a2), some (iv a3), none, some (iv x1), some (iv x3), some (iv x8), none, none] [] σ9 := by
          intro n
          induction n with
          | zero => intro x8 σ9 ix8 q; cases q
          | succ n ih7 =>
            intro x8 σ9 ix8 q
            obtain ⟨o7, h, hk7⟩ := lp_step q
            replace h : m_X7_spread_L30 x3 a1 a2 x8 σ9 = some o7 := h
            unfold m_X7_spread_L30 at h
            refine g_iload C dX7_spread_30 rfl ?_
            refine g_bipush C dX7_spread_32 rfl ?_
            refine g_icmp_ge C dX7_spread_34 ix8 (by decide) rfl (tgt := 85) (fun c10 => ?_) (fun c10 => ?_)
            · have h := ifT c10 h
              refine g_mask [true, true, true, true, true, true, true, false, true, true] ?_
              obtain rfl := Option.some.inj h
              exact hX7 σ9 (lpR hk7).symm
            · have h := ifF c10 h
              refine g_aload_n C dX7_spread_37 rfl ?_
              refine g_getR (j := 3) C dX7_spread_38 rfl (Nat.le_of_ble_eq_true rfl) (Nat.le_of_ble_eq_true rfl) fl_7_17 rfl rfl (r := 155) rfl ?_
              refine g_iload C dX7_spread_41 rfl ?_
              obtain ⟨k11, qk11, h⟩ := bnd h
              refine g_aalI C dX7_spread_43 rfl rfl qk11 ix3 ?_
              refine g_iload C dX7_spread_44 rfl ?_
              refine g_iload_n C dX7_spread_46 rfl ?_
              refine g_iload C dX7_spread_47 rfl ?_
              refine g_ishr C dX7_spread_49 ?_
              refine g_iconst C dX7_spread_50 ?_
              refine g_iand C dX7_spread_51 ?_
              refine g_if_eq C dX7_spread_52 (iand _ _) rfl (tgt := 77) (fun c12 => ?_) (fun c12 => ?_)
              · have h := ifT c12 h
                refine g_iconst C dX7_spread_77 ?_
                obtain ⟨σ13, qσ13, h⟩ := bnd h
                refine g_iast C dX7_spread_78 (rrB_155 qk11).1 (rrB_155 qk11).2 qσ13 ix8 (by decide) ?_
                refine g_iinc (L1 := [some (rv w 153), some (iv a1), some (iv a2), some (iv a3), none, some (iv x1), some (iv x3), some (iv (wr (x8 + 1))), none, none]) C dX7_spread_79 rfl rfl (Nat.le_of_ble_eq_true rfl) rfl ?_
                refine g_goto C dX7_spread_82 rfl (tgt := 30) ?_
                obtain rfl := Option.some.inj h
                exact ih7 _ _ (iwr _) (lpL hk7)
              · have h := ifF c12 h
                refine g_iload C dX7_spread_55 rfl ?_
                refine g_iload_n C dX7_spread_57 rfl ?_
                refine g_icmp_lt C dX7_spread_58 ix8 ia2 rfl (tgt := 77) (fun c14 => ?_) (fun c14 => ?_)
                · have h := ifT c14 h
                  refine g_iconst C dX7_spread_77 ?_
                  obtain ⟨σ15, qσ15, h⟩ := bnd h
                  refine g_iast C dX7_spread_78 (rrB_155 qk11).1 (rrB_155 qk11).2 qσ15 ix8 (by decide) ?_
                  refine g_iinc (L1 := [some (rv w 153), some (iv a1), some (iv a2), some (iv a3), none, some (iv x1), some (iv x3), some (iv (wr (x8 + 1))), none, none]) C dX7_spread_79 rfl rfl (Nat.le_of_ble_eq_true rfl) rfl ?_
                  refine g_goto C dX7_spread_82 rfl (tgt := 30) ?_
                  obtain rfl := Option.some.inj h
                  exact ih7 _ _ (iwr _) (lpL hk7)
                · have h := ifF c14 h
                  refine g_aload_n C dX7_spread_61 rfl ?_
                  refine g_getR (j := 2) C dX7_spread_62 rfl (Nat.le_of_ble_eq_true rfl) (Nat.le_of_ble_eq_true rfl) fl_7_24 rfl rfl (r := 95) rfl ?_
                  refine g_getR (j := 0) C dX7_spread_65 rfl (Nat.le_of_ble_eq_true rfl) (Nat.le_of_ble_eq_true rfl) fl_7_34 rfl rfl (r := 96) rfl ?_
                  refine g_iload C dX7_spread_68 rfl ?_
                  obtain ⟨k16, qk16, h⟩ := bnd h
                  refine g_aalI C dX7_spread_70 rfl rfl qk16 ix3 ?_
                  refine g_iload C dX7_spread_71 rfl ?_
                  obtain ⟨x17, qx17, h⟩ := bnd h
                  refine g_iald C dX7_spread_73 (rrB_96 qk16).1 (rrB_96 qk16).2 qx17 ix8 (fun ix17 => ?_)
                  refine g_goto C dX7_spread_74 rfl (tgt := 78) ?_
                  obtain ⟨σ18, qσ18, h⟩ := bnd h
                  refine g_iast C dX7_spread_78 (rrB_155 qk11).1 (rrB_155 qk11).2 qσ18 ix8 ix17 ?_
                  refine g_iinc (L1 := [some (rv w 153), some (iv a1), some (iv a2), some (iv a3), none, some (iv x1), some (iv x3), some (iv (wr (x8 + 1))), none, none]) C dX7_spread_79 rfl rfl (Nat.le_of_ble_eq_true rfl) rfl ?_
                  refine g_goto C dX7_spread_82 rfl (tgt := 30) ?_
                  obtain rfl := Option.some.inj h
                  exact ih7 _ _ (iwr _) (lpL hk7)
        exact hL7 FU _ _ (by decide) hb7
  exact hL2 FU _ _ (by decide) hb2
theorem dX7_knowersBy_0 : decode cX7_knowersBy 0 = .ok (.iconst 0, 1) := by decide +kernel
theorem dX7_knowersBy_1 : decode cX7_knowersBy 1 = .ok (.istore_n 2, 1) := by decide +kernel
theorem dX7_knowersBy_2 : decode cX7_knowersBy 2 = .ok (.iconst 0, 1) := by decide +kernel
theorem dX7_knowersBy_3 : decode cX7_knowersBy 3 = .ok (.istore_n 3, 1) := by decide +kernel
theorem dX7_knowersBy_4 : decode cX7_knowersBy 4 = .ok (.iload_n 3, 1) := by decide +kernel
theorem dX7_knowersBy_5 : decode cX7_knowersBy 5 = .ok (.bipush 8, 2) := by decide +kernel
theorem dX7_knowersBy_7 : decode cX7_knowersBy 7 = .ok (.if_icmp .ge 35, 3) := by decide +kernel
theorem dX7_knowersBy_10 : decode cX7_knowersBy 10 = .ok (.aload_n 0, 1) := by decide +kernel
theorem dX7_knowersBy_11 : decode cX7_knowersBy 11 = .ok (.getfield 9, 3) := by decide +kernel
theorem dX7_knowersBy_14 : decode cX7_knowersBy 14 = .ok (.iload_n 3, 1) := by decide +kernel
theorem dX7_knowersBy_15 : decode cX7_knowersBy 15 = .ok (.iaload, 1) := by decide +kernel
theorem dX7_knowersBy_16 : decode cX7_knowersBy 16 = .ok (.iconst (-1), 1) := by decide +kernel
theorem dX7_knowersBy_17 : decode cX7_knowersBy 17 = .ok (.if_icmp .eq 19, 3) := by decide +kernel
theorem dX7_knowersBy_20 : decode cX7_knowersBy 20 = .ok (.aload_n 0, 1) := by decide +kernel
theorem dX7_knowersBy_21 : decode cX7_knowersBy 21 = .ok (.getfield 9, 3) := by decide +kernel
theorem dX7_knowersBy_24 : decode cX7_knowersBy 24 = .ok (.iload_n 3, 1) := by decide +kernel
theorem dX7_knowersBy_25 : decode cX7_knowersBy 25 = .ok (.iaload, 1) := by decide +kernel
theorem dX7_knowersBy_26 : decode cX7_knowersBy 26 = .ok (.iload_n 1, 1) := by decide +kernel
theorem dX7_knowersBy_27 : decode cX7_knowersBy 27 = .ok (.if_icmp .gt 9, 3) := by decide +kernel
theorem dX7_knowersBy_30 : decode cX7_knowersBy 30 = .ok (.iload_n 2, 1) := by decide +kernel
theorem dX7_knowersBy_31 : decode cX7_knowersBy 31 = .ok (.iconst 1, 1) := by decide +kernel
theorem dX7_knowersBy_32 : decode cX7_knowersBy 32 = .ok (.iload_n 3, 1) := by decide +kernel
theorem dX7_knowersBy_33 : decode cX7_knowersBy 33 = .ok (.ishl, 1) := by decide +kernel
theorem dX7_knowersBy_34 : decode cX7_knowersBy 34 = .ok (.ior, 1) := by decide +kernel
theorem dX7_knowersBy_35 : decode cX7_knowersBy 35 = .ok (.istore_n 2, 1) := by decide +kernel
theorem dX7_knowersBy_36 : decode cX7_knowersBy 36 = .ok (.iinc 3 1, 3) := by decide +kernel
theorem dX7_knowersBy_39 : decode cX7_knowersBy 39 = .ok (.goto (-35), 3) := by decide +kernel
theorem dX7_knowersBy_42 : decode cX7_knowersBy 42 = .ok (.iload_n 2, 1) := by decide +kernel
theorem dX7_knowersBy_43 : decode cX7_knowersBy 43 = .ok (.ireturn, 1) := by decide +kernel
abbrev rm_X7_knowersBy : Room := { frames := 0, cells := 0, slots := 0, locals := 0 }
set_option maxRecDepth 100000 in
set_option maxHeartbeats 4000000 in
theorem ct_X7_knowersBy {w : Wd} {l : Launch} {a1 : Int} {σ : St} {y : Int} (ia1 : InI a1) (h : m_X7_knowersBy a1 σ = some y) : Ct w l yX7_knowersBy (Cond.code yX7_knowersBy cX7_knowersBy 4 (some .int) :: TB) rm_X7_knowersBy [rv w 153, iv a1] σ (some (iv y)) (InI y) σ := by
  refine Ct.of2 [some (rv w 153), some (iv a1), none, none] 2 rfl pn_RX7 (Nat.le_of_ble_eq_true rfl) ?_
  intro p e s m args below meth c C hr hlk
  unfold m_X7_knowersBy at h
  refine g_iconst C dX7_knowersBy_0 ?_
  refine g_istore_n (L1 := [some (rv w 153), some (iv a1), some (iv 0), none]) C dX7_knowersBy_1 rfl (Nat.le_of_ble_eq_true rfl) rfl ?_
  refine g_iconst C dX7_knowersBy_2 ?_
  refine g_istore_n (L1 := [some (rv w 153), some (iv a1), some (iv 0), some (iv 0)]) C dX7_knowersBy_3 rfl (Nat.le_of_ble_eq_true rfl) rfl ?_
  obtain ⟨b1, hb1, hF1⟩ := bnd h
  have hX1 : ∀ (x10 : Int) , InI x10 → x10 = b1 → GM w p l e rm_X7_knowersBy s m args below meth c (some (iv y)) (InI y) σ 4 42 [none, none, some (iv x10), none] [] σ := by
    intro x10 ix10 q
    subst q
    have h := hF1
    refine g_iload_n C dX7_knowersBy_42 rfl ?_
    exact g_iretU C dX7_knowersBy_43 hr hlk h ix10
  have hL1 : ∀ (n : Nat) (x2 : Int) (x3 : Int) , InI x2 → InI x3 → lpN (fun a => m_X7_knowersBy_L4 σ a1 a.1 a.2) n (x2, x3) = some b1 → GM w p l e rm_X7_knowersBy s m args below meth c (some (iv y)) (InI y) σ 4 4 [some (rv w 153), some (iv a1), some (iv x2), some (iv x3)] [] σ := by
    intro n
    induction n with
    | zero => intro x2 x3 ix2 ix3 q; cases q
    | succ n ih1 =>
      intro x2 x3 ix2 ix3 q
      obtain ⟨o1, h, hk1⟩ := lp_step q
      replace h : m_X7_knowersBy_L4 σ a1 x2 x3 = some o1 := h
      unfold m_X7_knowersBy_L4 at h
      refine g_iload_n C dX7_knowersBy_4 rfl ?_
      refine g_bipush C dX7_knowersBy_5 rfl ?_
      refine g_icmp_ge C dX7_knowersBy_7 ix3 (by decide) rfl (tgt := 42) (fun c4 => ?_) (fun c4 => ?_)
      · have h := ifT c4 h
        refine g_mask [false, false, true, false] ?_
        obtain rfl := Option.some.inj h
        exact hX1 x2 ix2 (lpR hk1).symm
      · have h := ifF c4 h
        refine g_aload_n C dX7_knowersBy_10 rfl ?_
        refine g_getR (j := 0) C dX7_knowersBy_11 rfl (Nat.le_of_ble_eq_true rfl) (Nat.le_of_ble_eq_true rfl) fl_7_9 rfl rfl (r := 154) rfl ?_
        refine g_iload_n C dX7_knowersBy_14 rfl ?_
        obtain ⟨x5, qx5, h⟩ := bnd h
        refine g_iald C dX7_knowersBy_15 rfl rfl qx5 ix3 (fun ix5 => ?_)
        refine g_iconst C dX7_knowersBy_16 ?_
        refine g_icmp_eq C dX7_knowersBy_17 ix5 (by decide) rfl (tgt := 36) (fun c6 => ?_) (fun c6 => ?_)
        · have h := ifT c6 h
          refine g_iinc (L1 := [some (rv w 153), some (iv a1), some (iv x2), some (iv (wr (x3 + 1)))]) C dX7_knowersBy_36 rfl rfl (Nat.le_of_ble_eq_true rfl) rfl ?_
          refine g_goto C dX7_knowersBy_39 rfl (tgt := 4) ?_
          obtain rfl := Option.some.inj h
          exact ih1 _ _ ix2 (iwr _) (lpL hk1)
        · have h := ifF c6 h
          refine g_aload_n C dX7_knowersBy_20 rfl ?_
          refine g_getR (j := 0) C dX7_knowersBy_21 rfl (Nat.le_of_ble_eq_true rfl) (Nat.le_of_ble_eq_true rfl) fl_7_9 rfl rfl (r := 154) rfl ?_
          refine g_iload_n C dX7_knowersBy_24 rfl ?_
          obtain ⟨x7, qx7, h⟩ := bnd h
          refine g_iald C dX7_knowersBy_25 rfl rfl qx7 ix3 (fun ix7 => ?_)
          refine g_iload_n C dX7_knowersBy_26 rfl ?_
          refine g_icmp_gt C dX7_knowersBy_27 ix7 ia1 rfl (tgt := 36) (fun c8 => ?_) (fun c8 => ?_)
          · have h := ifT c8 h
            refine g_iinc (L1 := [some (rv w 153), some (iv a1), some (iv x2), some (iv (wr (x3 + 1)))]) C dX7_knowersBy_36 rfl rfl (Nat.le_of_ble_eq_true rfl) rfl ?_
            refine g_goto C dX7_knowersBy_39 rfl (tgt := 4) ?_
            obtain rfl := Option.some.inj h
            exact ih1 _ _ ix2 (iwr _) (lpL hk1)
          · have h := ifF c8 h
            refine g_iload_n C dX7_knowersBy_30 rfl ?_
            refine g_iconst C dX7_knowersBy_31 ?_
            refine g_iload_n C dX7_knowersBy_32 rfl ?_
            refine g_ishl C dX7_knowersBy_33 ?_
            refine g_ior C dX7_knowersBy_34 ?_
            obtain ⟨x9, qx9, h⟩ := bnd h
            have qx9 := Option.some.inj qx9
            have ix9 : InI x9 := by rw [← qx9]; exact (ior _ _)
            refine g_E qx9 ?_
            refine g_istore_n (L1 := [some (rv w 153), some (iv a1), some (iv x9), some (iv x3)]) C dX7_knowersBy_35 rfl (Nat.le_of_ble_eq_true rfl) rfl ?_
            refine g_iinc (L1 := [some (rv w 153), some (iv a1), some (iv x9), some (iv (wr (x3 + 1)))]) C dX7_knowersBy_36 rfl rfl (Nat.le_of_ble_eq_true rfl) rfl ?_
            refine g_goto C dX7_knowersBy_39 rfl (tgt := 4) ?_
            obtain rfl := Option.some.inj h
            exact ih1 _ _ ix9 (iwr _) (lpL hk1)
  exact hL1 FU _ _ (by decide) (by decide) hb1
