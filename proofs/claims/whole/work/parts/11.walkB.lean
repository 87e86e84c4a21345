theorem dX0_begin_0 : decode cX0_begin 0 = .ok (.aload_n 0, 1) := by decide +kernel
theorem dX0_begin_1 : decode cX0_begin 1 = .ok (.getfield 18, 3) := by decide +kernel
theorem dX0_begin_4 : decode cX0_begin 4 = .ok (.invokevirtual 32, 3) := by decide +kernel
theorem dX0_begin_7 : decode cX0_begin 7 = .ok (.aload_n 0, 1) := by decide +kernel
theorem dX0_begin_8 : decode cX0_begin 8 = .ok (.iconst (-1), 1) := by decide +kernel
theorem dX0_begin_9 : decode cX0_begin 9 = .ok (.putfield 35, 3) := by decide +kernel
theorem dX0_begin_12 : decode cX0_begin 12 = .ok (.aload_n 0, 1) := by decide +kernel
theorem dX0_begin_13 : decode cX0_begin 13 = .ok (.iconst 0, 1) := by decide +kernel
theorem dX0_begin_14 : decode cX0_begin 14 = .ok (.putfield 38, 3) := by decide +kernel
theorem dX0_begin_17 : decode cX0_begin 17 = .ok (.aload_n 0, 1) := by decide +kernel
theorem dX0_begin_18 : decode cX0_begin 18 = .ok (.iconst (-1), 1) := by decide +kernel
theorem dX0_begin_19 : decode cX0_begin 19 = .ok (.putfield 41, 3) := by decide +kernel
theorem dX0_begin_22 : decode cX0_begin 22 = .ok (.aload_n 0, 1) := by decide +kernel
theorem dX0_begin_23 : decode cX0_begin 23 = .ok (.iconst (-1), 1) := by decide +kernel
theorem dX0_begin_24 : decode cX0_begin 24 = .ok (.putfield 44, 3) := by decide +kernel
theorem dX0_begin_27 : decode cX0_begin 27 = .ok (.aload_n 0, 1) := by decide +kernel
theorem dX0_begin_28 : decode cX0_begin 28 = .ok (.aload_n 0, 1) := by decide +kernel
theorem dX0_begin_29 : decode cX0_begin 29 = .ok (.getfield 47, 3) := by decide +kernel
theorem dX0_begin_32 : decode cX0_begin 32 = .ok (.putfield 50, 3) := by decide +kernel
theorem dX0_begin_35 : decode cX0_begin 35 = .ok (.aload_n 0, 1) := by decide +kernel
theorem dX0_begin_36 : decode cX0_begin 36 = .ok (.iconst (-1), 1) := by decide +kernel
theorem dX0_begin_37 : decode cX0_begin 37 = .ok (.putfield 53, 3) := by decide +kernel
theorem dX0_begin_40 : decode cX0_begin 40 = .ok (.aload_n 0, 1) := by decide +kernel
theorem dX0_begin_41 : decode cX0_begin 41 = .ok (.iconst (-1), 1) := by decide +kernel
theorem dX0_begin_42 : decode cX0_begin 42 = .ok (.putfield 56, 3) := by decide +kernel
theorem dX0_begin_45 : decode cX0_begin 45 = .ok (.aload_n 0, 1) := by decide +kernel
theorem dX0_begin_46 : decode cX0_begin 46 = .ok (.iconst 0, 1) := by decide +kernel
theorem dX0_begin_47 : decode cX0_begin 47 = .ok (.putfield 59, 3) := by decide +kernel
theorem dX0_begin_50 : decode cX0_begin 50 = .ok (.aload_n 0, 1) := by decide +kernel
theorem dX0_begin_51 : decode cX0_begin 51 = .ok (.iconst 0, 1) := by decide +kernel
theorem dX0_begin_52 : decode cX0_begin 52 = .ok (.putfield 62, 3) := by decide +kernel
theorem dX0_begin_55 : decode cX0_begin 55 = .ok (.aload_n 0, 1) := by decide +kernel
theorem dX0_begin_56 : decode cX0_begin 56 = .ok (.iconst (-1), 1) := by decide +kernel
theorem dX0_begin_57 : decode cX0_begin 57 = .ok (.putfield 65, 3) := by decide +kernel
theorem dX0_begin_60 : decode cX0_begin 60 = .ok (.iconst 0, 1) := by decide +kernel
theorem dX0_begin_61 : decode cX0_begin 61 = .ok (.istore_n 1, 1) := by decide +kernel
theorem dX0_begin_62 : decode cX0_begin 62 = .ok (.iload_n 1, 1) := by decide +kernel
theorem dX0_begin_63 : decode cX0_begin 63 = .ok (.bipush 96, 2) := by decide +kernel
theorem dX0_begin_65 : decode cX0_begin 65 = .ok (.if_icmp .ge 16, 3) := by decide +kernel
theorem dX0_begin_68 : decode cX0_begin 68 = .ok (.aload_n 0, 1) := by decide +kernel
theorem dX0_begin_69 : decode cX0_begin 69 = .ok (.getfield 22, 3) := by decide +kernel
theorem dX0_begin_72 : decode cX0_begin 72 = .ok (.iload_n 1, 1) := by decide +kernel
theorem dX0_begin_73 : decode cX0_begin 73 = .ok (.iconst (-1), 1) := by decide +kernel
theorem dX0_begin_74 : decode cX0_begin 74 = .ok (.iastore, 1) := by decide +kernel
theorem dX0_begin_75 : decode cX0_begin 75 = .ok (.iinc 1 1, 3) := by decide +kernel
theorem dX0_begin_78 : decode cX0_begin 78 = .ok (.goto (-16), 3) := by decide +kernel
theorem dX0_begin_81 : decode cX0_begin 81 = .ok (.iconst 0, 1) := by decide +kernel
theorem dX0_begin_82 : decode cX0_begin 82 = .ok (.istore_n 1, 1) := by decide +kernel
theorem dX0_begin_83 : decode cX0_begin 83 = .ok (.iload_n 1, 1) := by decide +kernel
theorem dX0_begin_84 : decode cX0_begin 84 = .ok (.bipush 8, 2) := by decide +kernel
theorem dX0_begin_86 : decode cX0_begin 86 = .ok (.if_icmp .ge 23, 3) := by decide +kernel
theorem dX0_begin_89 : decode cX0_begin 89 = .ok (.aload_n 0, 1) := by decide +kernel
theorem dX0_begin_90 : decode cX0_begin 90 = .ok (.getfield 26, 3) := by decide +kernel
theorem dX0_begin_93 : decode cX0_begin 93 = .ok (.iload_n 1, 1) := by decide +kernel
theorem dX0_begin_94 : decode cX0_begin 94 = .ok (.iconst (-1), 1) := by decide +kernel
theorem dX0_begin_95 : decode cX0_begin 95 = .ok (.iastore, 1) := by decide +kernel
theorem dX0_begin_96 : decode cX0_begin 96 = .ok (.aload_n 0, 1) := by decide +kernel
theorem dX0_begin_97 : decode cX0_begin 97 = .ok (.getfield 29, 3) := by decide +kernel
theorem dX0_begin_100 : decode cX0_begin 100 = .ok (.iload_n 1, 1) := by decide +kernel
theorem dX0_begin_101 : decode cX0_begin 101 = .ok (.iconst (-1), 1) := by decide +kernel
theorem dX0_begin_102 : decode cX0_begin 102 = .ok (.iastore, 1) := by decide +kernel
theorem dX0_begin_103 : decode cX0_begin 103 = .ok (.iinc 1 1, 3) := by decide +kernel
theorem dX0_begin_106 : decode cX0_begin 106 = .ok (.goto (-23), 3) := by decide +kernel
theorem dX0_begin_109 : decode cX0_begin 109 = .ok (.return_, 1) := by decide +kernel
abbrev rm_X0_begin : Room := { frames := 1, cells := 0, slots := 0, locals := 20 }
set_option maxRecDepth 100000 in
set_option maxHeartbeats 4000000 in
theorem ct_X0_begin {w : Wd} {l : Launch} {k0 : Nat} {σ : St} {σ' : St} (t0 : tg k0 = 0) (h : m_X0_begin k0 σ = some σ') : Ct w l yX0_begin (Cond.code yX0_begin cX0_begin 2 none :: TB) rm_X0_begin [rv w k0] σ none True σ' := by
  refine Ct.of2 [some (rv w k0), none] 1 rfl pn_RX0 (Nat.le_of_ble_eq_true rfl) ?_
  intro p e s m args below meth c C hr hlk
  unfold m_X0_begin at h
  refine g_aload_n C dX0_begin_0 rfl ?_
  refine g_getR (j := 3) C dX0_begin_1 t0 (Nat.le_of_ble_eq_true rfl) (Nat.le_of_ble_eq_true rfl) fl_0_18 rfl rfl (r := (k0 + 1)) (shR_0_3 t0) ?_
  obtain ⟨σ1, qσ1, h⟩ := bnd h
  refine g_callV0 (As := []) C dX0_begin_4 mi_X3_clear ml_0_32 (ct_X3_clear (shT_0_3 t0) qσ1) (shT_0_3 t0) rfl ⟨rfl, rfl⟩ ⟨Nat.le_of_ble_eq_true rfl, Nat.le_of_ble_eq_true rfl⟩ ⟨Nat.zero_le _, Nat.zero_le _⟩ rfl (Nat.le_of_ble_eq_true rfl) (fun _ => ?_)
  refine g_aload_n C dX0_begin_7 rfl ?_
  refine g_iconst C dX0_begin_8 ?_
  obtain ⟨σ2, qσ2, h⟩ := bnd h
  refine g_putI (j := 4) C dX0_begin_9 t0 (Nat.le_of_ble_eq_true rfl) (Nat.le_of_ble_eq_true rfl) fl_0_35 rfl rfl rfl rfl qσ2 (by decide) ?_
  refine g_aload_n C dX0_begin_12 rfl ?_
  refine g_iconst C dX0_begin_13 ?_
  obtain ⟨σ3, qσ3, h⟩ := bnd h
  refine g_putI (j := 5) C dX0_begin_14 t0 (Nat.le_of_ble_eq_true rfl) (Nat.le_of_ble_eq_true rfl) fl_0_38 rfl rfl rfl rfl qσ3 (by decide) ?_
  refine g_aload_n C dX0_begin_17 rfl ?_
  refine g_iconst C dX0_begin_18 ?_
  obtain ⟨σ4, qσ4, h⟩ := bnd h
  refine g_putI (j := 6) C dX0_begin_19 t0 (Nat.le_of_ble_eq_true rfl) (Nat.le_of_ble_eq_true rfl) fl_0_41 rfl rfl rfl rfl qσ4 (by decide) ?_
  refine g_aload_n C dX0_begin_22 rfl ?_
  refine g_iconst C dX0_begin_23 ?_
  obtain ⟨σ5, qσ5, h⟩ := bnd h
  refine g_putI (j := 8) C dX0_begin_24 t0 (Nat.le_of_ble_eq_true rfl) (Nat.le_of_ble_eq_true rfl) fl_0_44 rfl rfl rfl rfl qσ5 (by decide) ?_
  refine g_aload_n C dX0_begin_27 rfl ?_
  refine g_aload_n C dX0_begin_28 rfl ?_
  refine g_getI (j := 0) C dX0_begin_29 t0 (Nat.le_of_ble_eq_true rfl) (Nat.le_of_ble_eq_true rfl) fl_0_47 rfl rfl (fun i6 => ?_)
  obtain ⟨σ7, qσ7, h⟩ := bnd h
  refine g_putI (j := 9) C dX0_begin_32 t0 (Nat.le_of_ble_eq_true rfl) (Nat.le_of_ble_eq_true rfl) fl_0_50 rfl rfl rfl rfl qσ7 i6 ?_
  refine g_aload_n C dX0_begin_35 rfl ?_
  refine g_iconst C dX0_begin_36 ?_
  obtain ⟨σ8, qσ8, h⟩ := bnd h
  refine g_putI (j := 10) C dX0_begin_37 t0 (Nat.le_of_ble_eq_true rfl) (Nat.le_of_ble_eq_true rfl) fl_0_53 rfl rfl rfl rfl qσ8 (by decide) ?_
  refine g_aload_n C dX0_begin_40 rfl ?_
  refine g_iconst C dX0_begin_41 ?_
  obtain ⟨σ9, qσ9, h⟩ := bnd h
  refine g_putI (j := 12) C dX0_begin_42 t0 (Nat.le_of_ble_eq_true rfl) (Nat.le_of_ble_eq_true rfl) fl_0_56 rfl rfl rfl rfl qσ9 (by decide) ?_
  refine g_aload_n C dX0_begin_45 rfl ?_
  refine g_iconst C dX0_begin_46 ?_
  obtain ⟨σ10, qσ10, h⟩ := bnd h
  refine g_putI (j := 16) C dX0_begin_47 t0 (Nat.le_of_ble_eq_true rfl) (Nat.le_of_ble_eq_true rfl) fl_0_59 rfl rfl rfl rfl qσ10 (by decide) ?_
  refine g_aload_n C dX0_begin_50 rfl ?_
  refine g_iconst C dX0_begin_51 ?_
  obtain ⟨σ11, qσ11, h⟩ := bnd h
  refine g_putI (j := 17) C dX0_begin_52 t0 (Nat.le_of_ble_eq_true rfl) (Nat.le_of_ble_eq_true rfl) fl_0_62 rfl rfl rfl rfl qσ11 (by decide) ?_
  refine g_aload_n C dX0_begin_55 rfl ?_
  refine g_iconst C dX0_begin_56 ?_
  obtain ⟨σ12, qσ12, h⟩ := bnd h
  refine g_putI (j := 18) C dX0_begin_57 t0 (Nat.le_of_ble_eq_true rfl) (Nat.le_of_ble_eq_true rfl) fl_0_65 rfl rfl rfl rfl qσ12 (by decide) ?_
  refine g_iconst C dX0_begin_60 ?_
  refine g_istore_n (L1 := [some (rv w k0), some (iv 0)]) C dX0_begin_61 rfl (Nat.le_of_ble_eq_true rfl) rfl ?_
  obtain ⟨b13, hb13, hF13⟩ := bnd h
  have hX13 : ∀ (σ18 : St) , σ18 = b13 → GM w p l e rm_X0_begin s m args below meth c none True σ' 2 81 [some (rv w k0), none] [] σ18 := by
    intro σ18 q
    subst q
    have h := hF13
    refine g_iconst C dX0_begin_81 ?_
    refine g_istore_n (L1 := [some (rv w k0), some (iv 0)]) C dX0_begin_82 rfl (Nat.le_of_ble_eq_true rfl) rfl ?_
    obtain ⟨b19, hb19, hF19⟩ := bnd h
    have hX19 : ∀ (σ25 : St) , σ25 = b19 → GM w p l e rm_X0_begin s m args below meth c none True σ' 2 109 [none, none] [] σ25 := by
      intro σ25 q
      subst q
      have h := hF19
      exact g_vretP C dX0_begin_109 hr hlk h
    have hL19 : ∀ (n : Nat) (x20 : Int) (σ21 : St) , InI x20 → lpN (fun a => m_X0_begin_L83 k0 a.1 a.2) n (x20, σ21) = some b19 → GM w p l e rm_X0_begin s m args below meth c none True σ' 2 83 [some (rv w k0), some (iv x20)] [] σ21 := by
      intro n
      induction n with
      | zero => intro x20 σ21 ix20 q; cases q
      | succ n ih19 =>
        intro x20 σ21 ix20 q
        obtain ⟨o19, h, hk19⟩ := lp_step q
        replace h : m_X0_begin_L83 k0 x20 σ21 = some o19 := h
        unfold m_X0_begin_L83 at h
        refine g_iload_n C dX0_begin_83 rfl ?_
        refine g_bipush C dX0_begin_84 rfl ?_
        refine g_icmp_ge C dX0_begin_86 ix20 (by decide) rfl (tgt := 109) (fun c22 => ?_) (fun c22 => ?_)
        · have h := ifT c22 h
          refine g_mask [false, false] ?_
          obtain rfl := Option.some.inj h
          exact hX19 σ21 (lpR hk19).symm
        · have h := ifF c22 h
          refine g_aload_n C dX0_begin_89 rfl ?_
          refine g_getR (j := 14) C dX0_begin_90 t0 (Nat.le_of_ble_eq_true rfl) (Nat.le_of_ble_eq_true rfl) fl_0_26 rfl rfl (r := (k0 + 5)) (shR_0_14 t0) ?_
          refine g_iload_n C dX0_begin_93 rfl ?_
          refine g_iconst C dX0_begin_94 ?_
          obtain ⟨σ23, qσ23, h⟩ := bnd h
          refine g_iast C dX0_begin_95 (shT_0_14 t0) (shL_0_14 t0) qσ23 ix20 (by decide) ?_
          refine g_aload_n C dX0_begin_96 rfl ?_
          refine g_getR (j := 15) C dX0_begin_97 t0 (Nat.le_of_ble_eq_true rfl) (Nat.le_of_ble_eq_true rfl) fl_0_29 rfl rfl (r := (k0 + 6)) (shR_0_15 t0) ?_
          refine g_iload_n C dX0_begin_100 rfl ?_
          refine g_iconst C dX0_begin_101 ?_
          obtain ⟨σ24, qσ24, h⟩ := bnd h
          refine g_iast C dX0_begin_102 (shT_0_15 t0) (shL_0_15 t0) qσ24 ix20 (by decide) ?_
          refine g_iinc (L1 := [some (rv w k0), some (iv (wr (x20 + 1)))]) C dX0_begin_103 rfl rfl (Nat.le_of_ble_eq_true rfl) rfl ?_
          refine g_goto C dX0_begin_106 rfl (tgt := 83) ?_
          obtain rfl := Option.some.inj h
          exact ih19 _ _ (iwr _) (lpL hk19)
    exact hL19 FU _ _ (by decide) hb19
  have hL13 : ∀ (n : Nat) (x14 : Int) (σ15 : St) , InI x14 → lpN (fun a => m_X0_begin_L62 k0 a.1 a.2) n (x14, σ15) = some b13 → GM w p l e rm_X0_begin s m args below meth c none True σ' 2 62 [some (rv w k0), some (iv x14)] [] σ15 := by
    intro n
    induction n with
    | zero => intro x14 σ15 ix14 q; cases q
    | succ n ih13 =>
      intro x14 σ15 ix14 q
      obtain ⟨o13, h, hk13⟩ := lp_step q
      replace h : m_X0_begin_L62 k0 x14 σ15 = some o13 := h
      unfold m_X0_begin_L62 at h
      refine g_iload_n C dX0_begin_62 rfl ?_
      refine g_bipush C dX0_begin_63 rfl ?_
      refine g_icmp_ge C dX0_begin_65 ix14 (by decide) rfl (tgt := 81) (fun c16 => ?_) (fun c16 => ?_)
      · have h := ifT c16 h
        refine g_mask [true, false] ?_
        obtain rfl := Option.some.inj h
        exact hX13 σ15 (lpR hk13).symm
      · have h := ifF c16 h
        refine g_aload_n C dX0_begin_68 rfl ?_
        refine g_getR (j := 13) C dX0_begin_69 t0 (Nat.le_of_ble_eq_true rfl) (Nat.le_of_ble_eq_true rfl) fl_0_22 rfl rfl (r := (k0 + 4)) (shR_0_13 t0) ?_
        refine g_iload_n C dX0_begin_72 rfl ?_
        refine g_iconst C dX0_begin_73 ?_
        obtain ⟨σ17, qσ17, h⟩ := bnd h
        refine g_iast C dX0_begin_74 (shT_0_13 t0) (shL_0_13 t0) qσ17 ix14 (by decide) ?_
        refine g_iinc (L1 := [some (rv w k0), some (iv (wr (x14 + 1)))]) C dX0_begin_75 rfl rfl (Nat.le_of_ble_eq_true rfl) rfl ?_
        refine g_goto C dX0_begin_78 rfl (tgt := 62) ?_
        obtain rfl := Option.some.inj h
        exact ih13 _ _ (iwr _) (lpL hk13)
  exact hL13 FU _ _ (by decide) hb13
theorem dX0_enter_0 : decode cX0_enter 0 = .ok (.iconst 0, 1) := by decide +kernel
theorem dX0_enter_1 : decode cX0_enter 1 = .ok (.istore_n 2, 1) := by decide +kernel
theorem dX0_enter_2 : decode cX0_enter 2 = .ok (.iload_n 2, 1) := by decide +kernel
theorem dX0_enter_3 : decode cX0_enter 3 = .ok (.bipush 8, 2) := by decide +kernel
theorem dX0_enter_5 : decode cX0_enter 5 = .ok (.if_icmp .ge 27, 3) := by decide +kernel
theorem dX0_enter_8 : decode cX0_enter 8 = .ok (.aload_n 0, 1) := by decide +kernel
theorem dX0_enter_9 : decode cX0_enter 9 = .ok (.getfield 68, 3) := by decide +kernel
theorem dX0_enter_12 : decode cX0_enter 12 = .ok (.iload_n 2, 1) := by decide +kernel
theorem dX0_enter_13 : decode cX0_enter 13 = .ok (.ishr, 1) := by decide +kernel
theorem dX0_enter_14 : decode cX0_enter 14 = .ok (.iconst 1, 1) := by decide +kernel
theorem dX0_enter_15 : decode cX0_enter 15 = .ok (.iand, 1) := by decide +kernel
theorem dX0_enter_16 : decode cX0_enter 16 = .ok (.ifCond .eq 10, 3) := by decide +kernel
theorem dX0_enter_19 : decode cX0_enter 19 = .ok (.aload_n 0, 1) := by decide +kernel
theorem dX0_enter_20 : decode cX0_enter 20 = .ok (.getfield 26, 3) := by decide +kernel
theorem dX0_enter_23 : decode cX0_enter 23 = .ok (.iload_n 2, 1) := by decide +kernel
theorem dX0_enter_24 : decode cX0_enter 24 = .ok (.iconst 0, 1) := by decide +kernel
theorem dX0_enter_25 : decode cX0_enter 25 = .ok (.iastore, 1) := by decide +kernel
theorem dX0_enter_26 : decode cX0_enter 26 = .ok (.iinc 2 1, 3) := by decide +kernel
theorem dX0_enter_29 : decode cX0_enter 29 = .ok (.goto (-27), 3) := by decide +kernel
theorem dX0_enter_32 : decode cX0_enter 32 = .ok (.aload_n 0, 1) := by decide +kernel
theorem dX0_enter_33 : decode cX0_enter 33 = .ok (.iload_n 1, 1) := by decide +kernel
theorem dX0_enter_34 : decode cX0_enter 34 = .ok (.putfield 35, 3) := by decide +kernel
theorem dX0_enter_37 : decode cX0_enter 37 = .ok (.iload_n 1, 1) := by decide +kernel
theorem dX0_enter_38 : decode cX0_enter 38 = .ok (.iconst (-1), 1) := by decide +kernel
theorem dX0_enter_39 : decode cX0_enter 39 = .ok (.if_icmp .ne 8, 3) := by decide +kernel
theorem dX0_enter_42 : decode cX0_enter 42 = .ok (.aload_n 0, 1) := by decide +kernel
theorem dX0_enter_43 : decode cX0_enter 43 = .ok (.iconst 0, 1) := by decide +kernel
theorem dX0_enter_44 : decode cX0_enter 44 = .ok (.putfield 65, 3) := by decide +kernel
theorem dX0_enter_47 : decode cX0_enter 47 = .ok (.return_, 1) := by decide +kernel
abbrev rm_X0_enter : Room := { frames := 0, cells := 0, slots := 0, locals := 0 }
set_option maxRecDepth 100000 in
set_option maxHeartbeats 4000000 in
theorem ct_X0_enter {w : Wd} {l : Launch} {k0 : Nat} {a1 : Int} {σ : St} {σ' : St} (t0 : tg k0 = 0) (ia1 : InI a1) (h : m_X0_enter k0 a1 σ = some σ') : Ct w l yX0_enter (Cond.code yX0_enter cX0_enter 3 none :: TB) rm_X0_enter [rv w k0, iv a1] σ none True σ' := by
  refine Ct.of2 [some (rv w k0), some (iv a1), none] 1 rfl pn_RX0 (Nat.le_of_ble_eq_true rfl) ?_
  intro p e s m args below meth c C hr hlk
  unfold m_X0_enter at h
  refine g_iconst C dX0_enter_0 ?_
  refine g_istore_n (L1 := [some (rv w k0), some (iv a1), some (iv 0)]) C dX0_enter_1 rfl (Nat.le_of_ble_eq_true rfl) rfl ?_
  obtain ⟨b1, hb1, hF1⟩ := bnd h
  have hX1 : ∀ (σ8 : St) , σ8 = b1 → GM w p l e rm_X0_enter s m args below meth c none True σ' 3 32 [some (rv w k0), some (iv a1), none] [] σ8 := by
    intro σ8 q
    subst q
    have h := hF1
    refine g_aload_n C dX0_enter_32 rfl ?_
    refine g_iload_n C dX0_enter_33 rfl ?_
    obtain ⟨σ9, qσ9, h⟩ := bnd h
    refine g_putI (j := 4) C dX0_enter_34 t0 (Nat.le_of_ble_eq_true rfl) (Nat.le_of_ble_eq_true rfl) fl_0_35 rfl rfl rfl rfl qσ9 ia1 ?_
    refine g_iload_n C dX0_enter_37 rfl ?_
    refine g_iconst C dX0_enter_38 ?_
    refine g_icmp_ne C dX0_enter_39 ia1 (by decide) rfl (tgt := 47) (fun c10 => ?_) (fun c10 => ?_)
    · have h := ifF c10 h
      exact g_vretP C dX0_enter_47 hr hlk h
    · have h := ifT c10 h
      refine g_aload_n C dX0_enter_42 rfl ?_
      refine g_iconst C dX0_enter_43 ?_
      obtain ⟨σ11, qσ11, h⟩ := bnd h
      refine g_putI (j := 18) C dX0_enter_44 t0 (Nat.le_of_ble_eq_true rfl) (Nat.le_of_ble_eq_true rfl) fl_0_65 rfl rfl rfl rfl qσ11 (by decide) ?_
      exact g_vretP C dX0_enter_47 hr hlk h
  have hL1 : ∀ (n : Nat) (x2 : Int) (σ3 : St) , InI x2 → lpN (fun a => m_X0_enter_L2 k0 a.1 a.2) n (x2, σ3) = some b1 → GM w p l e rm_X0_enter s m args below meth c none True σ' 3 2 [some (rv w k0), some (iv a1), some (iv x2)] [] σ3 := by
    intro n
    induction n with
    | zero => intro x2 σ3 ix2 q; cases q
    | succ n ih1 =>
      intro x2 σ3 ix2 q
      obtain ⟨o1, h, hk1⟩ := lp_step q
      replace h : m_X0_enter_L2 k0 x2 σ3 = some o1 := h
      unfold m_X0_enter_L2 at h
      refine g_iload_n C dX0_enter_2 rfl ?_
      refine g_bipush C dX0_enter_3 rfl ?_
      refine g_icmp_ge C dX0_enter_5 ix2 (by decide) rfl (tgt := 32) (fun c4 => ?_) (fun c4 => ?_)
      · have h := ifT c4 h
        refine g_mask [true, true, false] ?_
        obtain rfl := Option.some.inj h
        exact hX1 σ3 (lpR hk1).symm
      · have h := ifF c4 h
        refine g_aload_n C dX0_enter_8 rfl ?_
        refine g_getI (j := 1) C dX0_enter_9 t0 (Nat.le_of_ble_eq_true rfl) (Nat.le_of_ble_eq_true rfl) fl_0_68 rfl rfl (fun i5 => ?_)
        refine g_iload_n C dX0_enter_12 rfl ?_
        refine g_ishr C dX0_enter_13 ?_
        refine g_iconst C dX0_enter_14 ?_
        refine g_iand C dX0_enter_15 ?_
        refine g_if_eq C dX0_enter_16 (iand _ _) rfl (tgt := 26) (fun c6 => ?_) (fun c6 => ?_)
        · have h := ifT c6 h
          refine g_iinc (L1 := [some (rv w k0), some (iv a1), some (iv (wr (x2 + 1)))]) C dX0_enter_26 rfl rfl (Nat.le_of_ble_eq_true rfl) rfl ?_
          refine g_goto C dX0_enter_29 rfl (tgt := 2) ?_
          obtain rfl := Option.some.inj h
          exact ih1 _ _ (iwr _) (lpL hk1)
        · have h := ifF c6 h
          refine g_aload_n C dX0_enter_19 rfl ?_
          refine g_getR (j := 14) C dX0_enter_20 t0 (Nat.le_of_ble_eq_true rfl) (Nat.le_of_ble_eq_true rfl) fl_0_26 rfl rfl (r := (k0 + 5)) (shR_0_14 t0) ?_
          refine g_iload_n C dX0_enter_23 rfl ?_
          refine g_iconst C dX0_enter_24 ?_
          obtain ⟨σ7, qσ7, h⟩ := bnd h
          refine g_iast C dX0_enter_25 (shT_0_14 t0) (shL_0_14 t0) qσ7 ix2 (by decide) ?_
          refine g_iinc (L1 := [some (rv w k0), some (iv a1), some (iv (wr (x2 + 1)))]) C dX0_enter_26 rfl rfl (Nat.le_of_ble_eq_true rfl) rfl ?_
          refine g_goto C dX0_enter_29 rfl (tgt := 2) ?_
          obtain rfl := Option.some.inj h
          exact ih1 _ _ (iwr _) (lpL hk1)
  exact hL1 FU _ _ (by decide) hb1
theorem dX0_stand_0 : decode cX0_stand 0 = .ok (.aload_n 0, 1) := by decide +kernel
theorem dX0_stand_1 : decode cX0_stand 1 = .ok (.getfield 53, 3) := by decide +kernel
theorem dX0_stand_4 : decode cX0_stand 4 = .ok (.iconst (-1), 1) := by decide +kernel
theorem dX0_stand_5 : decode cX0_stand 5 = .ok (.if_icmp .eq 24, 3) := by decide +kernel
theorem dX0_stand_8 : decode cX0_stand 8 = .ok (.iload_n 1, 1) := by decide +kernel
theorem dX0_stand_9 : decode cX0_stand 9 = .ok (.aload_n 0, 1) := by decide +kernel
theorem dX0_stand_10 : decode cX0_stand 10 = .ok (.getfield 71, 3) := by decide +kernel
theorem dX0_stand_13 : decode cX0_stand 13 = .ok (.if_icmp .lt 16, 3) := by decide +kernel
theorem dX0_stand_16 : decode cX0_stand 16 = .ok (.aload_n 0, 1) := by decide +kernel
theorem dX0_stand_17 : decode cX0_stand 17 = .ok (.aload_n 0, 1) := by decide +kernel
theorem dX0_stand_18 : decode cX0_stand 18 = .ok (.getfield 53, 3) := by decide +kernel
theorem dX0_stand_21 : decode cX0_stand 21 = .ok (.putfield 50, 3) := by decide +kernel
theorem dX0_stand_24 : decode cX0_stand 24 = .ok (.aload_n 0, 1) := by decide +kernel
theorem dX0_stand_25 : decode cX0_stand 25 = .ok (.iconst (-1), 1) := by decide +kernel
theorem dX0_stand_26 : decode cX0_stand 26 = .ok (.putfield 53, 3) := by decide +kernel
theorem dX0_stand_29 : decode cX0_stand 29 = .ok (.iload_n 1, 1) := by decide +kernel
theorem dX0_stand_30 : decode cX0_stand 30 = .ok (.ifCond .lt 31, 3) := by decide +kernel
theorem dX0_stand_33 : decode cX0_stand 33 = .ok (.iload_n 1, 1) := by decide +kernel
theorem dX0_stand_34 : decode cX0_stand 34 = .ok (.bipush 96, 2) := by decide +kernel
theorem dX0_stand_36 : decode cX0_stand 36 = .ok (.if_icmp .ge 25, 3) := by decide +kernel
theorem dX0_stand_39 : decode cX0_stand 39 = .ok (.aload_n 0, 1) := by decide +kernel
theorem dX0_stand_40 : decode cX0_stand 40 = .ok (.getfield 22, 3) := by decide +kernel
theorem dX0_stand_43 : decode cX0_stand 43 = .ok (.iload_n 1, 1) := by decide +kernel
theorem dX0_stand_44 : decode cX0_stand 44 = .ok (.aload_n 0, 1) := by decide +kernel
theorem dX0_stand_45 : decode cX0_stand 45 = .ok (.getfield 53, 3) := by decide +kernel
theorem dX0_stand_48 : decode cX0_stand 48 = .ok (.iconst (-1), 1) := by decide +kernel
theorem dX0_stand_49 : decode cX0_stand 49 = .ok (.if_icmp .ne 10, 3) := by decide +kernel
theorem dX0_stand_52 : decode cX0_stand 52 = .ok (.aload_n 0, 1) := by decide +kernel
theorem dX0_stand_53 : decode cX0_stand 53 = .ok (.getfield 50, 3) := by decide +kernel
theorem dX0_stand_56 : decode cX0_stand 56 = .ok (.goto 4, 3) := by decide +kernel
theorem dX0_stand_59 : decode cX0_stand 59 = .ok (.iconst (-1), 1) := by decide +kernel
theorem dX0_stand_60 : decode cX0_stand 60 = .ok (.iastore, 1) := by decide +kernel
theorem dX0_stand_61 : decode cX0_stand 61 = .ok (.return_, 1) := by decide +kernel
abbrev rm_X0_stand : Room := { frames := 0, cells := 0, slots := 0, locals := 0 }
set_option maxRecDepth 100000 in
set_option maxHeartbeats 4000000 in
theorem ct_X0_stand {w : Wd} {l : Launch} {k0 : Nat} {a1 : Int} {σ : St} {σ' : St} (t0 : tg k0 = 0) (ia1 : InI a1) (h : m_X0_stand k0 a1 σ = some σ') : Ct w l yX0_stand (Cond.code yX0_stand cX0_stand 2 none :: TB) rm_X0_stand [rv w k0, iv a1] σ none True σ' := by
  refine Ct.of2 [some (rv w k0), some (iv a1)] 0 rfl pn_RX0 (Nat.le_of_ble_eq_true rfl) ?_
  intro p e s m args below meth c C hr hlk
  unfold m_X0_stand at h
  refine g_aload_n C dX0_stand_0 rfl ?_
  refine g_getI (j := 10) C dX0_stand_1 t0 (Nat.le_of_ble_eq_true rfl) (Nat.le_of_ble_eq_true rfl) fl_0_53 rfl rfl (fun i1 => ?_)
  refine g_iconst C dX0_stand_4 ?_
  have hJ29_16 : ∀ (σ8 : St) , m_X0_stand_J29 a1 k0 σ8 = some σ' → GM w p l e rm_X0_stand s m args below meth c none True σ' 2 29 [some (rv w k0), some (iv a1)] [] σ8 := by
    intro σ8 h
    unfold m_X0_stand_J29 at h
    refine g_iload_n C dX0_stand_29 rfl ?_
    refine g_if_lt C dX0_stand_30 ia1 rfl (tgt := 61) (fun c9 => ?_) (fun c9 => ?_)
    · have h := ifT c9 h
      exact g_vretP C dX0_stand_61 hr hlk h
    · have h := ifF c9 h
      refine g_iload_n C dX0_stand_33 rfl ?_
      refine g_bipush C dX0_stand_34 rfl ?_
      refine g_icmp_ge C dX0_stand_36 ia1 (by decide) rfl (tgt := 61) (fun c10 => ?_) (fun c10 => ?_)
      · have h := ifT c10 h
        exact g_vretP C dX0_stand_61 hr hlk h
      · have h := ifF c10 h
        refine g_aload_n C dX0_stand_39 rfl ?_
        refine g_getR (j := 13) C dX0_stand_40 t0 (Nat.le_of_ble_eq_true rfl) (Nat.le_of_ble_eq_true rfl) fl_0_22 rfl rfl (r := (k0 + 4)) (shR_0_13 t0) ?_
        refine g_iload_n C dX0_stand_43 rfl ?_
        refine g_aload_n C dX0_stand_44 rfl ?_
        refine g_getI (j := 10) C dX0_stand_45 t0 (Nat.le_of_ble_eq_true rfl) (Nat.le_of_ble_eq_true rfl) fl_0_53 rfl rfl (fun i11 => ?_)
        refine g_iconst C dX0_stand_48 ?_
        refine g_icmp_ne C dX0_stand_49 i11 (by decide) rfl (tgt := 59) (fun c12 => ?_) (fun c12 => ?_)
        · have h := ifF c12 h
          refine g_iconst C dX0_stand_59 ?_
          obtain ⟨σ13, qσ13, h⟩ := bnd h
          refine g_iast C dX0_stand_60 (shT_0_13 t0) (shL_0_13 t0) qσ13 ia1 (by decide) ?_
          exact g_vretP C dX0_stand_61 hr hlk h
        · have h := ifT c12 h
          refine g_aload_n C dX0_stand_52 rfl ?_
          refine g_getI (j := 9) C dX0_stand_53 t0 (Nat.le_of_ble_eq_true rfl) (Nat.le_of_ble_eq_true rfl) fl_0_50 rfl rfl (fun i14 => ?_)
          refine g_goto C dX0_stand_56 rfl (tgt := 60) ?_
          obtain ⟨σ15, qσ15, h⟩ := bnd h
          refine g_iast C dX0_stand_60 (shT_0_13 t0) (shL_0_13 t0) qσ15 ia1 i14 ?_
          exact g_vretP C dX0_stand_61 hr hlk h
  refine g_icmp_eq C dX0_stand_5 i1 (by decide) rfl (tgt := 29) (fun c2 => ?_) (fun c2 => ?_)
  · have h := ifT c2 h
    exact hJ29_16 σ h
  · have h := ifF c2 h
    refine g_iload_n C dX0_stand_8 rfl ?_
    refine g_aload_n C dX0_stand_9 rfl ?_
    refine g_getI (j := 11) C dX0_stand_10 t0 (Nat.le_of_ble_eq_true rfl) (Nat.le_of_ble_eq_true rfl) fl_0_71 rfl rfl (fun i3 => ?_)
    refine g_icmp_lt C dX0_stand_13 ia1 i3 rfl (tgt := 29) (fun c4 => ?_) (fun c4 => ?_)
    · have h := ifT c4 h
      exact hJ29_16 σ h
    · have h := ifF c4 h
      refine g_aload_n C dX0_stand_16 rfl ?_
      refine g_aload_n C dX0_stand_17 rfl ?_
      refine g_getI (j := 10) C dX0_stand_18 t0 (Nat.le_of_ble_eq_true rfl) (Nat.le_of_ble_eq_true rfl) fl_0_53 rfl rfl (fun i5 => ?_)
      obtain ⟨σ6, qσ6, h⟩ := bnd h
      refine g_putI (j := 9) C dX0_stand_21 t0 (Nat.le_of_ble_eq_true rfl) (Nat.le_of_ble_eq_true rfl) fl_0_50 rfl rfl rfl rfl qσ6 i5 ?_
      refine g_aload_n C dX0_stand_24 rfl ?_
      refine g_iconst C dX0_stand_25 ?_
      obtain ⟨σ7, qσ7, h⟩ := bnd h
      refine g_putI (j := 10) C dX0_stand_26 t0 (Nat.le_of_ble_eq_true rfl) (Nat.le_of_ble_eq_true rfl) fl_0_53 rfl rfl rfl rfl qσ7 (by decide) ?_
      exact hJ29_16 σ7 h
theorem dX0_knowsSecret_0 : decode cX0_knowsSecret 0 = .ok (.iload_n 1, 1) := by decide +kernel
theorem dX0_knowsSecret_1 : decode cX0_knowsSecret 1 = .ok (.ifCond .lt 23, 3) := by decide +kernel
theorem dX0_knowsSecret_4 : decode cX0_knowsSecret 4 = .ok (.iload_n 1, 1) := by decide +kernel
theorem dX0_knowsSecret_5 : decode cX0_knowsSecret 5 = .ok (.bipush 8, 2) := by decide +kernel
theorem dX0_knowsSecret_7 : decode cX0_knowsSecret 7 = .ok (.if_icmp .ge 17, 3) := by decide +kernel
theorem dX0_knowsSecret_10 : decode cX0_knowsSecret 10 = .ok (.aload_n 0, 1) := by decide +kernel
theorem dX0_knowsSecret_11 : decode cX0_knowsSecret 11 = .ok (.getfield 26, 3) := by decide +kernel
theorem dX0_knowsSecret_14 : decode cX0_knowsSecret 14 = .ok (.iload_n 1, 1) := by decide +kernel
theorem dX0_knowsSecret_15 : decode cX0_knowsSecret 15 = .ok (.iaload, 1) := by decide +kernel
theorem dX0_knowsSecret_16 : decode cX0_knowsSecret 16 = .ok (.iconst (-1), 1) := by decide +kernel
theorem dX0_knowsSecret_17 : decode cX0_knowsSecret 17 = .ok (.if_icmp .eq 7, 3) := by decide +kernel
theorem dX0_knowsSecret_20 : decode cX0_knowsSecret 20 = .ok (.iconst 1, 1) := by decide +kernel
theorem dX0_knowsSecret_21 : decode cX0_knowsSecret 21 = .ok (.goto 4, 3) := by decide +kernel
theorem dX0_knowsSecret_24 : decode cX0_knowsSecret 24 = .ok (.iconst 0, 1) := by decide +kernel
theorem dX0_knowsSecret_25 : decode cX0_knowsSecret 25 = .ok (.ireturn, 1) := by decide +kernel
abbrev rm_X0_knowsSecret : Room := { frames := 0, cells := 0, slots := 0, locals := 0 }
set_option maxRecDepth 100000 in
set_option maxHeartbeats 4000000 in
theorem ct_X0_knowsSecret {w : Wd} {l : Launch} {k0 : Nat} {a1 : Int} {σ : St} {y : Int} (t0 : tg k0 = 0) (ia1 : InI a1) (h : m_X0_knowsSecret k0 a1 σ = some y) : Ct w l yX0_knowsSecret (Cond.code yX0_knowsSecret cX0_knowsSecret 2 (some .boolean) :: TB) rm_X0_knowsSecret [rv w k0, iv a1] σ (some (iv y)) (InZ y) σ := by
  refine Ct.of2 [some (rv w k0), some (iv a1)] 0 rfl pn_RX0 (Nat.le_of_ble_eq_true rfl) ?_
  intro p e s m args below meth c C hr hlk
  unfold m_X0_knowsSecret at h
  refine g_iload_n C dX0_knowsSecret_0 rfl ?_
  refine g_if_lt C dX0_knowsSecret_1 ia1 rfl (tgt := 24) (fun c1 => ?_) (fun c1 => ?_)
  · have h := ifT c1 h
    refine g_iconst C dX0_knowsSecret_24 ?_
    exact g_zretU C dX0_knowsSecret_25 hr hlk h (Or.inl rfl)
  · have h := ifF c1 h
    refine g_iload_n C dX0_knowsSecret_4 rfl ?_
    refine g_bipush C dX0_knowsSecret_5 rfl ?_
    refine g_icmp_ge C dX0_knowsSecret_7 ia1 (by decide) rfl (tgt := 24) (fun c2 => ?_) (fun c2 => ?_)
    · have h := ifT c2 h
      refine g_iconst C dX0_knowsSecret_24 ?_
      exact g_zretU C dX0_knowsSecret_25 hr hlk h (Or.inl rfl)
    · have h := ifF c2 h
      refine g_aload_n C dX0_knowsSecret_10 rfl ?_
      refine g_getR (j := 14) C dX0_knowsSecret_11 t0 (Nat.le_of_ble_eq_true rfl) (Nat.le_of_ble_eq_true rfl) fl_0_26 rfl rfl (r := (k0 + 5)) (shR_0_14 t0) ?_
      refine g_iload_n C dX0_knowsSecret_14 rfl ?_
      obtain ⟨x3, qx3, h⟩ := bnd h
      refine g_iald C dX0_knowsSecret_15 (shT_0_14 t0) (shL_0_14 t0) qx3 ia1 (fun ix3 => ?_)
      refine g_iconst C dX0_knowsSecret_16 ?_
      refine g_icmp_eq C dX0_knowsSecret_17 ix3 (by decide) rfl (tgt := 24) (fun c4 => ?_) (fun c4 => ?_)
      · have h := ifT c4 h
        refine g_iconst C dX0_knowsSecret_24 ?_
        exact g_zretU C dX0_knowsSecret_25 hr hlk h (Or.inl rfl)
      · have h := ifF c4 h
        refine g_iconst C dX0_knowsSecret_20 ?_
        refine g_goto C dX0_knowsSecret_21 rfl (tgt := 25) ?_
        exact g_zretU C dX0_knowsSecret_25 hr hlk h (Or.inr rfl)
theorem dX0_hasPaper_0 : decode cX0_hasPaper 0 = .ok (.aload_n 0, 1) := by decide +kernel
theorem dX0_hasPaper_1 : decode cX0_hasPaper 1 = .ok (.getfield 59, 3) := by decide +kernel
theorem dX0_hasPaper_4 : decode cX0_hasPaper 4 = .ok (.iload_n 1, 1) := by decide +kernel
theorem dX0_hasPaper_5 : decode cX0_hasPaper 5 = .ok (.ishr, 1) := by decide +kernel
theorem dX0_hasPaper_6 : decode cX0_hasPaper 6 = .ok (.iconst 1, 1) := by decide +kernel
theorem dX0_hasPaper_7 : decode cX0_hasPaper 7 = .ok (.iand, 1) := by decide +kernel
theorem dX0_hasPaper_8 : decode cX0_hasPaper 8 = .ok (.ifCond .eq 7, 3) := by decide +kernel
theorem dX0_hasPaper_11 : decode cX0_hasPaper 11 = .ok (.iconst 1, 1) := by decide +kernel
theorem dX0_hasPaper_12 : decode cX0_hasPaper 12 = .ok (.goto 4, 3) := by decide +kernel
theorem dX0_hasPaper_15 : decode cX0_hasPaper 15 = .ok (.iconst 0, 1) := by decide +kernel
theorem dX0_hasPaper_16 : decode cX0_hasPaper 16 = .ok (.ireturn, 1) := by decide +kernel
abbrev rm_X0_hasPaper : Room := { frames := 0, cells := 0, slots := 0, locals := 0 }
set_option maxRecDepth 100000 in
set_option maxHeartbeats 4000000 in
theorem ct_X0_hasPaper {w : Wd} {l : Launch} {k0 : Nat} {a1 : Int} {σ : St} {y : Int} (t0 : tg k0 = 0) (ia1 : InI a1) (h : m_X0_hasPaper k0 a1 σ = some y) : Ct w l yX0_hasPaper (Cond.code yX0_hasPaper cX0_hasPaper 2 (some .boolean) :: TB) rm_X0_hasPaper [rv w k0, iv a1] σ (some (iv y)) (InZ y) σ := by
  refine Ct.of2 [some (rv w k0), some (iv a1)] 0 rfl pn_RX0 (Nat.le_of_ble_eq_true rfl) ?_
  intro p e s m args below meth c C hr hlk
  unfold m_X0_hasPaper at h
  refine g_aload_n C dX0_hasPaper_0 rfl ?_
  refine g_getI (j := 16) C dX0_hasPaper_1 t0 (Nat.le_of_ble_eq_true rfl) (Nat.le_of_ble_eq_true rfl) fl_0_59 rfl rfl (fun i1 => ?_)
  refine g_iload_n C dX0_hasPaper_4 rfl ?_
  refine g_ishr C dX0_hasPaper_5 ?_
  refine g_iconst C dX0_hasPaper_6 ?_
  refine g_iand C dX0_hasPaper_7 ?_
  refine g_if_eq C dX0_hasPaper_8 (iand _ _) rfl (tgt := 15) (fun c2 => ?_) (fun c2 => ?_)
  · have h := ifT c2 h
    refine g_iconst C dX0_hasPaper_15 ?_
    exact g_zretU C dX0_hasPaper_16 hr hlk h (Or.inl rfl)
  · have h := ifF c2 h
    refine g_iconst C dX0_hasPaper_11 ?_
    refine g_goto C dX0_hasPaper_12 rfl (tgt := 16) ?_
    exact g_zretU C dX0_hasPaper_16 hr hlk h (Or.inr rfl)
theorem dX1_add_0 : decode cX1_add 0 = .ok (.aload_n 0, 1) := by decide +kernel
theorem dX1_add_1 : decode cX1_add 1 = .ok (.getfield 34, 3) := by decide +kernel
theorem dX1_add_4 : decode cX1_add 4 = .ok (.sipush 150, 3) := by decide +kernel
theorem dX1_add_7 : decode cX1_add 7 = .ok (.if_icmp .lt 5, 3) := by decide +kernel
theorem dX1_add_10 : decode cX1_add 10 = .ok (.iconst (-1), 1) := by decide +kernel
theorem dX1_add_11 : decode cX1_add 11 = .ok (.ireturn, 1) := by decide +kernel
theorem dX1_add_12 : decode cX1_add 12 = .ok (.aload_n 0, 1) := by decide +kernel
theorem dX1_add_13 : decode cX1_add 13 = .ok (.getfield 9, 3) := by decide +kernel
theorem dX1_add_16 : decode cX1_add 16 = .ok (.aload_n 0, 1) := by decide +kernel
theorem dX1_add_17 : decode cX1_add 17 = .ok (.getfield 34, 3) := by decide +kernel
theorem dX1_add_20 : decode cX1_add 20 = .ok (.iload_n 1, 1) := by decide +kernel
theorem dX1_add_21 : decode cX1_add 21 = .ok (.iastore, 1) := by decide +kernel
theorem dX1_add_22 : decode cX1_add 22 = .ok (.aload_n 0, 1) := by decide +kernel
theorem dX1_add_23 : decode cX1_add 23 = .ok (.getfield 15, 3) := by decide +kernel
theorem dX1_add_26 : decode cX1_add 26 = .ok (.aload_n 0, 1) := by decide +kernel
theorem dX1_add_27 : decode cX1_add 27 = .ok (.getfield 34, 3) := by decide +kernel
theorem dX1_add_30 : decode cX1_add 30 = .ok (.iload_n 2, 1) := by decide +kernel
theorem dX1_add_31 : decode cX1_add 31 = .ok (.iastore, 1) := by decide +kernel
theorem dX1_add_32 : decode cX1_add 32 = .ok (.aload_n 0, 1) := by decide +kernel
theorem dX1_add_33 : decode cX1_add 33 = .ok (.getfield 18, 3) := by decide +kernel
theorem dX1_add_36 : decode cX1_add 36 = .ok (.aload_n 0, 1) := by decide +kernel
theorem dX1_add_37 : decode cX1_add 37 = .ok (.getfield 34, 3) := by decide +kernel
theorem dX1_add_40 : decode cX1_add 40 = .ok (.iload_n 3, 1) := by decide +kernel
theorem dX1_add_41 : decode cX1_add 41 = .ok (.iastore, 1) := by decide +kernel
theorem dX1_add_42 : decode cX1_add 42 = .ok (.aload_n 0, 1) := by decide +kernel
theorem dX1_add_43 : decode cX1_add 43 = .ok (.getfield 21, 3) := by decide +kernel
theorem dX1_add_46 : decode cX1_add 46 = .ok (.aload_n 0, 1) := by decide +kernel
theorem dX1_add_47 : decode cX1_add 47 = .ok (.getfield 34, 3) := by decide +kernel
theorem dX1_add_50 : decode cX1_add 50 = .ok (.iload 4, 2) := by decide +kernel
theorem dX1_add_52 : decode cX1_add 52 = .ok (.iastore, 1) := by decide +kernel
theorem dX1_add_53 : decode cX1_add 53 = .ok (.aload_n 0, 1) := by decide +kernel
theorem dX1_add_54 : decode cX1_add 54 = .ok (.getfield 24, 3) := by decide +kernel
theorem dX1_add_57 : decode cX1_add 57 = .ok (.aload_n 0, 1) := by decide +kernel
theorem dX1_add_58 : decode cX1_add 58 = .ok (.getfield 34, 3) := by decide +kernel
theorem dX1_add_61 : decode cX1_add 61 = .ok (.iload 5, 2) := by decide +kernel
theorem dX1_add_63 : decode cX1_add 63 = .ok (.iastore, 1) := by decide +kernel
theorem dX1_add_64 : decode cX1_add 64 = .ok (.aload_n 0, 1) := by decide +kernel
theorem dX1_add_65 : decode cX1_add 65 = .ok (.dup, 1) := by decide +kernel
theorem dX1_add_66 : decode cX1_add 66 = .ok (.getfield 34, 3) := by decide +kernel
theorem dX1_add_69 : decode cX1_add 69 = .ok (.dup_x1, 1) := by decide +kernel
theorem dX1_add_70 : decode cX1_add 70 = .ok (.iconst 1, 1) := by decide +kernel
theorem dX1_add_71 : decode cX1_add 71 = .ok (.iadd, 1) := by decide +kernel
theorem dX1_add_72 : decode cX1_add 72 = .ok (.putfield 34, 3) := by decide +kernel
theorem dX1_add_75 : decode cX1_add 75 = .ok (.ireturn, 1) := by decide +kernel
abbrev rm_X1_add : Room := { frames := 0, cells := 0, slots := 0, locals := 0 }
set_option maxRecDepth 100000 in
set_option maxHeartbeats 4000000 in
theorem ct_X1_add {w : Wd} {l : Launch} {a1 : Int} {a2 : Int} {a3 : Int} {a4 : Int} {a5 : Int} {σ : St} {y : Int} {σ' : St} (ia1 : InI a1) (ia2 : InI a2) (ia3 : InI a3) (ia4 : InI a4) (ia5 : InI a5) (h : m_X1_add a1 a2 a3 a4 a5 σ = some (y, σ')) : Ct w l yX1_add (Cond.code yX1_add cX1_add 6 (some .int) :: TB) rm_X1_add [rv w 30, iv a1, iv a2, iv a3, iv a4, iv a5] σ (some (iv y)) (InI y) σ' := by
  refine Ct.of2 [some (rv w 30), some (iv a1), some (iv a2), some (iv a3), some (iv a4), some (iv a5)] 0 rfl pn_RX1 (Nat.le_of_ble_eq_true rfl) ?_
  intro p e s m args below meth c C hr hlk
  unfold m_X1_add at h
  refine g_aload_n C dX1_add_0 rfl ?_
  refine g_getI (j := 5) C dX1_add_1 rfl (Nat.le_of_ble_eq_true rfl) (Nat.le_of_ble_eq_true rfl) fl_1_34 rfl rfl (fun i1 => ?_)
  refine g_sipush C dX1_add_4 rfl ?_
  refine g_icmp_lt C dX1_add_7 i1 (by decide) rfl (tgt := 12) (fun c2 => ?_) (fun c2 => ?_)
  · have h := ifT c2 h
    refine g_aload_n C dX1_add_12 rfl ?_
    refine g_getR (j := 0) C dX1_add_13 rfl (Nat.le_of_ble_eq_true rfl) (Nat.le_of_ble_eq_true rfl) fl_1_9 rfl rfl (r := 31) rfl ?_
    refine g_aload_n C dX1_add_16 rfl ?_
    refine g_getI (j := 5) C dX1_add_17 rfl (Nat.le_of_ble_eq_true rfl) (Nat.le_of_ble_eq_true rfl) fl_1_34 rfl rfl (fun i3 => ?_)
    refine g_iload_n C dX1_add_20 rfl ?_
    obtain ⟨σ4, qσ4, h⟩ := bnd h
    refine g_iast C dX1_add_21 rfl rfl qσ4 i3 ia1 ?_
    refine g_aload_n C dX1_add_22 rfl ?_
    refine g_getR (j := 1) C dX1_add_23 rfl (Nat.le_of_ble_eq_true rfl) (Nat.le_of_ble_eq_true rfl) fl_1_15 rfl rfl (r := 32) rfl ?_
    refine g_aload_n C dX1_add_26 rfl ?_
    refine g_getI (j := 5) C dX1_add_27 rfl (Nat.le_of_ble_eq_true rfl) (Nat.le_of_ble_eq_true rfl) fl_1_34 rfl rfl (fun i5 => ?_)
    refine g_iload_n C dX1_add_30 rfl ?_
    obtain ⟨σ6, qσ6, h⟩ := bnd h
    refine g_iast C dX1_add_31 rfl rfl qσ6 i5 ia2 ?_
    refine g_aload_n C dX1_add_32 rfl ?_
    refine g_getR (j := 2) C dX1_add_33 rfl (Nat.le_of_ble_eq_true rfl) (Nat.le_of_ble_eq_true rfl) fl_1_18 rfl rfl (r := 33) rfl ?_
    refine g_aload_n C dX1_add_36 rfl ?_
    refine g_getI (j := 5) C dX1_add_37 rfl (Nat.le_of_ble_eq_true rfl) (Nat.le_of_ble_eq_true rfl) fl_1_34 rfl rfl (fun i7 => ?_)
    refine g_iload_n C dX1_add_40 rfl ?_
    obtain ⟨σ8, qσ8, h⟩ := bnd h
    refine g_iast C dX1_add_41 rfl rfl qσ8 i7 ia3 ?_
    refine g_aload_n C dX1_add_42 rfl ?_
    refine g_getR (j := 3) C dX1_add_43 rfl (Nat.le_of_ble_eq_true rfl) (Nat.le_of_ble_eq_true rfl) fl_1_21 rfl rfl (r := 34) rfl ?_
    refine g_aload_n C dX1_add_46 rfl ?_
    refine g_getI (j := 5) C dX1_add_47 rfl (Nat.le_of_ble_eq_true rfl) (Nat.le_of_ble_eq_true rfl) fl_1_34 rfl rfl (fun i9 => ?_)
    refine g_iload C dX1_add_50 rfl ?_
    obtain ⟨σ10, qσ10, h⟩ := bnd h
    refine g_iast C dX1_add_52 rfl rfl qσ10 i9 ia4 ?_
    refine g_aload_n C dX1_add_53 rfl ?_
    refine g_getR (j := 4) C dX1_add_54 rfl (Nat.le_of_ble_eq_true rfl) (Nat.le_of_ble_eq_true rfl) fl_1_24 rfl rfl (r := 35) rfl ?_
    refine g_aload_n C dX1_add_57 rfl ?_
    refine g_getI (j := 5) C dX1_add_58 rfl (Nat.le_of_ble_eq_true rfl) (Nat.le_of_ble_eq_true rfl) fl_1_34 rfl rfl (fun i11 => ?_)
    refine g_iload C dX1_add_61 rfl ?_
    obtain ⟨σ12, qσ12, h⟩ := bnd h
    refine g_iast C dX1_add_63 rfl rfl qσ12 i11 ia5 ?_
    refine g_aload_n C dX1_add_64 rfl ?_
    refine g_dup C dX1_add_65 rfl ?_
    refine g_getI (j := 5) C dX1_add_66 rfl (Nat.le_of_ble_eq_true rfl) (Nat.le_of_ble_eq_true rfl) fl_1_34 rfl rfl (fun i13 => ?_)
    refine g_dup_x1 C dX1_add_69 rfl rfl ?_
    refine g_iconst C dX1_add_70 ?_
    refine g_iadd C dX1_add_71 ?_
    obtain ⟨σ14, qσ14, h⟩ := bnd h
    refine g_putI (j := 5) C dX1_add_72 rfl (Nat.le_of_ble_eq_true rfl) (Nat.le_of_ble_eq_true rfl) fl_1_34 rfl rfl rfl rfl qσ14 (iwr _) ?_
    exact g_iretP C dX1_add_75 hr hlk h i13
  · have h := ifF c2 h
    refine g_iconst C dX1_add_10 ?_
    exact g_iretP C dX1_add_11 hr hlk h (by decide)
theorem dX1_isFactOf_0 : decode cX1_isFactOf 0 = .ok (.iload_n 1, 1) := by decide +kernel
theorem dX1_isFactOf_1 : decode cX1_isFactOf 1 = .ok (.ifCond .lt 27, 3) := by decide +kernel
theorem dX1_isFactOf_4 : decode cX1_isFactOf 4 = .ok (.iload_n 1, 1) := by decide +kernel
theorem dX1_isFactOf_5 : decode cX1_isFactOf 5 = .ok (.iload_n 2, 1) := by decide +kernel
theorem dX1_isFactOf_6 : decode cX1_isFactOf 6 = .ok (.if_icmp .ge 22, 3) := by decide +kernel
theorem dX1_isFactOf_9 : decode cX1_isFactOf 9 = .ok (.iload_n 1, 1) := by decide +kernel
theorem dX1_isFactOf_10 : decode cX1_isFactOf 10 = .ok (.aload_n 0, 1) := by decide +kernel
theorem dX1_isFactOf_11 : decode cX1_isFactOf 11 = .ok (.getfield 34, 3) := by decide +kernel
theorem dX1_isFactOf_14 : decode cX1_isFactOf 14 = .ok (.if_icmp .ge 14, 3) := by decide +kernel
theorem dX1_isFactOf_17 : decode cX1_isFactOf 17 = .ok (.iload_n 1, 1) := by decide +kernel
theorem dX1_isFactOf_18 : decode cX1_isFactOf 18 = .ok (.sipush 150, 3) := by decide +kernel
theorem dX1_isFactOf_21 : decode cX1_isFactOf 21 = .ok (.if_icmp .ge 7, 3) := by decide +kernel
theorem dX1_isFactOf_24 : decode cX1_isFactOf 24 = .ok (.iconst 1, 1) := by decide +kernel
theorem dX1_isFactOf_25 : decode cX1_isFactOf 25 = .ok (.goto 4, 3) := by decide +kernel
theorem dX1_isFactOf_28 : decode cX1_isFactOf 28 = .ok (.iconst 0, 1) := by decide +kernel
theorem dX1_isFactOf_29 : decode cX1_isFactOf 29 = .ok (.ireturn, 1) := by decide +kernel
abbrev rm_X1_isFactOf : Room := { frames := 0, cells := 0, slots := 0, locals := 0 }
set_option maxRecDepth 100000 in
set_option maxHeartbeats 4000000 in
theorem ct_X1_isFactOf {w : Wd} {l : Launch} {a1 : Int} {a2 : Int} {σ : St} {y : Int} (ia1 : InI a1) (ia2 : InI a2) (h : m_X1_isFactOf a1 a2 σ = some y) : Ct w l yX1_isFactOf (Cond.code yX1_isFactOf cX1_isFactOf 3 (some .boolean) :: TB) rm_X1_isFactOf [rv w 30, iv a1, iv a2] σ (some (iv y)) (InZ y) σ := by
  refine Ct.of2 [some (rv w 30), some (iv a1), some (iv a2)] 0 rfl pn_RX1 (Nat.le_of_ble_eq_true rfl) ?_
  intro p e s m args below meth c C hr hlk
  unfold m_X1_isFactOf at h
  refine g_iload_n C dX1_isFactOf_0 rfl ?_
  refine g_if_lt C dX1_isFactOf_1 ia1 rfl (tgt := 28) (fun c1 => ?_) (fun c1 => ?_)
  · have h := ifT c1 h
    refine g_iconst C dX1_isFactOf_28 ?_
    exact g_zretU C dX1_isFactOf_29 hr hlk h (Or.inl rfl)
  · have h := ifF c1 h
    refine g_iload_n C dX1_isFactOf_4 rfl ?_
    refine g_iload_n C dX1_isFactOf_5 rfl ?_
    refine g_icmp_ge C dX1_isFactOf_6 ia1 ia2 rfl (tgt := 28) (fun c2 => ?_) (fun c2 => ?_)
    · have h := ifT c2 h
      refine g_iconst C dX1_isFactOf_28 ?_
      exact g_zretU C dX1_isFactOf_29 hr hlk h (Or.inl rfl)
    · have h := ifF c2 h
      refine g_iload_n C dX1_isFactOf_9 rfl ?_
      refine g_aload_n C dX1_isFactOf_10 rfl ?_
      refine g_getI (j := 5) C dX1_isFactOf_11 rfl (Nat.le_of_ble_eq_true rfl) (Nat.le_of_ble_eq_true rfl) fl_1_34 rfl rfl (fun i3 => ?_)
      refine g_icmp_ge C dX1_isFactOf_14 ia1 i3 rfl (tgt := 28) (fun c4 => ?_) (fun c4 => ?_)
      · have h := ifT c4 h
        refine g_iconst C dX1_isFactOf_28 ?_
        exact g_zretU C dX1_isFactOf_29 hr hlk h (Or.inl rfl)
      · have h := ifF c4 h
        refine g_iload_n C dX1_isFactOf_17 rfl ?_
        refine g_sipush C dX1_isFactOf_18 rfl ?_
        refine g_icmp_ge C dX1_isFactOf_21 ia1 (by decide) rfl (tgt := 28) (fun c5 => ?_) (fun c5 => ?_)
        · have h := ifT c5 h
          refine g_iconst C dX1_isFactOf_28 ?_
          exact g_zretU C dX1_isFactOf_29 hr hlk h (Or.inl rfl)
        · have h := ifF c5 h
          refine g_iconst C dX1_isFactOf_24 ?_
          refine g_goto C dX1_isFactOf_25 rfl (tgt := 29) ?_
          exact g_zretU C dX1_isFactOf_29 hr hlk h (Or.inr rfl)
theorem dX1_holds_0 : decode cX1_holds 0 = .ok (.aload_n 0, 1) := by decide +kernel
theorem dX1_holds_1 : decode cX1_holds 1 = .ok (.iload_n 1, 1) := by decide +kernel
theorem dX1_holds_2 : decode cX1_holds 2 = .ok (.aload_n 0, 1) := by decide +kernel
theorem dX1_holds_3 : decode cX1_holds 3 = .ok (.getfield 44, 3) := by decide +kernel
theorem dX1_holds_6 : decode cX1_holds 6 = .ok (.invokevirtual 47, 3) := by decide +kernel
theorem dX1_holds_9 : decode cX1_holds 9 = .ok (.ifCond .eq 26, 3) := by decide +kernel
theorem dX1_holds_12 : decode cX1_holds 12 = .ok (.aload_n 0, 1) := by decide +kernel
theorem dX1_holds_13 : decode cX1_holds 13 = .ok (.getfield 9, 3) := by decide +kernel
theorem dX1_holds_16 : decode cX1_holds 16 = .ok (.iload_n 1, 1) := by decide +kernel
theorem dX1_holds_17 : decode cX1_holds 17 = .ok (.iaload, 1) := by decide +kernel
theorem dX1_holds_18 : decode cX1_holds 18 = .ok (.iload_n 2, 1) := by decide +kernel
theorem dX1_holds_19 : decode cX1_holds 19 = .ok (.if_icmp .ne 16, 3) := by decide +kernel
theorem dX1_holds_22 : decode cX1_holds 22 = .ok (.aload_n 0, 1) := by decide +kernel
theorem dX1_holds_23 : decode cX1_holds 23 = .ok (.getfield 27, 3) := by decide +kernel
theorem dX1_holds_26 : decode cX1_holds 26 = .ok (.iload_n 1, 1) := by decide +kernel
theorem dX1_holds_27 : decode cX1_holds 27 = .ok (.baload, 1) := by decide +kernel
theorem dX1_holds_28 : decode cX1_holds 28 = .ok (.ifCond .ne 7, 3) := by decide +kernel
theorem dX1_holds_31 : decode cX1_holds 31 = .ok (.iconst 1, 1) := by decide +kernel
theorem dX1_holds_32 : decode cX1_holds 32 = .ok (.goto 4, 3) := by decide +kernel
theorem dX1_holds_35 : decode cX1_holds 35 = .ok (.iconst 0, 1) := by decide +kernel
theorem dX1_holds_36 : decode cX1_holds 36 = .ok (.ireturn, 1) := by decide +kernel
abbrev rm_X1_holds : Room := { frames := 1, cells := 0, slots := 0, locals := 22 }
set_option maxRecDepth 100000 in
set_option maxHeartbeats 4000000 in
theorem ct_X1_holds {w : Wd} {l : Launch} {a1 : Int} {a2 : Int} {σ : St} {y : Int} (ia1 : InI a1) (ia2 : InI a2) (h : m_X1_holds a1 a2 σ = some y) : Ct w l yX1_holds (Cond.code yX1_holds cX1_holds 3 (some .boolean) :: TB) rm_X1_holds [rv w 30, iv a1, iv a2] σ (some (iv y)) (InZ y) σ := by
  refine Ct.of2 [some (rv w 30), some (iv a1), some (iv a2)] 0 rfl pn_RX1 (Nat.le_of_ble_eq_true rfl) ?_
  intro p e s m args below meth c C hr hlk
  unfold m_X1_holds at h
  refine g_aload_n C dX1_holds_0 rfl ?_
  refine g_iload_n C dX1_holds_1 rfl ?_
  refine g_aload_n C dX1_holds_2 rfl ?_
  refine g_getI (j := 6) C dX1_holds_3 rfl (Nat.le_of_ble_eq_true rfl) (Nat.le_of_ble_eq_true rfl) fl_1_44 rfl rfl (fun i1 => ?_)
  obtain ⟨x2, qx2, h⟩ := bnd h
  refine g_callV1 (As := [iv a1, iv (σ 30 6)]) C dX1_holds_6 mi_X1_isFactOf ml_1_47 (ct_X1_isFactOf ia1 i1 qx2) rfl rfl ⟨rfl, rfl⟩ ⟨Nat.le_of_ble_eq_true rfl, Nat.le_of_ble_eq_true rfl⟩ ⟨Nat.zero_le _, Nat.zero_le _⟩ rfl (Nat.le_of_ble_eq_true rfl) (fun ix2 => ?_)
  refine g_if_eq C dX1_holds_9 (zI ix2) rfl (tgt := 35) (fun c3 => ?_) (fun c3 => ?_)
  · have h := ifT c3 h
    refine g_iconst C dX1_holds_35 ?_
    exact g_zretU C dX1_holds_36 hr hlk h (Or.inl rfl)
  · have h := ifF c3 h
    refine g_aload_n C dX1_holds_12 rfl ?_
    refine g_getR (j := 0) C dX1_holds_13 rfl (Nat.le_of_ble_eq_true rfl) (Nat.le_of_ble_eq_true rfl) fl_1_9 rfl rfl (r := 31) rfl ?_
    refine g_iload_n C dX1_holds_16 rfl ?_
    obtain ⟨x4, qx4, h⟩ := bnd h
    refine g_iald C dX1_holds_17 rfl rfl qx4 ia1 (fun ix4 => ?_)
    refine g_iload_n C dX1_holds_18 rfl ?_
    refine g_icmp_ne C dX1_holds_19 ix4 ia2 rfl (tgt := 35) (fun c5 => ?_) (fun c5 => ?_)
    · have h := ifF c5 h
      refine g_iconst C dX1_holds_35 ?_
      exact g_zretU C dX1_holds_36 hr hlk h (Or.inl rfl)
    · have h := ifT c5 h
      refine g_aload_n C dX1_holds_22 rfl ?_
      refine g_getR (j := 7) C dX1_holds_23 rfl (Nat.le_of_ble_eq_true rfl) (Nat.le_of_ble_eq_true rfl) fl_1_27 rfl rfl (r := 36) rfl ?_
      refine g_iload_n C dX1_holds_26 rfl ?_
      obtain ⟨x6, qx6, h⟩ := bnd h
      refine g_zald C dX1_holds_27 rfl rfl qx6 ia1 (fun ix6 => ?_)
      refine g_if_ne C dX1_holds_28 (zI ix6) rfl (tgt := 35) (fun c7 => ?_) (fun c7 => ?_)
      · have h := ifF c7 h
        refine g_iconst C dX1_holds_35 ?_
        exact g_zretU C dX1_holds_36 hr hlk h (Or.inl rfl)
      · have h := ifT c7 h
        refine g_iconst C dX1_holds_31 ?_
        refine g_goto C dX1_holds_32 rfl (tgt := 36) ?_
        exact g_zretU C dX1_holds_36 hr hlk h (Or.inr rfl)
theorem dX1_watch_0 : decode cX1_watch 0 = .ok (.aload_n 0, 1) := by decide +kernel
theorem dX1_watch_1 : decode cX1_watch 1 = .ok (.getfield 21, 3) := by decide +kernel
theorem dX1_watch_4 : decode cX1_watch 4 = .ok (.iload_n 1, 1) := by decide +kernel
theorem dX1_watch_5 : decode cX1_watch 5 = .ok (.iaload, 1) := by decide +kernel
theorem dX1_watch_6 : decode cX1_watch 6 = .ok (.iconst 0, 1) := by decide +kernel
theorem dX1_watch_7 : decode cX1_watch 7 = .ok (.invokestatic 58, 3) := by decide +kernel
theorem dX1_watch_10 : decode cX1_watch 10 = .ok (.istore_n 2, 1) := by decide +kernel
theorem dX1_watch_11 : decode cX1_watch 11 = .ok (.iload_n 2, 1) := by decide +kernel
theorem dX1_watch_12 : decode cX1_watch 12 = .ok (.aload_n 0, 1) := by decide +kernel
theorem dX1_watch_13 : decode cX1_watch 13 = .ok (.getfield 24, 3) := by decide +kernel
theorem dX1_watch_16 : decode cX1_watch 16 = .ok (.iload_n 1, 1) := by decide +kernel
theorem dX1_watch_17 : decode cX1_watch 17 = .ok (.iaload, 1) := by decide +kernel
theorem dX1_watch_18 : decode cX1_watch 18 = .ok (.if_icmp .ge 32, 3) := by decide +kernel
theorem dX1_watch_21 : decode cX1_watch 21 = .ok (.iload_n 2, 1) := by decide +kernel
theorem dX1_watch_22 : decode cX1_watch 22 = .ok (.bipush 96, 2) := by decide +kernel
theorem dX1_watch_24 : decode cX1_watch 24 = .ok (.if_icmp .ge 26, 3) := by decide +kernel
theorem dX1_watch_27 : decode cX1_watch 27 = .ok (.aload_n 0, 1) := by decide +kernel
theorem dX1_watch_28 : decode cX1_watch 28 = .ok (.getfield 31, 3) := by decide +kernel
theorem dX1_watch_31 : decode cX1_watch 31 = .ok (.iload_n 2, 1) := by decide +kernel
theorem dX1_watch_32 : decode cX1_watch 32 = .ok (.dup2, 1) := by decide +kernel
theorem dX1_watch_33 : decode cX1_watch 33 = .ok (.iaload, 1) := by decide +kernel
theorem dX1_watch_34 : decode cX1_watch 34 = .ok (.iconst 1, 1) := by decide +kernel
theorem dX1_watch_35 : decode cX1_watch 35 = .ok (.aload_n 0, 1) := by decide +kernel
theorem dX1_watch_36 : decode cX1_watch 36 = .ok (.getfield 18, 3) := by decide +kernel
theorem dX1_watch_39 : decode cX1_watch 39 = .ok (.iload_n 1, 1) := by decide +kernel
theorem dX1_watch_40 : decode cX1_watch 40 = .ok (.iaload, 1) := by decide +kernel
theorem dX1_watch_41 : decode cX1_watch 41 = .ok (.ishl, 1) := by decide +kernel
theorem dX1_watch_42 : decode cX1_watch 42 = .ok (.ior, 1) := by decide +kernel
theorem dX1_watch_43 : decode cX1_watch 43 = .ok (.iastore, 1) := by decide +kernel
theorem dX1_watch_44 : decode cX1_watch 44 = .ok (.iinc 2 1, 3) := by decide +kernel
theorem dX1_watch_47 : decode cX1_watch 47 = .ok (.goto (-36), 3) := by decide +kernel
theorem dX1_watch_50 : decode cX1_watch 50 = .ok (.return_, 1) := by decide +kernel
abbrev rm_X1_watch : Room := { frames := 1, cells := 0, slots := 0, locals := 21 }
set_option maxRecDepth 100000 in
set_option maxHeartbeats 4000000 in
theorem ct_X1_watch {w : Wd} {l : Launch} {a1 : Int} {σ : St} {σ' : St} (ia1 : InI a1) (h : m_X1_watch a1 σ = some σ') : Ct w l yX1_watch (Cond.code yX1_watch cX1_watch 3 none :: TB) rm_X1_watch [rv w 30, iv a1] σ none True σ' := by
  refine Ct.of2 [some (rv w 30), some (iv a1), none] 1 rfl pn_RX1 (Nat.le_of_ble_eq_true rfl) ?_
  intro p e s m args below meth c C hr hlk
  unfold m_X1_watch at h
  refine g_aload_n C dX1_watch_0 rfl ?_
  refine g_getR (j := 3) C dX1_watch_1 rfl (Nat.le_of_ble_eq_true rfl) (Nat.le_of_ble_eq_true rfl) fl_1_21 rfl rfl (r := 34) rfl ?_
  refine g_iload_n C dX1_watch_4 rfl ?_
  obtain ⟨x1, qx1, h⟩ := bnd h
  refine g_iald C dX1_watch_5 rfl rfl qx1 ia1 (fun ix1 => ?_)
  refine g_iconst C dX1_watch_6 ?_
  refine g_mmax C dX1_watch_7 ix1 (by decide) ml_1_58 ⟨Nat.le_of_ble_eq_true rfl, Nat.le_of_ble_eq_true rfl⟩ ⟨Nat.zero_le _, Nat.zero_le _⟩ ?_
  obtain ⟨x2, qx2, h⟩ := bnd h
  have qx2 := Option.some.inj qx2
  have ix2 : InI x2 := by rw [← qx2]; exact (imax ix1 (by decide))
  refine g_E qx2 ?_
  refine g_istore_n (L1 := [some (rv w 30), some (iv a1), some (iv x2)]) C dX1_watch_10 rfl (Nat.le_of_ble_eq_true rfl) rfl ?_
  obtain ⟨b3, hb3, hF3⟩ := bnd h
  have hX3 : ∀ (σ12 : St) , σ12 = b3 → GM w p l e rm_X1_watch s m args below meth c none True σ' 3 50 [none, none, none] [] σ12 := by
    intro σ12 q
    subst q
    have h := hF3
    exact g_vretP C dX1_watch_50 hr hlk h
  have hL3 : ∀ (n : Nat) (x4 : Int) (σ5 : St) , InI x4 → lpN (fun a => m_X1_watch_L11 a1 a.1 a.2) n (x4, σ5) = some b3 → GM w p l e rm_X1_watch s m args below meth c none True σ' 3 11 [some (rv w 30), some (iv a1), some (iv x4)] [] σ5 := by
    intro n
    induction n with
    | zero => intro x4 σ5 ix4 q; cases q
    | succ n ih3 =>
      intro x4 σ5 ix4 q
      obtain ⟨o3, h, hk3⟩ := lp_step q
      replace h : m_X1_watch_L11 a1 x4 σ5 = some o3 := h
      unfold m_X1_watch_L11 at h
      refine g_iload_n C dX1_watch_11 rfl ?_
      refine g_aload_n C dX1_watch_12 rfl ?_
      refine g_getR (j := 4) C dX1_watch_13 rfl (Nat.le_of_ble_eq_true rfl) (Nat.le_of_ble_eq_true rfl) fl_1_24 rfl rfl (r := 35) rfl ?_
      refine g_iload_n C dX1_watch_16 rfl ?_
      obtain ⟨x6, qx6, h⟩ := bnd h
      refine g_iald C dX1_watch_17 rfl rfl qx6 ia1 (fun ix6 => ?_)
      refine g_icmp_ge C dX1_watch_18 ix4 ix6 rfl (tgt := 50) (fun c7 => ?_) (fun c7 => ?_)
      · have h := ifT c7 h
        refine g_mask [false, false, false] ?_
        obtain rfl := Option.some.inj h
        exact hX3 σ5 (lpR hk3).symm
      · have h := ifF c7 h
        refine g_iload_n C dX1_watch_21 rfl ?_
        refine g_bipush C dX1_watch_22 rfl ?_
        refine g_icmp_ge C dX1_watch_24 ix4 (by decide) rfl (tgt := 50) (fun c8 => ?_) (fun c8 => ?_)
        · have h := ifT c8 h
          refine g_mask [false, false, false] ?_
          obtain rfl := Option.some.inj h
          exact hX3 σ5 (lpR hk3).symm
        · have h := ifF c8 h
          refine g_aload_n C dX1_watch_27 rfl ?_
          refine g_getR (j := 8) C dX1_watch_28 rfl (Nat.le_of_ble_eq_true rfl) (Nat.le_of_ble_eq_true rfl) fl_1_31 rfl rfl (r := 37) rfl ?_
          refine g_iload_n C dX1_watch_31 rfl ?_
          refine g_dup2 C dX1_watch_32 rfl rfl ?_
          obtain ⟨x9, qx9, h⟩ := bnd h
          refine g_iald C dX1_watch_33 rfl rfl qx9 ix4 (fun ix9 => ?_)
          refine g_iconst C dX1_watch_34 ?_
          refine g_aload_n C dX1_watch_35 rfl ?_
          refine g_getR (j := 2) C dX1_watch_36 rfl (Nat.le_of_ble_eq_true rfl) (Nat.le_of_ble_eq_true rfl) fl_1_18 rfl rfl (r := 33) rfl ?_
          refine g_iload_n C dX1_watch_39 rfl ?_
          obtain ⟨x10, qx10, h⟩ := bnd h
          refine g_iald C dX1_watch_40 rfl rfl qx10 ia1 (fun ix10 => ?_)
          refine g_ishl C dX1_watch_41 ?_
          refine g_ior C dX1_watch_42 ?_
          obtain ⟨σ11, qσ11, h⟩ := bnd h
          refine g_iast C dX1_watch_43 rfl rfl qσ11 ix4 (ior _ _) ?_
          refine g_iinc (L1 := [some (rv w 30), some (iv a1), some (iv (wr (x4 + 1)))]) C dX1_watch_44 rfl rfl (Nat.le_of_ble_eq_true rfl) rfl ?_
          refine g_goto C dX1_watch_47 rfl (tgt := 11) ?_
          obtain rfl := Option.some.inj h
          exact ih3 _ _ (iwr _) (lpL hk3)
  exact hL3 FU _ _ ix2 hb3
theorem dX1_look_0 : decode cX1_look 0 = .ok (.aload_n 0, 1) := by decide +kernel
theorem dX1_look_1 : decode cX1_look 1 = .ok (.iload_n 1, 1) := by decide +kernel
theorem dX1_look_2 : decode cX1_look 2 = .ok (.aload_n 0, 1) := by decide +kernel
theorem dX1_look_3 : decode cX1_look 3 = .ok (.getfield 34, 3) := by decide +kernel
theorem dX1_look_6 : decode cX1_look 6 = .ok (.invokestatic 38, 3) := by decide +kernel
theorem dX1_look_9 : decode cX1_look 9 = .ok (.putfield 44, 3) := by decide +kernel
theorem dX1_look_12 : decode cX1_look 12 = .ok (.iconst 0, 1) := by decide +kernel
theorem dX1_look_13 : decode cX1_look 13 = .ok (.istore_n 2, 1) := by decide +kernel
theorem dX1_look_14 : decode cX1_look 14 = .ok (.iload_n 2, 1) := by decide +kernel
theorem dX1_look_15 : decode cX1_look 15 = .ok (.sipush 150, 3) := by decide +kernel
theorem dX1_look_18 : decode cX1_look 18 = .ok (.if_icmp .ge 16, 3) := by decide +kernel
theorem dX1_look_21 : decode cX1_look 21 = .ok (.aload_n 0, 1) := by decide +kernel
theorem dX1_look_22 : decode cX1_look 22 = .ok (.getfield 27, 3) := by decide +kernel
theorem dX1_look_25 : decode cX1_look 25 = .ok (.iload_n 2, 1) := by decide +kernel
theorem dX1_look_26 : decode cX1_look 26 = .ok (.iconst 0, 1) := by decide +kernel
theorem dX1_look_27 : decode cX1_look 27 = .ok (.bastore, 1) := by decide +kernel
theorem dX1_look_28 : decode cX1_look 28 = .ok (.iinc 2 1, 3) := by decide +kernel
theorem dX1_look_31 : decode cX1_look 31 = .ok (.goto (-17), 3) := by decide +kernel
theorem dX1_look_34 : decode cX1_look 34 = .ok (.iconst 0, 1) := by decide +kernel
theorem dX1_look_35 : decode cX1_look 35 = .ok (.istore_n 2, 1) := by decide +kernel
theorem dX1_look_36 : decode cX1_look 36 = .ok (.iload_n 2, 1) := by decide +kernel
theorem dX1_look_37 : decode cX1_look 37 = .ok (.aload_n 0, 1) := by decide +kernel
theorem dX1_look_38 : decode cX1_look 38 = .ok (.getfield 44, 3) := by decide +kernel
theorem dX1_look_41 : decode cX1_look 41 = .ok (.if_icmp .ge 48, 3) := by decide +kernel
theorem dX1_look_44 : decode cX1_look 44 = .ok (.aload_n 0, 1) := by decide +kernel
theorem dX1_look_45 : decode cX1_look 45 = .ok (.getfield 9, 3) := by decide +kernel
theorem dX1_look_48 : decode cX1_look 48 = .ok (.iload_n 2, 1) := by decide +kernel
theorem dX1_look_49 : decode cX1_look 49 = .ok (.iaload, 1) := by decide +kernel
theorem dX1_look_50 : decode cX1_look 50 = .ok (.iconst 3, 1) := by decide +kernel
theorem dX1_look_51 : decode cX1_look 51 = .ok (.if_icmp .ne 32, 3) := by decide +kernel
theorem dX1_look_54 : decode cX1_look 54 = .ok (.aload_n 0, 1) := by decide +kernel
theorem dX1_look_55 : decode cX1_look 55 = .ok (.aload_n 0, 1) := by decide +kernel
theorem dX1_look_56 : decode cX1_look 56 = .ok (.getfield 15, 3) := by decide +kernel
theorem dX1_look_59 : decode cX1_look 59 = .ok (.iload_n 2, 1) := by decide +kernel
theorem dX1_look_60 : decode cX1_look 60 = .ok (.iaload, 1) := by decide +kernel
theorem dX1_look_61 : decode cX1_look 61 = .ok (.aload_n 0, 1) := by decide +kernel
theorem dX1_look_62 : decode cX1_look 62 = .ok (.getfield 44, 3) := by decide +kernel
theorem dX1_look_65 : decode cX1_look 65 = .ok (.invokevirtual 47, 3) := by decide +kernel
theorem dX1_look_68 : decode cX1_look 68 = .ok (.ifCond .eq 15, 3) := by decide +kernel
theorem dX1_look_71 : decode cX1_look 71 = .ok (.aload_n 0, 1) := by decide +kernel
theorem dX1_look_72 : decode cX1_look 72 = .ok (.getfield 27, 3) := by decide +kernel
theorem dX1_look_75 : decode cX1_look 75 = .ok (.aload_n 0, 1) := by decide +kernel
theorem dX1_look_76 : decode cX1_look 76 = .ok (.getfield 15, 3) := by decide +kernel
theorem dX1_look_79 : decode cX1_look 79 = .ok (.iload_n 2, 1) := by decide +kernel
theorem dX1_look_80 : decode cX1_look 80 = .ok (.iaload, 1) := by decide +kernel
theorem dX1_look_81 : decode cX1_look 81 = .ok (.iconst 1, 1) := by decide +kernel
theorem dX1_look_82 : decode cX1_look 82 = .ok (.bastore, 1) := by decide +kernel
theorem dX1_look_83 : decode cX1_look 83 = .ok (.iinc 2 1, 3) := by decide +kernel
theorem dX1_look_86 : decode cX1_look 86 = .ok (.goto (-50), 3) := by decide +kernel
theorem dX1_look_89 : decode cX1_look 89 = .ok (.iconst 0, 1) := by decide +kernel
theorem dX1_look_90 : decode cX1_look 90 = .ok (.istore_n 2, 1) := by decide +kernel
theorem dX1_look_91 : decode cX1_look 91 = .ok (.iload_n 2, 1) := by decide +kernel
theorem dX1_look_92 : decode cX1_look 92 = .ok (.bipush 96, 2) := by decide +kernel
theorem dX1_look_94 : decode cX1_look 94 = .ok (.if_icmp .ge 16, 3) := by decide +kernel
theorem dX1_look_97 : decode cX1_look 97 = .ok (.aload_n 0, 1) := by decide +kernel
theorem dX1_look_98 : decode cX1_look 98 = .ok (.getfield 31, 3) := by decide +kernel
theorem dX1_look_101 : decode cX1_look 101 = .ok (.iload_n 2, 1) := by decide +kernel
theorem dX1_look_102 : decode cX1_look 102 = .ok (.iconst 0, 1) := by decide +kernel
theorem dX1_look_103 : decode cX1_look 103 = .ok (.iastore, 1) := by decide +kernel
theorem dX1_look_104 : decode cX1_look 104 = .ok (.iinc 2 1, 3) := by decide +kernel
theorem dX1_look_107 : decode cX1_look 107 = .ok (.goto (-16), 3) := by decide +kernel
theorem dX1_look_110 : decode cX1_look 110 = .ok (.iconst 0, 1) := by decide +kernel
theorem dX1_look_111 : decode cX1_look 111 = .ok (.istore_n 2, 1) := by decide +kernel
theorem dX1_look_112 : decode cX1_look 112 = .ok (.iload_n 2, 1) := by decide +kernel
theorem dX1_look_113 : decode cX1_look 113 = .ok (.aload_n 0, 1) := by decide +kernel
theorem dX1_look_114 : decode cX1_look 114 = .ok (.getfield 44, 3) := by decide +kernel
theorem dX1_look_117 : decode cX1_look 117 = .ok (.if_icmp .ge 23, 3) := by decide +kernel
theorem dX1_look_120 : decode cX1_look 120 = .ok (.aload_n 0, 1) := by decide +kernel
theorem dX1_look_121 : decode cX1_look 121 = .ok (.iload_n 2, 1) := by decide +kernel
theorem dX1_look_122 : decode cX1_look 122 = .ok (.iconst 0, 1) := by decide +kernel
theorem dX1_look_123 : decode cX1_look 123 = .ok (.invokevirtual 51, 3) := by decide +kernel
theorem dX1_look_126 : decode cX1_look 126 = .ok (.ifCond .eq 8, 3) := by decide +kernel
theorem dX1_look_129 : decode cX1_look 129 = .ok (.aload_n 0, 1) := by decide +kernel
theorem dX1_look_130 : decode cX1_look 130 = .ok (.iload_n 2, 1) := by decide +kernel
theorem dX1_look_131 : decode cX1_look 131 = .ok (.invokevirtual 54, 3) := by decide +kernel
theorem dX1_look_134 : decode cX1_look 134 = .ok (.iinc 2 1, 3) := by decide +kernel
theorem dX1_look_137 : decode cX1_look 137 = .ok (.goto (-25), 3) := by decide +kernel
theorem dX1_look_140 : decode cX1_look 140 = .ok (.return_, 1) := by decide +kernel
abbrev rm_X1_look : Room := { frames := 2, cells := 0, slots := 0, locals := 44 }
set_option maxRecDepth 100000 in
set_option maxHeartbeats 4000000 in
theorem ct_X1_look {w : Wd} {l : Launch} {a1 : Int} {σ : St} {σ' : St} (ia1 : InI a1) (h : m_X1_look a1 σ = some σ') : Ct w l yX1_look (Cond.code yX1_look cX1_look 3 none :: TB) rm_X1_look [rv w 30, iv a1] σ none True σ' := by
  refine Ct.of2 [some (rv w 30), some (iv a1), none] 1 rfl pn_RX1 (Nat.le_of_ble_eq_true rfl) ?_
  intro p e s m args below meth c C hr hlk
  unfold m_X1_look at h
  refine g_aload_n C dX1_look_0 rfl ?_
  refine g_iload_n C dX1_look_1 rfl ?_
  refine g_aload_n C dX1_look_2 rfl ?_
  refine g_getI (j := 5) C dX1_look_3 rfl (Nat.le_of_ble_eq_true rfl) (Nat.le_of_ble_eq_true rfl) fl_1_34 rfl rfl (fun i1 => ?_)
  refine g_mmin C dX1_look_6 ia1 i1 ml_1_38 ⟨Nat.le_of_ble_eq_true rfl, Nat.le_of_ble_eq_true rfl⟩ ⟨Nat.zero_le _, Nat.zero_le _⟩ ?_
  obtain ⟨σ2, qσ2, h⟩ := bnd h
  refine g_putI (j := 6) C dX1_look_9 rfl (Nat.le_of_ble_eq_true rfl) (Nat.le_of_ble_eq_true rfl) fl_1_44 rfl rfl rfl rfl qσ2 (imin ia1 i1) ?_
  refine g_iconst C dX1_look_12 ?_
  refine g_istore_n (L1 := [some (rv w 30), some (iv a1), some (iv 0)]) C dX1_look_13 rfl (Nat.le_of_ble_eq_true rfl) rfl ?_
  refine g_mask [true, false, true] ?_
  obtain ⟨b3, hb3, hF3⟩ := bnd h
  have hX3 : ∀ (σ8 : St) , σ8 = b3 → GM w p l e rm_X1_look s m args below meth c none True σ' 3 34 [some (rv w 30), none, none] [] σ8 := by
    intro σ8 q
    subst q
    have h := hF3
    refine g_iconst C dX1_look_34 ?_
    refine g_istore_n (L1 := [some (rv w 30), none, some (iv 0)]) C dX1_look_35 rfl (Nat.le_of_ble_eq_true rfl) rfl ?_
    obtain ⟨b9, hb9, hF9⟩ := bnd h
    have hX9 : ∀ (σ22 : St) , σ22 = b9 → GM w p l e rm_X1_look s m args below meth c none True σ' 3 89 [some (rv w 30), none, none] [] σ22 := by
      intro σ22 q
      subst q
      have h := hF9
      refine g_iconst C dX1_look_89 ?_
      refine g_istore_n (L1 := [some (rv w 30), none, some (iv 0)]) C dX1_look_90 rfl (Nat.le_of_ble_eq_true rfl) rfl ?_
      obtain ⟨b23, hb23, hF23⟩ := bnd h
      have hX23 : ∀ (σ28 : St) , σ28 = b23 → GM w p l e rm_X1_look s m args below meth c none True σ' 3 110 [some (rv w 30), none, none] [] σ28 := by
        intro σ28 q
        subst q
        have h := hF23
        refine g_iconst C dX1_look_110 ?_
        refine g_istore_n (L1 := [some (rv w 30), none, some (iv 0)]) C dX1_look_111 rfl (Nat.le_of_ble_eq_true rfl) rfl ?_
        obtain ⟨b29, hb29, hF29⟩ := bnd h
        have hX29 : ∀ (σ37 : St) , σ37 = b29 → GM w p l e rm_X1_look s m args below meth c none True σ' 3 140 [none, none, none] [] σ37 := by
          intro σ37 q
          subst q
          have h := hF29
          exact g_vretP C dX1_look_140 hr hlk h
        have hL29 : ∀ (n : Nat) (x30 : Int) (σ31 : St) , InI x30 → lpN (fun a => m_X1_look_L112 a.1 a.2) n (x30, σ31) = some b29 → GM w p l e rm_X1_look s m args below meth c none True σ' 3 112 [some (rv w 30), none, some (iv x30)] [] σ31 := by
          intro n
          induction n with
          | zero => intro x30 σ31 ix30 q; cases q
          | succ n ih29 =>
            intro x30 σ31 ix30 q
            obtain ⟨o29, h, hk29⟩ := lp_step q
            replace h : m_X1_look_L112 x30 σ31 = some o29 := h
            unfold m_X1_look_L112 at h
            refine g_iload_n C dX1_look_112 rfl ?_
            refine g_aload_n C dX1_look_113 rfl ?_
            refine g_getI (j := 6) C dX1_look_114 rfl (Nat.le_of_ble_eq_true rfl) (Nat.le_of_ble_eq_true rfl) fl_1_44 rfl rfl (fun i32 => ?_)
            refine g_icmp_ge C dX1_look_117 ix30 i32 rfl (tgt := 140) (fun c33 => ?_) (fun c33 => ?_)
            · have h := ifT c33 h
              refine g_mask [false, true, false] ?_
              obtain rfl := Option.some.inj h
              exact hX29 σ31 (lpR hk29).symm
            · have h := ifF c33 h
              refine g_aload_n C dX1_look_120 rfl ?_
              refine g_iload_n C dX1_look_121 rfl ?_
              refine g_iconst C dX1_look_122 ?_
              obtain ⟨x34, qx34, h⟩ := bnd h
              refine g_callV1 (As := [iv x30, iv 0]) C dX1_look_123 mi_X1_holds ml_1_51 (ct_X1_holds ix30 (by decide) qx34) rfl rfl ⟨rfl, rfl⟩ ⟨Nat.le_of_ble_eq_true rfl, Nat.le_of_ble_eq_true rfl⟩ ⟨Nat.zero_le _, Nat.zero_le _⟩ rfl (Nat.le_of_ble_eq_true rfl) (fun ix34 => ?_)
              refine g_if_eq C dX1_look_126 (zI ix34) rfl (tgt := 134) (fun c35 => ?_) (fun c35 => ?_)
              · have h := ifT c35 h
                refine g_iinc (L1 := [some (rv w 30), none, some (iv (wr (x30 + 1)))]) C dX1_look_134 rfl rfl (Nat.le_of_ble_eq_true rfl) rfl ?_
                refine g_goto C dX1_look_137 rfl (tgt := 112) ?_
                obtain rfl := Option.some.inj h
                exact ih29 _ _ (iwr _) (lpL hk29)
              · have h := ifF c35 h
                refine g_aload_n C dX1_look_129 rfl ?_
                refine g_iload_n C dX1_look_130 rfl ?_
                obtain ⟨σ36, qσ36, h⟩ := bnd h
                refine g_callV0 (As := [iv x30]) C dX1_look_131 mi_X1_watch ml_1_54 (ct_X1_watch ix30 qσ36) rfl rfl ⟨rfl, rfl⟩ ⟨Nat.le_of_ble_eq_true rfl, Nat.le_of_ble_eq_true rfl⟩ ⟨Nat.zero_le _, Nat.zero_le _⟩ rfl (Nat.le_of_ble_eq_true rfl) (fun _ => ?_)
                refine g_iinc (L1 := [some (rv w 30), none, some (iv (wr (x30 + 1)))]) C dX1_look_134 rfl rfl (Nat.le_of_ble_eq_true rfl) rfl ?_
                refine g_goto C dX1_look_137 rfl (tgt := 112) ?_
                obtain rfl := Option.some.inj h
                exact ih29 _ _ (iwr _) (lpL hk29)
        exact hL29 FU _ _ (by decide) hb29
      have hL23 : ∀ (n : Nat) (x24 : Int) (σ25 : St) , InI x24 → lpN (fun a => m_X1_look_L91 a.1 a.2) n (x24, σ25) = some b23 → GM w p l e rm_X1_look s m args below meth c none True σ' 3 91 [some (rv w 30), none, some (iv x24)] [] σ25 := by
        intro n
        induction n with
        | zero => intro x24 σ25 ix24 q; cases q
        | succ n ih23 =>
          intro x24 σ25 ix24 q
          obtain ⟨o23, h, hk23⟩ := lp_step q
          replace h : m_X1_look_L91 x24 σ25 = some o23 := h
          unfold m_X1_look_L91 at h
          refine g_iload_n C dX1_look_91 rfl ?_
          refine g_bipush C dX1_look_92 rfl ?_
          refine g_icmp_ge C dX1_look_94 ix24 (by decide) rfl (tgt := 110) (fun c26 => ?_) (fun c26 => ?_)
          · have h := ifT c26 h
            refine g_mask [true, true, false] ?_
            obtain rfl := Option.some.inj h
            exact hX23 σ25 (lpR hk23).symm
          · have h := ifF c26 h
            refine g_aload_n C dX1_look_97 rfl ?_
            refine g_getR (j := 8) C dX1_look_98 rfl (Nat.le_of_ble_eq_true rfl) (Nat.le_of_ble_eq_true rfl) fl_1_31 rfl rfl (r := 37) rfl ?_
            refine g_iload_n C dX1_look_101 rfl ?_
            refine g_iconst C dX1_look_102 ?_
            obtain ⟨σ27, qσ27, h⟩ := bnd h
            refine g_iast C dX1_look_103 rfl rfl qσ27 ix24 (by decide) ?_
            refine g_iinc (L1 := [some (rv w 30), none, some (iv (wr (x24 + 1)))]) C dX1_look_104 rfl rfl (Nat.le_of_ble_eq_true rfl) rfl ?_
            refine g_goto C dX1_look_107 rfl (tgt := 91) ?_
            obtain rfl := Option.some.inj h
            exact ih23 _ _ (iwr _) (lpL hk23)
      exact hL23 FU _ _ (by decide) hb23
    have hL9 : ∀ (n : Nat) (x10 : Int) (σ11 : St) , InI x10 → lpN (fun a => m_X1_look_L36 a.1 a.2) n (x10, σ11) = some b9 → GM w p l e rm_X1_look s m args below meth c none True σ' 3 36 [some (rv w 30), none, some (iv x10)] [] σ11 := by
      intro n
      induction n with
      | zero => intro x10 σ11 ix10 q; cases q
      | succ n ih9 =>
        intro x10 σ11 ix10 q
        obtain ⟨o9, h, hk9⟩ := lp_step q
        replace h : m_X1_look_L36 x10 σ11 = some o9 := h
        unfold m_X1_look_L36 at h
        refine g_iload_n C dX1_look_36 rfl ?_
        refine g_aload_n C dX1_look_37 rfl ?_
        refine g_getI (j := 6) C dX1_look_38 rfl (Nat.le_of_ble_eq_true rfl) (Nat.le_of_ble_eq_true rfl) fl_1_44 rfl rfl (fun i12 => ?_)
        refine g_icmp_ge C dX1_look_41 ix10 i12 rfl (tgt := 89) (fun c13 => ?_) (fun c13 => ?_)
        · have h := ifT c13 h
          refine g_mask [true, true, false] ?_
          obtain rfl := Option.some.inj h
          exact hX9 σ11 (lpR hk9).symm
        · have h := ifF c13 h
          refine g_aload_n C dX1_look_44 rfl ?_
          refine g_getR (j := 0) C dX1_look_45 rfl (Nat.le_of_ble_eq_true rfl) (Nat.le_of_ble_eq_true rfl) fl_1_9 rfl rfl (r := 31) rfl ?_
          refine g_iload_n C dX1_look_48 rfl ?_
          obtain ⟨x14, qx14, h⟩ := bnd h
          refine g_iald C dX1_look_49 rfl rfl qx14 ix10 (fun ix14 => ?_)
          refine g_iconst C dX1_look_50 ?_
          refine g_icmp_ne C dX1_look_51 ix14 (by decide) rfl (tgt := 83) (fun c15 => ?_) (fun c15 => ?_)
          · have h := ifF c15 h
            refine g_iinc (L1 := [some (rv w 30), none, some (iv (wr (x10 + 1)))]) C dX1_look_83 rfl rfl (Nat.le_of_ble_eq_true rfl) rfl ?_
            refine g_goto C dX1_look_86 rfl (tgt := 36) ?_
            obtain rfl := Option.some.inj h
            exact ih9 _ _ (iwr _) (lpL hk9)
          · have h := ifT c15 h
            refine g_aload_n C dX1_look_54 rfl ?_
            refine g_aload_n C dX1_look_55 rfl ?_
            refine g_getR (j := 1) C dX1_look_56 rfl (Nat.le_of_ble_eq_true rfl) (Nat.le_of_ble_eq_true rfl) fl_1_15 rfl rfl (r := 32) rfl ?_
            refine g_iload_n C dX1_look_59 rfl ?_
            obtain ⟨x16, qx16, h⟩ := bnd h
            refine g_iald C dX1_look_60 rfl rfl qx16 ix10 (fun ix16 => ?_)
            refine g_aload_n C dX1_look_61 rfl ?_
            refine g_getI (j := 6) C dX1_look_62 rfl (Nat.le_of_ble_eq_true rfl) (Nat.le_of_ble_eq_true rfl) fl_1_44 rfl rfl (fun i17 => ?_)
            obtain ⟨x18, qx18, h⟩ := bnd h
            refine g_callV1 (As := [iv x16, iv (σ11 30 6)]) C dX1_look_65 mi_X1_isFactOf ml_1_47 (ct_X1_isFactOf ix16 i17 qx18) rfl rfl ⟨rfl, rfl⟩ ⟨Nat.le_of_ble_eq_true rfl, Nat.le_of_ble_eq_true rfl⟩ ⟨Nat.zero_le _, Nat.zero_le _⟩ rfl (Nat.le_of_ble_eq_true rfl) (fun ix18 => ?_)
            refine g_if_eq C dX1_look_68 (zI ix18) rfl (tgt := 83) (fun c19 => ?_) (fun c19 => ?_)
            · have h := ifT c19 h
              refine g_iinc (L1 := [some (rv w 30), none, some (iv (wr (x10 + 1)))]) C dX1_look_83 rfl rfl (Nat.le_of_ble_eq_true rfl) rfl ?_
              refine g_goto C dX1_look_86 rfl (tgt := 36) ?_
              obtain rfl := Option.some.inj h
              exact ih9 _ _ (iwr _) (lpL hk9)
            · have h := ifF c19 h
              refine g_aload_n C dX1_look_71 rfl ?_
              refine g_getR (j := 7) C dX1_look_72 rfl (Nat.le_of_ble_eq_true rfl) (Nat.le_of_ble_eq_true rfl) fl_1_27 rfl rfl (r := 36) rfl ?_
              refine g_aload_n C dX1_look_75 rfl ?_
              refine g_getR (j := 1) C dX1_look_76 rfl (Nat.le_of_ble_eq_true rfl) (Nat.le_of_ble_eq_true rfl) fl_1_15 rfl rfl (r := 32) rfl ?_
              refine g_iload_n C dX1_look_79 rfl ?_
              obtain ⟨x20, qx20, h⟩ := bnd h
              refine g_iald C dX1_look_80 rfl rfl qx20 ix10 (fun ix20 => ?_)
              refine g_iconst C dX1_look_81 ?_
              obtain ⟨σ21, qσ21, h⟩ := bnd h
              refine g_zast C dX1_look_82 rfl rfl qσ21 ix20 (Or.inr rfl) ?_
              refine g_iinc (L1 := [some (rv w 30), none, some (iv (wr (x10 + 1)))]) C dX1_look_83 rfl rfl (Nat.le_of_ble_eq_true rfl) rfl ?_
              refine g_goto C dX1_look_86 rfl (tgt := 36) ?_
              obtain rfl := Option.some.inj h
              exact ih9 _ _ (iwr _) (lpL hk9)
    exact hL9 FU _ _ (by decide) hb9
  have hL3 : ∀ (n : Nat) (x4 : Int) (σ5 : St) , InI x4 → lpN (fun a => m_X1_look_L14 a.1 a.2) n (x4, σ5) = some b3 → GM w p l e rm_X1_look s m args below meth c none True σ' 3 14 [some (rv w 30), none, some (iv x4)] [] σ5 := by
    intro n
    induction n with
    | zero => intro x4 σ5 ix4 q; cases q
    | succ n ih3 =>
      intro x4 σ5 ix4 q
      obtain ⟨o3, h, hk3⟩ := lp_step q
      replace h : m_X1_look_L14 x4 σ5 = some o3 := h
      unfold m_X1_look_L14 at h
      refine g_iload_n C dX1_look_14 rfl ?_
      refine g_sipush C dX1_look_15 rfl ?_
      refine g_icmp_ge C dX1_look_18 ix4 (by decide) rfl (tgt := 34) (fun c6 => ?_) (fun c6 => ?_)
      · have h := ifT c6 h
        refine g_mask [true, true, false] ?_
        obtain rfl := Option.some.inj h
        exact hX3 σ5 (lpR hk3).symm
      · have h := ifF c6 h
        refine g_aload_n C dX1_look_21 rfl ?_
        refine g_getR (j := 7) C dX1_look_22 rfl (Nat.le_of_ble_eq_true rfl) (Nat.le_of_ble_eq_true rfl) fl_1_27 rfl rfl (r := 36) rfl ?_
        refine g_iload_n C dX1_look_25 rfl ?_
        refine g_iconst C dX1_look_26 ?_
        obtain ⟨σ7, qσ7, h⟩ := bnd h
        refine g_zast C dX1_look_27 rfl rfl qσ7 ix4 (Or.inl rfl) ?_
        refine g_iinc (L1 := [some (rv w 30), none, some (iv (wr (x4 + 1)))]) C dX1_look_28 rfl rfl (Nat.le_of_ble_eq_true rfl) rfl ?_
        refine g_goto C dX1_look_31 rfl (tgt := 14) ?_
        obtain rfl := Option.some.inj h
        exact ih3 _ _ (iwr _) (lpL hk3)
  exact hL3 FU _ _ (by decide) hb3
theorem dX1_isPosted_0 : decode cX1_isPosted 0 = .ok (.aload_n 0, 1) := by decide +kernel
theorem dX1_isPosted_1 : decode cX1_isPosted 1 = .ok (.aload_n 0, 1) := by decide +kernel
theorem dX1_isPosted_2 : decode cX1_isPosted 2 = .ok (.getfield 34, 3) := by decide +kernel
theorem dX1_isPosted_5 : decode cX1_isPosted 5 = .ok (.invokevirtual 61, 3) := by decide +kernel
theorem dX1_isPosted_8 : decode cX1_isPosted 8 = .ok (.iconst 0, 1) := by decide +kernel
theorem dX1_isPosted_9 : decode cX1_isPosted 9 = .ok (.istore 4, 2) := by decide +kernel
theorem dX1_isPosted_11 : decode cX1_isPosted 11 = .ok (.iload 4, 2) := by decide +kernel
theorem dX1_isPosted_13 : decode cX1_isPosted 13 = .ok (.aload_n 0, 1) := by decide +kernel
theorem dX1_isPosted_14 : decode cX1_isPosted 14 = .ok (.getfield 34, 3) := by decide +kernel
theorem dX1_isPosted_17 : decode cX1_isPosted 17 = .ok (.if_icmp .ge 54, 3) := by decide +kernel
theorem dX1_isPosted_20 : decode cX1_isPosted 20 = .ok (.aload_n 0, 1) := by decide +kernel
theorem dX1_isPosted_21 : decode cX1_isPosted 21 = .ok (.iload 4, 2) := by decide +kernel
theorem dX1_isPosted_23 : decode cX1_isPosted 23 = .ok (.iconst 0, 1) := by decide +kernel
theorem dX1_isPosted_24 : decode cX1_isPosted 24 = .ok (.invokevirtual 51, 3) := by decide +kernel
theorem dX1_isPosted_27 : decode cX1_isPosted 27 = .ok (.ifCond .eq 38, 3) := by decide +kernel
theorem dX1_isPosted_30 : decode cX1_isPosted 30 = .ok (.aload_n 0, 1) := by decide +kernel
theorem dX1_isPosted_31 : decode cX1_isPosted 31 = .ok (.getfield 15, 3) := by decide +kernel
theorem dX1_isPosted_34 : decode cX1_isPosted 34 = .ok (.iload 4, 2) := by decide +kernel
theorem dX1_isPosted_36 : decode cX1_isPosted 36 = .ok (.iaload, 1) := by decide +kernel
theorem dX1_isPosted_37 : decode cX1_isPosted 37 = .ok (.iload_n 1, 1) := by decide +kernel
theorem dX1_isPosted_38 : decode cX1_isPosted 38 = .ok (.if_icmp .ne 27, 3) := by decide +kernel
theorem dX1_isPosted_41 : decode cX1_isPosted 41 = .ok (.aload_n 0, 1) := by decide +kernel
theorem dX1_isPosted_42 : decode cX1_isPosted 42 = .ok (.getfield 21, 3) := by decide +kernel
theorem dX1_isPosted_45 : decode cX1_isPosted 45 = .ok (.iload 4, 2) := by decide +kernel
theorem dX1_isPosted_47 : decode cX1_isPosted 47 = .ok (.iaload, 1) := by decide +kernel
theorem dX1_isPosted_48 : decode cX1_isPosted 48 = .ok (.iload_n 3, 1) := by decide +kernel
theorem dX1_isPosted_49 : decode cX1_isPosted 49 = .ok (.if_icmp .ge 16, 3) := by decide +kernel
theorem dX1_isPosted_52 : decode cX1_isPosted 52 = .ok (.iload_n 2, 1) := by decide +kernel
theorem dX1_isPosted_53 : decode cX1_isPosted 53 = .ok (.aload_n 0, 1) := by decide +kernel
theorem dX1_isPosted_54 : decode cX1_isPosted 54 = .ok (.getfield 24, 3) := by decide +kernel
theorem dX1_isPosted_57 : decode cX1_isPosted 57 = .ok (.iload 4, 2) := by decide +kernel
theorem dX1_isPosted_59 : decode cX1_isPosted 59 = .ok (.iaload, 1) := by decide +kernel
theorem dX1_isPosted_60 : decode cX1_isPosted 60 = .ok (.if_icmp .ge 5, 3) := by decide +kernel
theorem dX1_isPosted_63 : decode cX1_isPosted 63 = .ok (.iconst 1, 1) := by decide +kernel
theorem dX1_isPosted_64 : decode cX1_isPosted 64 = .ok (.ireturn, 1) := by decide +kernel
theorem dX1_isPosted_65 : decode cX1_isPosted 65 = .ok (.iinc 4 1, 3) := by decide +kernel
theorem dX1_isPosted_68 : decode cX1_isPosted 68 = .ok (.goto (-57), 3) := by decide +kernel
theorem dX1_isPosted_71 : decode cX1_isPosted 71 = .ok (.iconst 0, 1) := by decide +kernel
theorem dX1_isPosted_72 : decode cX1_isPosted 72 = .ok (.ireturn, 1) := by decide +kernel
abbrev rm_X1_isPosted : Room := { frames := 3, cells := 0, slots := 0, locals := 66 }
set_option maxRecDepth 100000 in
set_option maxHeartbeats 4000000 in
theorem ct_X1_isPosted {w : Wd} {l : Launch} {a1 : Int} {a2 : Int} {a3 : Int} {σ : St} {y : Int} {σ' : St} (ia1 : InI a1) (ia2 : InI a2) (ia3 : InI a3) (h : m_X1_isPosted a1 a2 a3 σ = some (y, σ')) : Ct w l yX1_isPosted (Cond.code yX1_isPosted cX1_isPosted 5 (some .boolean) :: TB) rm_X1_isPosted [rv w 30, iv a1, iv a2, iv a3] σ (some (iv y)) (InZ y) σ' := by
  refine Ct.of2 [some (rv w 30), some (iv a1), some (iv a2), some (iv a3), none] 1 rfl pn_RX1 (Nat.le_of_ble_eq_true rfl) ?_
  intro p e s m args below meth c C hr hlk
  unfold m_X1_isPosted at h
  refine g_aload_n C dX1_isPosted_0 rfl ?_
  refine g_aload_n C dX1_isPosted_1 rfl ?_
  refine g_getI (j := 5) C dX1_isPosted_2 rfl (Nat.le_of_ble_eq_true rfl) (Nat.le_of_ble_eq_true rfl) fl_1_34 rfl rfl (fun i1 => ?_)
  obtain ⟨σ2, qσ2, h⟩ := bnd h
  refine g_callV0 (As := [iv (σ 30 5)]) C dX1_isPosted_5 mi_X1_look ml_1_61 (ct_X1_look i1 qσ2) rfl rfl ⟨rfl, rfl⟩ ⟨Nat.le_of_ble_eq_true rfl, Nat.le_of_ble_eq_true rfl⟩ ⟨Nat.zero_le _, Nat.zero_le _⟩ rfl (Nat.le_of_ble_eq_true rfl) (fun _ => ?_)
  refine g_iconst C dX1_isPosted_8 ?_
  refine g_istore (L1 := [some (rv w 30), some (iv a1), some (iv a2), some (iv a3), some (iv 0)]) C dX1_isPosted_9 rfl (Nat.le_of_ble_eq_true rfl) rfl ?_
  obtain ⟨b3, hb3, hF3⟩ := bnd h
  have hX3 : Sum.inl () = b3 → GM w p l e rm_X1_isPosted s m args below meth c (some (iv y)) (InZ y) σ' 5 71 [none, none, none, none, none] [] σ2 := by
    intro q
    subst q
    have h := hF3
    refine g_iconst C dX1_isPosted_71 ?_
    exact g_zretP C dX1_isPosted_72 hr hlk h (Or.inl rfl)
  have hL3 : ∀ (n : Nat) (x4 : Int) , InI x4 → lpN (fun a => m_X1_isPosted_L11 σ2 a1 a3 a2 a) n x4 = some b3 → GM w p l e rm_X1_isPosted s m args below meth c (some (iv y)) (InZ y) σ' 5 11 [some (rv w 30), some (iv a1), some (iv a2), some (iv a3), some (iv x4)] [] σ2 := by
    intro n
    induction n with
    | zero => intro x4 ix4 q; cases q
    | succ n ih3 =>
      intro x4 ix4 q
      obtain ⟨o3, h, hk3⟩ := lp_step q
      replace h : m_X1_isPosted_L11 σ2 a1 a3 a2 x4 = some o3 := h
      unfold m_X1_isPosted_L11 at h
      refine g_iload C dX1_isPosted_11 rfl ?_
      refine g_aload_n C dX1_isPosted_13 rfl ?_
      refine g_getI (j := 5) C dX1_isPosted_14 rfl (Nat.le_of_ble_eq_true rfl) (Nat.le_of_ble_eq_true rfl) fl_1_34 rfl rfl (fun i5 => ?_)
      refine g_icmp_ge C dX1_isPosted_17 ix4 i5 rfl (tgt := 71) (fun c6 => ?_) (fun c6 => ?_)
      · have h := ifT c6 h
        refine g_mask [false, false, false, false, false] ?_
        obtain rfl := Option.some.inj h
        exact hX3  (lpR hk3).symm
      · have h := ifF c6 h
        refine g_aload_n C dX1_isPosted_20 rfl ?_
        refine g_iload C dX1_isPosted_21 rfl ?_
        refine g_iconst C dX1_isPosted_23 ?_
        obtain ⟨x7, qx7, h⟩ := bnd h
        refine g_callV1 (As := [iv x4, iv 0]) C dX1_isPosted_24 mi_X1_holds ml_1_51 (ct_X1_holds ix4 (by decide) qx7) rfl rfl ⟨rfl, rfl⟩ ⟨Nat.le_of_ble_eq_true rfl, Nat.le_of_ble_eq_true rfl⟩ ⟨Nat.zero_le _, Nat.zero_le _⟩ rfl (Nat.le_of_ble_eq_true rfl) (fun ix7 => ?_)
        refine g_if_eq C dX1_isPosted_27 (zI ix7) rfl (tgt := 65) (fun c8 => ?_) (fun c8 => ?_)
        · have h := ifT c8 h
          refine g_iinc (L1 := [some (rv w 30), some (iv a1), some (iv a2), some (iv a3), some (iv (wr (x4 + 1)))]) C dX1_isPosted_65 rfl rfl (Nat.le_of_ble_eq_true rfl) rfl ?_
          refine g_goto C dX1_isPosted_68 rfl (tgt := 11) ?_
          obtain rfl := Option.some.inj h
          exact ih3 _ (iwr _) (lpL hk3)
        · have h := ifF c8 h
          refine g_aload_n C dX1_isPosted_30 rfl ?_
          refine g_getR (j := 1) C dX1_isPosted_31 rfl (Nat.le_of_ble_eq_true rfl) (Nat.le_of_ble_eq_true rfl) fl_1_15 rfl rfl (r := 32) rfl ?_
          refine g_iload C dX1_isPosted_34 rfl ?_
          obtain ⟨x9, qx9, h⟩ := bnd h
          refine g_iald C dX1_isPosted_36 rfl rfl qx9 ix4 (fun ix9 => ?_)
          refine g_iload_n C dX1_isPosted_37 rfl ?_
          refine g_icmp_ne C dX1_isPosted_38 ix9 ia1 rfl (tgt := 65) (fun c10 => ?_) (fun c10 => ?_)
          · have h := ifF c10 h
            refine g_iinc (L1 := [some (rv w 30), some (iv a1), some (iv a2), some (iv a3), some (iv (wr (x4 + 1)))]) C dX1_isPosted_65 rfl rfl (Nat.le_of_ble_eq_true rfl) rfl ?_
            refine g_goto C dX1_isPosted_68 rfl (tgt := 11) ?_
            obtain rfl := Option.some.inj h
            exact ih3 _ (iwr _) (lpL hk3)
          · have h := ifT c10 h
            refine g_aload_n C dX1_isPosted_41 rfl ?_
            refine g_getR (j := 3) C dX1_isPosted_42 rfl (Nat.le_of_ble_eq_true rfl) (Nat.le_of_ble_eq_true rfl) fl_1_21 rfl rfl (r := 34) rfl ?_
            refine g_iload C dX1_isPosted_45 rfl ?_
            obtain ⟨x11, qx11, h⟩ := bnd h
            refine g_iald C dX1_isPosted_47 rfl rfl qx11 ix4 (fun ix11 => ?_)
            refine g_iload_n C dX1_isPosted_48 rfl ?_
            refine g_icmp_ge C dX1_isPosted_49 ix11 ia3 rfl (tgt := 65) (fun c12 => ?_) (fun c12 => ?_)
            · have h := ifT c12 h
              refine g_iinc (L1 := [some (rv w 30), some (iv a1), some (iv a2), some (iv a3), some (iv (wr (x4 + 1)))]) C dX1_isPosted_65 rfl rfl (Nat.le_of_ble_eq_true rfl) rfl ?_
              refine g_goto C dX1_isPosted_68 rfl (tgt := 11) ?_
              obtain rfl := Option.some.inj h
              exact ih3 _ (iwr _) (lpL hk3)
            · have h := ifF c12 h
              refine g_iload_n C dX1_isPosted_52 rfl ?_
              refine g_aload_n C dX1_isPosted_53 rfl ?_
              refine g_getR (j := 4) C dX1_isPosted_54 rfl (Nat.le_of_ble_eq_true rfl) (Nat.le_of_ble_eq_true rfl) fl_1_24 rfl rfl (r := 35) rfl ?_
              refine g_iload C dX1_isPosted_57 rfl ?_
              obtain ⟨x13, qx13, h⟩ := bnd h
              refine g_iald C dX1_isPosted_59 rfl rfl qx13 ix4 (fun ix13 => ?_)
              refine g_icmp_ge C dX1_isPosted_60 ia2 ix13 rfl (tgt := 65) (fun c14 => ?_) (fun c14 => ?_)
              · have h := ifT c14 h
                refine g_iinc (L1 := [some (rv w 30), some (iv a1), some (iv a2), some (iv a3), some (iv (wr (x4 + 1)))]) C dX1_isPosted_65 rfl rfl (Nat.le_of_ble_eq_true rfl) rfl ?_
                refine g_goto C dX1_isPosted_68 rfl (tgt := 11) ?_
                obtain rfl := Option.some.inj h
                exact ih3 _ (iwr _) (lpL hk3)
              · have h := ifF c14 h
                refine g_iconst C dX1_isPosted_63 ?_
                obtain rfl := Option.some.inj h
                have e3 := (lpR hk3).symm
                subst e3
                have h := hF3
                exact g_zretP C dX1_isPosted_64 hr hlk h (Or.inr rfl)
  exact hL3 FU _ (by decide) hb3
theorem dX1_isWatched_0 : decode cX1_isWatched 0 = .ok (.iload_n 1, 1) := by decide +kernel
theorem dX1_isWatched_1 : decode cX1_isWatched 1 = .ok (.ifCond .lt 26, 3) := by decide +kernel
theorem dX1_isWatched_4 : decode cX1_isWatched 4 = .ok (.iload_n 1, 1) := by decide +kernel
theorem dX1_isWatched_5 : decode cX1_isWatched 5 = .ok (.bipush 96, 2) := by decide +kernel
theorem dX1_isWatched_7 : decode cX1_isWatched 7 = .ok (.if_icmp .ge 20, 3) := by decide +kernel
theorem dX1_isWatched_10 : decode cX1_isWatched 10 = .ok (.aload_n 0, 1) := by decide +kernel
theorem dX1_isWatched_11 : decode cX1_isWatched 11 = .ok (.getfield 31, 3) := by decide +kernel
theorem dX1_isWatched_14 : decode cX1_isWatched 14 = .ok (.iload_n 1, 1) := by decide +kernel
theorem dX1_isWatched_15 : decode cX1_isWatched 15 = .ok (.iaload, 1) := by decide +kernel
theorem dX1_isWatched_16 : decode cX1_isWatched 16 = .ok (.iload_n 2, 1) := by decide +kernel
theorem dX1_isWatched_17 : decode cX1_isWatched 17 = .ok (.ishr, 1) := by decide +kernel
theorem dX1_isWatched_18 : decode cX1_isWatched 18 = .ok (.iconst 1, 1) := by decide +kernel
theorem dX1_isWatched_19 : decode cX1_isWatched 19 = .ok (.iand, 1) := by decide +kernel
theorem dX1_isWatched_20 : decode cX1_isWatched 20 = .ok (.ifCond .eq 7, 3) := by decide +kernel
theorem dX1_isWatched_23 : decode cX1_isWatched 23 = .ok (.iconst 1, 1) := by decide +kernel
theorem dX1_isWatched_24 : decode cX1_isWatched 24 = .ok (.goto 4, 3) := by decide +kernel
theorem dX1_isWatched_27 : decode cX1_isWatched 27 = .ok (.iconst 0, 1) := by decide +kernel
theorem dX1_isWatched_28 : decode cX1_isWatched 28 = .ok (.ireturn, 1) := by decide +kernel
abbrev rm_X1_isWatched : Room := { frames := 0, cells := 0, slots := 0, locals := 0 }
set_option maxRecDepth 100000 in
set_option maxHeartbeats 4000000 in
theorem ct_X1_isWatched {w : Wd} {l : Launch} {a1 : Int} {a2 : Int} {σ : St} {y : Int} (ia1 : InI a1) (ia2 : InI a2) (h : m_X1_isWatched a1 a2 σ = some y) : Ct w l yX1_isWatched (Cond.code yX1_isWatched cX1_isWatched 3 (some .boolean) :: TB) rm_X1_isWatched [rv w 30, iv a1, iv a2] σ (some (iv y)) (InZ y) σ := by
  refine Ct.of2 [some (rv w 30), some (iv a1), some (iv a2)] 0 rfl pn_RX1 (Nat.le_of_ble_eq_true rfl) ?_
  intro p e s m args below meth c C hr hlk
  unfold m_X1_isWatched at h
  refine g_iload_n C dX1_isWatched_0 rfl ?_
  refine g_if_lt C dX1_isWatched_1 ia1 rfl (tgt := 27) (fun c1 => ?_) (fun c1 => ?_)
  · have h := ifT c1 h
    refine g_iconst C dX1_isWatched_27 ?_
    exact g_zretU C dX1_isWatched_28 hr hlk h (Or.inl rfl)
  · have h := ifF c1 h
    refine g_iload_n C dX1_isWatched_4 rfl ?_
    refine g_bipush C dX1_isWatched_5 rfl ?_
    refine g_icmp_ge C dX1_isWatched_7 ia1 (by decide) rfl (tgt := 27) (fun c2 => ?_) (fun c2 => ?_)
    · have h := ifT c2 h
      refine g_iconst C dX1_isWatched_27 ?_
      exact g_zretU C dX1_isWatched_28 hr hlk h (Or.inl rfl)
    · have h := ifF c2 h
      refine g_aload_n C dX1_isWatched_10 rfl ?_
      refine g_getR (j := 8) C dX1_isWatched_11 rfl (Nat.le_of_ble_eq_true rfl) (Nat.le_of_ble_eq_true rfl) fl_1_31 rfl rfl (r := 37) rfl ?_
      refine g_iload_n C dX1_isWatched_14 rfl ?_
      obtain ⟨x3, qx3, h⟩ := bnd h
      refine g_iald C dX1_isWatched_15 rfl rfl qx3 ia1 (fun ix3 => ?_)
      refine g_iload_n C dX1_isWatched_16 rfl ?_
      refine g_ishr C dX1_isWatched_17 ?_
      refine g_iconst C dX1_isWatched_18 ?_
      refine g_iand C dX1_isWatched_19 ?_
      refine g_if_eq C dX1_isWatched_20 (iand _ _) rfl (tgt := 27) (fun c4 => ?_) (fun c4 => ?_)
      · have h := ifT c4 h
        refine g_iconst C dX1_isWatched_27 ?_
        exact g_zretU C dX1_isWatched_28 hr hlk h (Or.inl rfl)
      · have h := ifF c4 h
        refine g_iconst C dX1_isWatched_23 ?_
        refine g_goto C dX1_isWatched_24 rfl (tgt := 28) ?_
        exact g_zretU C dX1_isWatched_28 hr hlk h (Or.inr rfl)
theorem dX1_turnedFrom_0 : decode cX1_turnedFrom 0 = .ok (.iconst (-1), 1) := by decide +kernel
theorem dX1_turnedFrom_1 : decode cX1_turnedFrom 1 = .ok (.istore_n 2, 1) := by decide +kernel
theorem dX1_turnedFrom_2 : decode cX1_turnedFrom 2 = .ok (.iconst 0, 1) := by decide +kernel
theorem dX1_turnedFrom_3 : decode cX1_turnedFrom 3 = .ok (.istore_n 3, 1) := by decide +kernel
theorem dX1_turnedFrom_4 : decode cX1_turnedFrom 4 = .ok (.iload_n 3, 1) := by decide +kernel
theorem dX1_turnedFrom_5 : decode cX1_turnedFrom 5 = .ok (.aload_n 0, 1) := by decide +kernel
theorem dX1_turnedFrom_6 : decode cX1_turnedFrom 6 = .ok (.getfield 44, 3) := by decide +kernel
theorem dX1_turnedFrom_9 : decode cX1_turnedFrom 9 = .ok (.if_icmp .ge 50, 3) := by decide +kernel
theorem dX1_turnedFrom_12 : decode cX1_turnedFrom 12 = .ok (.aload_n 0, 1) := by decide +kernel
theorem dX1_turnedFrom_13 : decode cX1_turnedFrom 13 = .ok (.iload_n 3, 1) := by decide +kernel
theorem dX1_turnedFrom_14 : decode cX1_turnedFrom 14 = .ok (.iconst 2, 1) := by decide +kernel
theorem dX1_turnedFrom_15 : decode cX1_turnedFrom 15 = .ok (.invokevirtual 51, 3) := by decide +kernel
theorem dX1_turnedFrom_18 : decode cX1_turnedFrom 18 = .ok (.ifCond .eq 35, 3) := by decide +kernel
theorem dX1_turnedFrom_21 : decode cX1_turnedFrom 21 = .ok (.aload_n 0, 1) := by decide +kernel
theorem dX1_turnedFrom_22 : decode cX1_turnedFrom 22 = .ok (.getfield 15, 3) := by decide +kernel
theorem dX1_turnedFrom_25 : decode cX1_turnedFrom 25 = .ok (.iload_n 3, 1) := by decide +kernel
theorem dX1_turnedFrom_26 : decode cX1_turnedFrom 26 = .ok (.iaload, 1) := by decide +kernel
theorem dX1_turnedFrom_27 : decode cX1_turnedFrom 27 = .ok (.iload_n 1, 1) := by decide +kernel
theorem dX1_turnedFrom_28 : decode cX1_turnedFrom 28 = .ok (.if_icmp .ne 25, 3) := by decide +kernel
theorem dX1_turnedFrom_31 : decode cX1_turnedFrom 31 = .ok (.iload_n 2, 1) := by decide +kernel
theorem dX1_turnedFrom_32 : decode cX1_turnedFrom 32 = .ok (.iconst (-1), 1) := by decide +kernel
theorem dX1_turnedFrom_33 : decode cX1_turnedFrom 33 = .ok (.if_icmp .eq 13, 3) := by decide +kernel
theorem dX1_turnedFrom_36 : decode cX1_turnedFrom 36 = .ok (.aload_n 0, 1) := by decide +kernel
theorem dX1_turnedFrom_37 : decode cX1_turnedFrom 37 = .ok (.getfield 21, 3) := by decide +kernel
theorem dX1_turnedFrom_40 : decode cX1_turnedFrom 40 = .ok (.iload_n 3, 1) := by decide +kernel
theorem dX1_turnedFrom_41 : decode cX1_turnedFrom 41 = .ok (.iaload, 1) := by decide +kernel
theorem dX1_turnedFrom_42 : decode cX1_turnedFrom 42 = .ok (.iload_n 2, 1) := by decide +kernel
theorem dX1_turnedFrom_43 : decode cX1_turnedFrom 43 = .ok (.if_icmp .ge 10, 3) := by decide +kernel
theorem dX1_turnedFrom_46 : decode cX1_turnedFrom 46 = .ok (.aload_n 0, 1) := by decide +kernel
theorem dX1_turnedFrom_47 : decode cX1_turnedFrom 47 = .ok (.getfield 21, 3) := by decide +kernel
theorem dX1_turnedFrom_50 : decode cX1_turnedFrom 50 = .ok (.iload_n 3, 1) := by decide +kernel
theorem dX1_turnedFrom_51 : decode cX1_turnedFrom 51 = .ok (.iaload, 1) := by decide +kernel
theorem dX1_turnedFrom_52 : decode cX1_turnedFrom 52 = .ok (.istore_n 2, 1) := by decide +kernel
theorem dX1_turnedFrom_53 : decode cX1_turnedFrom 53 = .ok (.iinc 3 1, 3) := by decide +kernel
theorem dX1_turnedFrom_56 : decode cX1_turnedFrom 56 = .ok (.goto (-52), 3) := by decide +kernel
theorem dX1_turnedFrom_59 : decode cX1_turnedFrom 59 = .ok (.iload_n 2, 1) := by decide +kernel
theorem dX1_turnedFrom_60 : decode cX1_turnedFrom 60 = .ok (.ireturn, 1) := by decide +kernel
abbrev rm_X1_turnedFrom : Room := { frames := 2, cells := 0, slots := 0, locals := 44 }
set_option maxRecDepth 100000 in
set_option maxHeartbeats 4000000 in
theorem ct_X1_turnedFrom {w : Wd} {l : Launch} {a1 : Int} {σ : St} {y : Int} (ia1 : InI a1) (h : m_X1_turnedFrom a1 σ = some y) : Ct w l yX1_turnedFrom (Cond.code yX1_turnedFrom cX1_turnedFrom 4 (some .int) :: TB) rm_X1_turnedFrom [rv w 30, iv a1] σ (some (iv y)) (InI y) σ := by
  refine Ct.of2 [some (rv w 30), some (iv a1), none, none] 2 rfl pn_RX1 (Nat.le_of_ble_eq_true rfl) ?_
  intro p e s m args below meth c C hr hlk
  unfold m_X1_turnedFrom at h
  refine g_iconst C dX1_turnedFrom_0 ?_
  refine g_istore_n (L1 := [some (rv w 30), some (iv a1), some (iv (-1)), none]) C dX1_turnedFrom_1 rfl (Nat.le_of_ble_eq_true rfl) rfl ?_
  refine g_iconst C dX1_turnedFrom_2 ?_
  refine g_istore_n (L1 := [some (rv w 30), some (iv a1), some (iv (-1)), some (iv 0)]) C dX1_turnedFrom_3 rfl (Nat.le_of_ble_eq_true rfl) rfl ?_
  obtain ⟨b1, hb1, hF1⟩ := bnd h
  have hX1 : ∀ (x15 : Int) , InI x15 → x15 = b1 → GM w p l e rm_X1_turnedFrom s m args below meth c (some (iv y)) (InI y) σ 4 59 [none, none, some (iv x15), none] [] σ := by
    intro x15 ix15 q
    subst q
    have h := hF1
    refine g_iload_n C dX1_turnedFrom_59 rfl ?_
    exact g_iretU C dX1_turnedFrom_60 hr hlk h ix15
  have hL1 : ∀ (n : Nat) (x2 : Int) (x3 : Int) , InI x2 → InI x3 → lpN (fun a => m_X1_turnedFrom_L4 σ a1 a.1 a.2) n (x2, x3) = some b1 → GM w p l e rm_X1_turnedFrom s m args below meth c (some (iv y)) (InI y) σ 4 4 [some (rv w 30), some (iv a1), some (iv x2), some (iv x3)] [] σ := by
    intro n
    induction n with
    | zero => intro x2 x3 ix2 ix3 q; cases q
    | succ n ih1 =>
      intro x2 x3 ix2 ix3 q
      obtain ⟨o1, h, hk1⟩ := lp_step q
      replace h : m_X1_turnedFrom_L4 σ a1 x2 x3 = some o1 := h
      unfold m_X1_turnedFrom_L4 at h
      refine g_iload_n C dX1_turnedFrom_4 rfl ?_
      refine g_aload_n C dX1_turnedFrom_5 rfl ?_
      refine g_getI (j := 6) C dX1_turnedFrom_6 rfl (Nat.le_of_ble_eq_true rfl) (Nat.le_of_ble_eq_true rfl) fl_1_44 rfl rfl (fun i4 => ?_)
      refine g_icmp_ge C dX1_turnedFrom_9 ix3 i4 rfl (tgt := 59) (fun c5 => ?_) (fun c5 => ?_)
      · have h := ifT c5 h
        refine g_mask [false, false, true, false] ?_
        obtain rfl := Option.some.inj h
        exact hX1 x2 ix2 (lpR hk1).symm
      · have h := ifF c5 h
        refine g_aload_n C dX1_turnedFrom_12 rfl ?_
        refine g_iload_n C dX1_turnedFrom_13 rfl ?_
        refine g_iconst C dX1_turnedFrom_14 ?_
        obtain ⟨x6, qx6, h⟩ := bnd h
        refine g_callV1 (As := [iv x3, iv 2]) C dX1_turnedFrom_15 mi_X1_holds ml_1_51 (ct_X1_holds ix3 (by decide) qx6) rfl rfl ⟨rfl, rfl⟩ ⟨Nat.le_of_ble_eq_true rfl, Nat.le_of_ble_eq_true rfl⟩ ⟨Nat.zero_le _, Nat.zero_le _⟩ rfl (Nat.le_of_ble_eq_true rfl) (fun ix6 => ?_)
        refine g_if_eq C dX1_turnedFrom_18 (zI ix6) rfl (tgt := 53) (fun c7 => ?_) (fun c7 => ?_)
        · have h := ifT c7 h
          refine g_iinc (L1 := [some (rv w 30), some (iv a1), some (iv x2), some (iv (wr (x3 + 1)))]) C dX1_turnedFrom_53 rfl rfl (Nat.le_of_ble_eq_true rfl) rfl ?_
          refine g_goto C dX1_turnedFrom_56 rfl (tgt := 4) ?_
          obtain rfl := Option.some.inj h
          exact ih1 _ _ ix2 (iwr _) (lpL hk1)
        · have h := ifF c7 h
          refine g_aload_n C dX1_turnedFrom_21 rfl ?_
          refine g_getR (j := 1) C dX1_turnedFrom_22 rfl (Nat.le_of_ble_eq_true rfl) (Nat.le_of_ble_eq_true rfl) fl_1_15 rfl rfl (r := 32) rfl ?_
          refine g_iload_n C dX1_turnedFrom_25 rfl ?_
          obtain ⟨x8, qx8, h⟩ := bnd h
          refine g_iald C dX1_turnedFrom_26 rfl rfl qx8 ix3 (fun ix8 => ?_)
          refine g_iload_n C dX1_turnedFrom_27 rfl ?_
          refine g_icmp_ne C dX1_turnedFrom_28 ix8 ia1 rfl (tgt := 53) (fun c9 => ?_) (fun c9 => ?_)
          · have h := ifF c9 h
            refine g_iinc (L1 := [some (rv w 30), some (iv a1), some (iv x2), some (iv (wr (x3 + 1)))]) C dX1_turnedFrom_53 rfl rfl (Nat.le_of_ble_eq_true rfl) rfl ?_
            refine g_goto C dX1_turnedFrom_56 rfl (tgt := 4) ?_
            obtain rfl := Option.some.inj h
            exact ih1 _ _ ix2 (iwr _) (lpL hk1)
          · have h := ifT c9 h
            refine g_iload_n C dX1_turnedFrom_31 rfl ?_
            refine g_iconst C dX1_turnedFrom_32 ?_
            have hJ46_14 : m_X1_turnedFrom_J46 σ x3 = some o1 → GM w p l e rm_X1_turnedFrom s m args below meth c (some (iv y)) (InI y) σ 4 46 [some (rv w 30), some (iv a1), none, some (iv x3)] [] σ := by
              intro h
              unfold m_X1_turnedFrom_J46 at h
              refine g_aload_n C dX1_turnedFrom_46 rfl ?_
              refine g_getR (j := 3) C dX1_turnedFrom_47 rfl (Nat.le_of_ble_eq_true rfl) (Nat.le_of_ble_eq_true rfl) fl_1_21 rfl rfl (r := 34) rfl ?_
              refine g_iload_n C dX1_turnedFrom_50 rfl ?_
              obtain ⟨x13, qx13, h⟩ := bnd h
              refine g_iald C dX1_turnedFrom_51 rfl rfl qx13 ix3 (fun ix13 => ?_)
              refine g_istore_n (L1 := [some (rv w 30), some (iv a1), some (iv x13), some (iv x3)]) C dX1_turnedFrom_52 rfl (Nat.le_of_ble_eq_true rfl) rfl ?_
              refine g_iinc (L1 := [some (rv w 30), some (iv a1), some (iv x13), some (iv (wr (x3 + 1)))]) C dX1_turnedFrom_53 rfl rfl (Nat.le_of_ble_eq_true rfl) rfl ?_
              refine g_goto C dX1_turnedFrom_56 rfl (tgt := 4) ?_
              obtain rfl := Option.some.inj h
              exact ih1 _ _ ix13 (iwr _) (lpL hk1)
            refine g_icmp_eq C dX1_turnedFrom_33 ix2 (by decide) rfl (tgt := 46) (fun c10 => ?_) (fun c10 => ?_)
            · have h := ifT c10 h
              refine g_mask [true, true, false, true] ?_
              exact hJ46_14  h
            · have h := ifF c10 h
              refine g_aload_n C dX1_turnedFrom_36 rfl ?_
              refine g_getR (j := 3) C dX1_turnedFrom_37 rfl (Nat.le_of_ble_eq_true rfl) (Nat.le_of_ble_eq_true rfl) fl_1_21 rfl rfl (r := 34) rfl ?_
              refine g_iload_n C dX1_turnedFrom_40 rfl ?_
              obtain ⟨x11, qx11, h⟩ := bnd h
              refine g_iald C dX1_turnedFrom_41 rfl rfl qx11 ix3 (fun ix11 => ?_)
              refine g_iload_n C dX1_turnedFrom_42 rfl ?_
              refine g_icmp_ge C dX1_turnedFrom_43 ix11 ix2 rfl (tgt := 53) (fun c12 => ?_) (fun c12 => ?_)
              · have h := ifT c12 h
                refine g_iinc (L1 := [some (rv w 30), some (iv a1), some (iv x2), some (iv (wr (x3 + 1)))]) C dX1_turnedFrom_53 rfl rfl (Nat.le_of_ble_eq_true rfl) rfl ?_
                refine g_goto C dX1_turnedFrom_56 rfl (tgt := 4) ?_
                obtain rfl := Option.some.inj h
                exact ih1 _ _ ix2 (iwr _) (lpL hk1)
              · have h := ifF c12 h
                refine g_mask [true, true, false, true] ?_
                exact hJ46_14  h
  exact hL1 FU _ _ (by decide) (by decide) hb1
theorem dX4_comeTo_0 : decode cX4_comeTo 0 = .ok (.aload_n 0, 1) := by decide +kernel
theorem dX4_comeTo_1 : decode cX4_comeTo 1 = .ok (.iload_n 1, 1) := by decide +kernel
theorem dX4_comeTo_2 : decode cX4_comeTo 2 = .ok (.putfield 68, 3) := by decide +kernel
theorem dX4_comeTo_5 : decode cX4_comeTo 5 = .ok (.iload_n 1, 1) := by decide +kernel
theorem dX4_comeTo_6 : decode cX4_comeTo 6 = .ok (.ifCond .lt 62, 3) := by decide +kernel
theorem dX4_comeTo_9 : decode cX4_comeTo 9 = .ok (.iload_n 1, 1) := by decide +kernel
theorem dX4_comeTo_10 : decode cX4_comeTo 10 = .ok (.sipush 502, 3) := by decide +kernel
theorem dX4_comeTo_13 : decode cX4_comeTo 13 = .ok (.if_icmp .ge 55, 3) := by decide +kernel
theorem dX4_comeTo_16 : decode cX4_comeTo 16 = .ok (.aload_n 0, 1) := by decide +kernel
theorem dX4_comeTo_17 : decode cX4_comeTo 17 = .ok (.aload_n 0, 1) := by decide +kernel
theorem dX4_comeTo_18 : decode cX4_comeTo 18 = .ok (.getfield 25, 3) := by decide +kernel
theorem dX4_comeTo_21 : decode cX4_comeTo 21 = .ok (.getfield 71, 3) := by decide +kernel
theorem dX4_comeTo_24 : decode cX4_comeTo 24 = .ok (.iload_n 1, 1) := by decide +kernel
theorem dX4_comeTo_25 : decode cX4_comeTo 25 = .ok (.iaload, 1) := by decide +kernel
theorem dX4_comeTo_26 : decode cX4_comeTo 26 = .ok (.putfield 74, 3) := by decide +kernel
theorem dX4_comeTo_29 : decode cX4_comeTo 29 = .ok (.aload_n 0, 1) := by decide +kernel
theorem dX4_comeTo_30 : decode cX4_comeTo 30 = .ok (.aload_n 0, 1) := by decide +kernel
theorem dX4_comeTo_31 : decode cX4_comeTo 31 = .ok (.getfield 25, 3) := by decide +kernel
theorem dX4_comeTo_34 : decode cX4_comeTo 34 = .ok (.getfield 77, 3) := by decide +kernel
theorem dX4_comeTo_37 : decode cX4_comeTo 37 = .ok (.iload_n 1, 1) := by decide +kernel
theorem dX4_comeTo_38 : decode cX4_comeTo 38 = .ok (.iaload, 1) := by decide +kernel
theorem dX4_comeTo_39 : decode cX4_comeTo 39 = .ok (.putfield 80, 3) := by decide +kernel
theorem dX4_comeTo_42 : decode cX4_comeTo 42 = .ok (.aload_n 0, 1) := by decide +kernel
theorem dX4_comeTo_43 : decode cX4_comeTo 43 = .ok (.aload_n 0, 1) := by decide +kernel
theorem dX4_comeTo_44 : decode cX4_comeTo 44 = .ok (.getfield 25, 3) := by decide +kernel
theorem dX4_comeTo_47 : decode cX4_comeTo 47 = .ok (.getfield 83, 3) := by decide +kernel
theorem dX4_comeTo_50 : decode cX4_comeTo 50 = .ok (.iload_n 1, 1) := by decide +kernel
theorem dX4_comeTo_51 : decode cX4_comeTo 51 = .ok (.iaload, 1) := by decide +kernel
theorem dX4_comeTo_52 : decode cX4_comeTo 52 = .ok (.putfield 86, 3) := by decide +kernel
theorem dX4_comeTo_55 : decode cX4_comeTo 55 = .ok (.aload_n 0, 1) := by decide +kernel
theorem dX4_comeTo_56 : decode cX4_comeTo 56 = .ok (.aload_n 0, 1) := by decide +kernel
theorem dX4_comeTo_57 : decode cX4_comeTo 57 = .ok (.getfield 25, 3) := by decide +kernel
theorem dX4_comeTo_60 : decode cX4_comeTo 60 = .ok (.getfield 89, 3) := by decide +kernel
theorem dX4_comeTo_63 : decode cX4_comeTo 63 = .ok (.iload_n 1, 1) := by decide +kernel
theorem dX4_comeTo_64 : decode cX4_comeTo 64 = .ok (.laload, 1) := by decide +kernel
theorem dX4_comeTo_65 : decode cX4_comeTo 65 = .ok (.putfield 93, 3) := by decide +kernel
theorem dX4_comeTo_68 : decode cX4_comeTo 68 = .ok (.return_, 1) := by decide +kernel
abbrev rm_X4_comeTo : Room := { frames := 0, cells := 0, slots := 0, locals := 0 }
set_option maxRecDepth 100000 in
set_option maxHeartbeats 4000000 in
theorem ct_X4_comeTo {w : Wd} {l : Launch} {a1 : Int} {σ : St} {σ' : St} (ia1 : InI a1) (h : m_X4_comeTo a1 σ = some σ') : Ct w l yX4_comeTo (Cond.code yX4_comeTo cX4_comeTo 2 none :: TB) rm_X4_comeTo [rv w 118, iv a1] σ none True σ' := by
  refine Ct.of2 [some (rv w 118), some (iv a1)] 0 rfl pn_RX4 (Nat.le_of_ble_eq_true rfl) ?_
  intro p e s m args below meth c C hr hlk
  unfold m_X4_comeTo at h
  refine g_aload_n C dX4_comeTo_0 rfl ?_
  refine g_iload_n C dX4_comeTo_1 rfl ?_
  obtain ⟨σ1, qσ1, h⟩ := bnd h
  refine g_putI (j := 10) C dX4_comeTo_2 rfl (Nat.le_of_ble_eq_true rfl) (Nat.le_of_ble_eq_true rfl) fl_4_68 rfl rfl rfl rfl qσ1 ia1 ?_
  refine g_iload_n C dX4_comeTo_5 rfl ?_
  refine g_if_lt C dX4_comeTo_6 ia1 rfl (tgt := 68) (fun c2 => ?_) (fun c2 => ?_)
  · have h := ifT c2 h
    exact g_vretP C dX4_comeTo_68 hr hlk h
  · have h := ifF c2 h
    refine g_iload_n C dX4_comeTo_9 rfl ?_
    refine g_sipush C dX4_comeTo_10 rfl ?_
    refine g_icmp_ge C dX4_comeTo_13 ia1 (by decide) rfl (tgt := 68) (fun c3 => ?_) (fun c3 => ?_)
    · have h := ifT c3 h
      exact g_vretP C dX4_comeTo_68 hr hlk h
    · have h := ifF c3 h
      refine g_aload_n C dX4_comeTo_16 rfl ?_
      refine g_aload_n C dX4_comeTo_17 rfl ?_
      refine g_getR (j := 3) C dX4_comeTo_18 rfl (Nat.le_of_ble_eq_true rfl) (Nat.le_of_ble_eq_true rfl) fl_4_25 rfl rfl (r := 16) rfl ?_
      refine g_getR (j := 1) C dX4_comeTo_21 rfl (Nat.le_of_ble_eq_true rfl) (Nat.le_of_ble_eq_true rfl) fl_4_71 rfl rfl (r := 17) rfl ?_
      refine g_iload_n C dX4_comeTo_24 rfl ?_
      obtain ⟨x4, qx4, h⟩ := bnd h
      refine g_iald C dX4_comeTo_25 rfl rfl qx4 ia1 (fun ix4 => ?_)
      obtain ⟨σ5, qσ5, h⟩ := bnd h
      refine g_putI (j := 11) C dX4_comeTo_26 rfl (Nat.le_of_ble_eq_true rfl) (Nat.le_of_ble_eq_true rfl) fl_4_74 rfl rfl rfl rfl qσ5 ix4 ?_
      refine g_aload_n C dX4_comeTo_29 rfl ?_
      refine g_aload_n C dX4_comeTo_30 rfl ?_
      refine g_getR (j := 3) C dX4_comeTo_31 rfl (Nat.le_of_ble_eq_true rfl) (Nat.le_of_ble_eq_true rfl) fl_4_25 rfl rfl (r := 16) rfl ?_
      refine g_getR (j := 2) C dX4_comeTo_34 rfl (Nat.le_of_ble_eq_true rfl) (Nat.le_of_ble_eq_true rfl) fl_4_77 rfl rfl (r := 18) rfl ?_
      refine g_iload_n C dX4_comeTo_37 rfl ?_
      obtain ⟨x6, qx6, h⟩ := bnd h
      refine g_iald C dX4_comeTo_38 rfl rfl qx6 ia1 (fun ix6 => ?_)
      obtain ⟨σ7, qσ7, h⟩ := bnd h
      refine g_putI (j := 12) C dX4_comeTo_39 rfl (Nat.le_of_ble_eq_true rfl) (Nat.le_of_ble_eq_true rfl) fl_4_80 rfl rfl rfl rfl qσ7 ix6 ?_
      refine g_aload_n C dX4_comeTo_42 rfl ?_
      refine g_aload_n C dX4_comeTo_43 rfl ?_
      refine g_getR (j := 3) C dX4_comeTo_44 rfl (Nat.le_of_ble_eq_true rfl) (Nat.le_of_ble_eq_true rfl) fl_4_25 rfl rfl (r := 16) rfl ?_
      refine g_getR (j := 3) C dX4_comeTo_47 rfl (Nat.le_of_ble_eq_true rfl) (Nat.le_of_ble_eq_true rfl) fl_4_83 rfl rfl (r := 19) rfl ?_
      refine g_iload_n C dX4_comeTo_50 rfl ?_
      obtain ⟨x8, qx8, h⟩ := bnd h
      refine g_iald C dX4_comeTo_51 rfl rfl qx8 ia1 (fun ix8 => ?_)
      obtain ⟨σ9, qσ9, h⟩ := bnd h
      refine g_putI (j := 13) C dX4_comeTo_52 rfl (Nat.le_of_ble_eq_true rfl) (Nat.le_of_ble_eq_true rfl) fl_4_86 rfl rfl rfl rfl qσ9 ix8 ?_
      refine g_aload_n C dX4_comeTo_55 rfl ?_
      refine g_aload_n C dX4_comeTo_56 rfl ?_
      refine g_getR (j := 3) C dX4_comeTo_57 rfl (Nat.le_of_ble_eq_true rfl) (Nat.le_of_ble_eq_true rfl) fl_4_25 rfl rfl (r := 16) rfl ?_
      refine g_getR (j := 4) C dX4_comeTo_60 rfl (Nat.le_of_ble_eq_true rfl) (Nat.le_of_ble_eq_true rfl) fl_4_89 rfl rfl (r := 20) rfl ?_
      refine g_iload_n C dX4_comeTo_63 rfl ?_
      obtain ⟨x10, qx10, h⟩ := bnd h
      refine g_lald C dX4_comeTo_64 rfl rfl qx10 ia1 (fun ix10 => ?_)
      obtain ⟨σ11, qσ11, h⟩ := bnd h
      refine g_putJ (j := 14) C dX4_comeTo_65 rfl (Nat.le_of_ble_eq_true rfl) (Nat.le_of_ble_eq_true rfl) fl_4_93 rfl rfl rfl rfl qσ11 ix10 ?_
      exact g_vretP C dX4_comeTo_68 hr hlk h
theorem dX4_fail_0 : decode cX4_fail 0 = .ok (.aload_n 0, 1) := by decide +kernel
theorem dX4_fail_1 : decode cX4_fail 1 = .ok (.iload_n 1, 1) := by decide +kernel
theorem dX4_fail_2 : decode cX4_fail 2 = .ok (.putfield 45, 3) := by decide +kernel
theorem dX4_fail_5 : decode cX4_fail 5 = .ok (.aload_n 0, 1) := by decide +kernel
theorem dX4_fail_6 : decode cX4_fail 6 = .ok (.aload_n 0, 1) := by decide +kernel
theorem dX4_fail_7 : decode cX4_fail 7 = .ok (.getfield 80, 3) := by decide +kernel
theorem dX4_fail_10 : decode cX4_fail 10 = .ok (.putfield 65, 3) := by decide +kernel
theorem dX4_fail_13 : decode cX4_fail 13 = .ok (.iconst 0, 1) := by decide +kernel
theorem dX4_fail_14 : decode cX4_fail 14 = .ok (.ireturn, 1) := by decide +kernel
abbrev rm_X4_fail : Room := { frames := 0, cells := 0, slots := 0, locals := 0 }
set_option maxRecDepth 100000 in
set_option maxHeartbeats 4000000 in
theorem ct_X4_fail {w : Wd} {l : Launch} {a1 : Int} {σ : St} {y : Int} {σ' : St} (ia1 : InI a1) (h : m_X4_fail a1 σ = some (y, σ')) : Ct w l yX4_fail (Cond.code yX4_fail cX4_fail 2 (some .boolean) :: TB) rm_X4_fail [rv w 118, iv a1] σ (some (iv y)) (InZ y) σ' := by
  refine Ct.of2 [some (rv w 118), some (iv a1)] 0 rfl pn_RX4 (Nat.le_of_ble_eq_true rfl) ?_
  intro p e s m args below meth c C hr hlk
  unfold m_X4_fail at h
  refine g_aload_n C dX4_fail_0 rfl ?_
  refine g_iload_n C dX4_fail_1 rfl ?_
  obtain ⟨σ1, qσ1, h⟩ := bnd h
  refine g_putI (j := 1) C dX4_fail_2 rfl (Nat.le_of_ble_eq_true rfl) (Nat.le_of_ble_eq_true rfl) fl_4_45 rfl rfl rfl rfl qσ1 ia1 ?_
  refine g_aload_n C dX4_fail_5 rfl ?_
  refine g_aload_n C dX4_fail_6 rfl ?_
  refine g_getI (j := 12) C dX4_fail_7 rfl (Nat.le_of_ble_eq_true rfl) (Nat.le_of_ble_eq_true rfl) fl_4_80 rfl rfl (fun i2 => ?_)
  obtain ⟨σ3, qσ3, h⟩ := bnd h
  refine g_putI (j := 2) C dX4_fail_10 rfl (Nat.le_of_ble_eq_true rfl) (Nat.le_of_ble_eq_true rfl) fl_4_65 rfl rfl rfl rfl qσ3 i2 ?_
  refine g_iconst C dX4_fail_13 ?_
  exact g_zretP C dX4_fail_14 hr hlk h (Or.inl rfl)
theorem dX4_accept_0 : decode cX4_accept 0 = .ok (.aload_n 0, 1) := by decide +kernel
theorem dX4_accept_1 : decode cX4_accept 1 = .ok (.getfield 74, 3) := by decide +kernel
theorem dX4_accept_4 : decode cX4_accept 4 = .ok (.iload_n 1, 1) := by decide +kernel
theorem dX4_accept_5 : decode cX4_accept 5 = .ok (.if_icmp .eq 9, 3) := by decide +kernel
theorem dX4_accept_8 : decode cX4_accept 8 = .ok (.aload_n 0, 1) := by decide +kernel
theorem dX4_accept_9 : decode cX4_accept 9 = .ok (.iconst 1, 1) := by decide +kernel
theorem dX4_accept_10 : decode cX4_accept 10 = .ok (.invokevirtual 97, 3) := by decide +kernel
theorem dX4_accept_13 : decode cX4_accept 13 = .ok (.ireturn, 1) := by decide +kernel
theorem dX4_accept_14 : decode cX4_accept 14 = .ok (.aload_n 0, 1) := by decide +kernel
theorem dX4_accept_15 : decode cX4_accept 15 = .ok (.getfield 68, 3) := by decide +kernel
theorem dX4_accept_18 : decode cX4_accept 18 = .ok (.sipush 500, 3) := by decide +kernel
theorem dX4_accept_21 : decode cX4_accept 21 = .ok (.if_icmp .lt 9, 3) := by decide +kernel
theorem dX4_accept_24 : decode cX4_accept 24 = .ok (.aload_n 0, 1) := by decide +kernel
theorem dX4_accept_25 : decode cX4_accept 25 = .ok (.iconst 2, 1) := by decide +kernel
theorem dX4_accept_26 : decode cX4_accept 26 = .ok (.invokevirtual 97, 3) := by decide +kernel
theorem dX4_accept_29 : decode cX4_accept 29 = .ok (.ireturn, 1) := by decide +kernel
theorem dX4_accept_30 : decode cX4_accept 30 = .ok (.aload_n 0, 1) := by decide +kernel
theorem dX4_accept_31 : decode cX4_accept 31 = .ok (.aload_n 0, 1) := by decide +kernel
theorem dX4_accept_32 : decode cX4_accept 32 = .ok (.getfield 68, 3) := by decide +kernel
theorem dX4_accept_35 : decode cX4_accept 35 = .ok (.iconst 1, 1) := by decide +kernel
theorem dX4_accept_36 : decode cX4_accept 36 = .ok (.iadd, 1) := by decide +kernel
theorem dX4_accept_37 : decode cX4_accept 37 = .ok (.invokevirtual 51, 3) := by decide +kernel
theorem dX4_accept_40 : decode cX4_accept 40 = .ok (.iconst 1, 1) := by decide +kernel
theorem dX4_accept_41 : decode cX4_accept 41 = .ok (.ireturn, 1) := by decide +kernel
abbrev rm_X4_accept : Room := { frames := 1, cells := 0, slots := 0, locals := 21 }
set_option maxRecDepth 100000 in
set_option maxHeartbeats 4000000 in
theorem ct_X4_accept {w : Wd} {l : Launch} {a1 : Int} {σ : St} {y : Int} {σ' : St} (ia1 : InI a1) (h : m_X4_accept a1 σ = some (y, σ')) : Ct w l yX4_accept (Cond.code yX4_accept cX4_accept 2 (some .boolean) :: TB) rm_X4_accept [rv w 118, iv a1] σ (some (iv y)) (InZ y) σ' := by
  refine Ct.of2 [some (rv w 118), some (iv a1)] 0 rfl pn_RX4 (Nat.le_of_ble_eq_true rfl) ?_
  intro p e s m args below meth c C hr hlk
  unfold m_X4_accept at h
  refine g_aload_n C dX4_accept_0 rfl ?_
  refine g_getI (j := 11) C dX4_accept_1 rfl (Nat.le_of_ble_eq_true rfl) (Nat.le_of_ble_eq_true rfl) fl_4_74 rfl rfl (fun i1 => ?_)
  refine g_iload_n C dX4_accept_4 rfl ?_
  refine g_icmp_eq C dX4_accept_5 i1 ia1 rfl (tgt := 14) (fun c2 => ?_) (fun c2 => ?_)
  · have h := ifT c2 h
    refine g_aload_n C dX4_accept_14 rfl ?_
    refine g_getI (j := 10) C dX4_accept_15 rfl (Nat.le_of_ble_eq_true rfl) (Nat.le_of_ble_eq_true rfl) fl_4_68 rfl rfl (fun i3 => ?_)
    refine g_sipush C dX4_accept_18 rfl ?_
    refine g_icmp_lt C dX4_accept_21 i3 (by decide) rfl (tgt := 30) (fun c4 => ?_) (fun c4 => ?_)
    · have h := ifT c4 h
      refine g_aload_n C dX4_accept_30 rfl ?_
      refine g_aload_n C dX4_accept_31 rfl ?_
      refine g_getI (j := 10) C dX4_accept_32 rfl (Nat.le_of_ble_eq_true rfl) (Nat.le_of_ble_eq_true rfl) fl_4_68 rfl rfl (fun i5 => ?_)
      refine g_iconst C dX4_accept_35 ?_
      refine g_iadd C dX4_accept_36 ?_
      obtain ⟨σ6, qσ6, h⟩ := bnd h
      refine g_callV0 (As := [iv (wr (σ 118 10 + 1))]) C dX4_accept_37 mi_X4_comeTo ml_4_51 (ct_X4_comeTo (iwr _) qσ6) rfl rfl ⟨rfl, rfl⟩ ⟨Nat.le_of_ble_eq_true rfl, Nat.le_of_ble_eq_true rfl⟩ ⟨Nat.zero_le _, Nat.zero_le _⟩ rfl (Nat.le_of_ble_eq_true rfl) (fun _ => ?_)
      refine g_iconst C dX4_accept_40 ?_
      exact g_zretP C dX4_accept_41 hr hlk h (Or.inr rfl)
    · have h := ifF c4 h
      refine g_aload_n C dX4_accept_24 rfl ?_
      refine g_iconst C dX4_accept_25 ?_
      obtain ⟨⟨x7, σ8⟩, qx7, h⟩ := bnd h
      refine g_callV1 (As := [iv 2]) C dX4_accept_26 mi_X4_fail ml_4_97 (ct_X4_fail (by decide) qx7) rfl rfl ⟨rfl, rfl⟩ ⟨Nat.le_of_ble_eq_true rfl, Nat.le_of_ble_eq_true rfl⟩ ⟨Nat.zero_le _, Nat.zero_le _⟩ rfl (Nat.le_of_ble_eq_true rfl) (fun ix7 => ?_)
      exact g_zretP C dX4_accept_29 hr hlk h ix7
  · have h := ifF c2 h
    refine g_aload_n C dX4_accept_8 rfl ?_
    refine g_iconst C dX4_accept_9 ?_
    obtain ⟨⟨x9, σ10⟩, qx9, h⟩ := bnd h
    refine g_callV1 (As := [iv 1]) C dX4_accept_10 mi_X4_fail ml_4_97 (ct_X4_fail (by decide) qx9) rfl rfl ⟨rfl, rfl⟩ ⟨Nat.le_of_ble_eq_true rfl, Nat.le_of_ble_eq_true rfl⟩ ⟨Nat.zero_le _, Nat.zero_le _⟩ rfl (Nat.le_of_ble_eq_true rfl) (fun ix9 => ?_)
    exact g_zretP C dX4_accept_13 hr hlk h ix9
theorem dX4_failLater_0 : decode cX4_failLater 0 = .ok (.aload_n 0, 1) := by decide +kernel
theorem dX4_failLater_1 : decode cX4_failLater 1 = .ok (.getfield 48, 3) := by decide +kernel
theorem dX4_failLater_4 : decode cX4_failLater 4 = .ok (.ifCond .ne 16, 3) := by decide +kernel
theorem dX4_failLater_7 : decode cX4_failLater 7 = .ok (.aload_n 0, 1) := by decide +kernel
theorem dX4_failLater_8 : decode cX4_failLater 8 = .ok (.iload_n 1, 1) := by decide +kernel
theorem dX4_failLater_9 : decode cX4_failLater 9 = .ok (.putfield 48, 3) := by decide +kernel
theorem dX4_failLater_12 : decode cX4_failLater 12 = .ok (.aload_n 0, 1) := by decide +kernel
theorem dX4_failLater_13 : decode cX4_failLater 13 = .ok (.aload_n 0, 1) := by decide +kernel
theorem dX4_failLater_14 : decode cX4_failLater 14 = .ok (.getfield 80, 3) := by decide +kernel
theorem dX4_failLater_17 : decode cX4_failLater 17 = .ok (.putfield 62, 3) := by decide +kernel
theorem dX4_failLater_20 : decode cX4_failLater 20 = .ok (.return_, 1) := by decide +kernel
abbrev rm_X4_failLater : Room := { frames := 0, cells := 0, slots := 0, locals := 0 }
set_option maxRecDepth 100000 in
set_option maxHeartbeats 4000000 in
theorem ct_X4_failLater {w : Wd} {l : Launch} {a1 : Int} {σ : St} {σ' : St} (ia1 : InI a1) (h : m_X4_failLater a1 σ = some σ') : Ct w l yX4_failLater (Cond.code yX4_failLater cX4_failLater 2 none :: TB) rm_X4_failLater [rv w 118, iv a1] σ none True σ' := by
  refine Ct.of2 [some (rv w 118), some (iv a1)] 0 rfl pn_RX4 (Nat.le_of_ble_eq_true rfl) ?_
  intro p e s m args below meth c C hr hlk
  unfold m_X4_failLater at h
  refine g_aload_n C dX4_failLater_0 rfl ?_
  refine g_getI (j := 8) C dX4_failLater_1 rfl (Nat.le_of_ble_eq_true rfl) (Nat.le_of_ble_eq_true rfl) fl_4_48 rfl rfl (fun i1 => ?_)
  refine g_if_ne C dX4_failLater_4 i1 rfl (tgt := 20) (fun c2 => ?_) (fun c2 => ?_)
  · have h := ifF c2 h
    exact g_vretP C dX4_failLater_20 hr hlk h
  · have h := ifT c2 h
    refine g_aload_n C dX4_failLater_7 rfl ?_
    refine g_iload_n C dX4_failLater_8 rfl ?_
    obtain ⟨σ3, qσ3, h⟩ := bnd h
    refine g_putI (j := 8) C dX4_failLater_9 rfl (Nat.le_of_ble_eq_true rfl) (Nat.le_of_ble_eq_true rfl) fl_4_48 rfl rfl rfl rfl qσ3 ia1 ?_
    refine g_aload_n C dX4_failLater_12 rfl ?_
    refine g_aload_n C dX4_failLater_13 rfl ?_
    refine g_getI (j := 12) C dX4_failLater_14 rfl (Nat.le_of_ble_eq_true rfl) (Nat.le_of_ble_eq_true rfl) fl_4_80 rfl rfl (fun i4 => ?_)
    obtain ⟨σ5, qσ5, h⟩ := bnd h
    refine g_putI (j := 9) C dX4_failLater_17 rfl (Nat.le_of_ble_eq_true rfl) (Nat.le_of_ble_eq_true rfl) fl_4_62 rfl rfl rfl rfl qσ5 i4 ?_
    exact g_vretP C dX4_failLater_20 hr hlk h
theorem dX4_acceptNumber_0 : decode cX4_acceptNumber 0 = .ok (.aload_n 0, 1) := by decide +kernel
theorem dX4_acceptNumber_1 : decode cX4_acceptNumber 1 = .ok (.getfield 74, 3) := by decide +kernel
theorem dX4_acceptNumber_4 : decode cX4_acceptNumber 4 = .ok (.bipush 27, 2) := by decide +kernel
theorem dX4_acceptNumber_6 : decode cX4_acceptNumber 6 = .ok (.if_icmp .ne 16, 3) := by decide +kernel
theorem dX4_acceptNumber_9 : decode cX4_acceptNumber 9 = .ok (.aload_n 0, 1) := by decide +kernel
theorem dX4_acceptNumber_10 : decode cX4_acceptNumber 10 = .ok (.getfield 86, 3) := by decide +kernel
theorem dX4_acceptNumber_13 : decode cX4_acceptNumber 13 = .ok (.iload_n 1, 1) := by decide +kernel
theorem dX4_acceptNumber_14 : decode cX4_acceptNumber 14 = .ok (.if_icmp .le 8, 3) := by decide +kernel
theorem dX4_acceptNumber_17 : decode cX4_acceptNumber 17 = .ok (.aload_n 0, 1) := by decide +kernel
theorem dX4_acceptNumber_18 : decode cX4_acceptNumber 18 = .ok (.iconst 5, 1) := by decide +kernel
theorem dX4_acceptNumber_19 : decode cX4_acceptNumber 19 = .ok (.invokevirtual 101, 3) := by decide +kernel
theorem dX4_acceptNumber_22 : decode cX4_acceptNumber 22 = .ok (.aload_n 0, 1) := by decide +kernel
theorem dX4_acceptNumber_23 : decode cX4_acceptNumber 23 = .ok (.bipush 27, 2) := by decide +kernel
theorem dX4_acceptNumber_25 : decode cX4_acceptNumber 25 = .ok (.invokevirtual 104, 3) := by decide +kernel
theorem dX4_acceptNumber_28 : decode cX4_acceptNumber 28 = .ok (.ireturn, 1) := by decide +kernel
abbrev rm_X4_acceptNumber : Room := { frames := 2, cells := 0, slots := 0, locals := 42 }
set_option maxRecDepth 100000 in
set_option maxHeartbeats 4000000 in
theorem ct_X4_acceptNumber {w : Wd} {l : Launch} {a1 : Int} {σ : St} {y : Int} {σ' : St} (ia1 : InI a1) (h : m_X4_acceptNumber a1 σ = some (y, σ')) : Ct w l yX4_acceptNumber (Cond.code yX4_acceptNumber cX4_acceptNumber 2 (some .boolean) :: TB) rm_X4_acceptNumber [rv w 118, iv a1] σ (some (iv y)) (InZ y) σ' := by
  refine Ct.of2 [some (rv w 118), some (iv a1)] 0 rfl pn_RX4 (Nat.le_of_ble_eq_true rfl) ?_
  intro p e s m args below meth c C hr hlk
  unfold m_X4_acceptNumber at h
  refine g_aload_n C dX4_acceptNumber_0 rfl ?_
  refine g_getI (j := 11) C dX4_acceptNumber_1 rfl (Nat.le_of_ble_eq_true rfl) (Nat.le_of_ble_eq_true rfl) fl_4_74 rfl rfl (fun i1 => ?_)
  refine g_bipush C dX4_acceptNumber_4 rfl ?_
  refine g_icmp_ne C dX4_acceptNumber_6 i1 (by decide) rfl (tgt := 22) (fun c2 => ?_) (fun c2 => ?_)
  · have h := ifF c2 h
    refine g_aload_n C dX4_acceptNumber_22 rfl ?_
    refine g_bipush C dX4_acceptNumber_23 rfl ?_
    obtain ⟨⟨x3, σ4⟩, qx3, h⟩ := bnd h
    refine g_callV1 (As := [iv 27]) C dX4_acceptNumber_25 mi_X4_accept ml_4_104 (ct_X4_accept (by decide) qx3) rfl rfl ⟨rfl, rfl⟩ ⟨Nat.le_of_ble_eq_true rfl, Nat.le_of_ble_eq_true rfl⟩ ⟨Nat.zero_le _, Nat.zero_le _⟩ rfl (Nat.le_of_ble_eq_true rfl) (fun ix3 => ?_)
    exact g_zretP C dX4_acceptNumber_28 hr hlk h ix3
  · have h := ifT c2 h
    refine g_aload_n C dX4_acceptNumber_9 rfl ?_
    refine g_getI (j := 13) C dX4_acceptNumber_10 rfl (Nat.le_of_ble_eq_true rfl) (Nat.le_of_ble_eq_true rfl) fl_4_86 rfl rfl (fun i5 => ?_)
    refine g_iload_n C dX4_acceptNumber_13 rfl ?_
    refine g_icmp_le C dX4_acceptNumber_14 i5 ia1 rfl (tgt := 22) (fun c6 => ?_) (fun c6 => ?_)
    · have h := ifT c6 h
      refine g_aload_n C dX4_acceptNumber_22 rfl ?_
      refine g_bipush C dX4_acceptNumber_23 rfl ?_
      obtain ⟨⟨x7, σ8⟩, qx7, h⟩ := bnd h
      refine g_callV1 (As := [iv 27]) C dX4_acceptNumber_25 mi_X4_accept ml_4_104 (ct_X4_accept (by decide) qx7) rfl rfl ⟨rfl, rfl⟩ ⟨Nat.le_of_ble_eq_true rfl, Nat.le_of_ble_eq_true rfl⟩ ⟨Nat.zero_le _, Nat.zero_le _⟩ rfl (Nat.le_of_ble_eq_true rfl) (fun ix7 => ?_)
      exact g_zretP C dX4_acceptNumber_28 hr hlk h ix7
    · have h := ifF c6 h
      refine g_aload_n C dX4_acceptNumber_17 rfl ?_
      refine g_iconst C dX4_acceptNumber_18 ?_
      obtain ⟨σ9, qσ9, h⟩ := bnd h
      refine g_callV0 (As := [iv 5]) C dX4_acceptNumber_19 mi_X4_failLater ml_4_101 (ct_X4_failLater (by decide) qσ9) rfl rfl ⟨rfl, rfl⟩ ⟨Nat.le_of_ble_eq_true rfl, Nat.le_of_ble_eq_true rfl⟩ ⟨Nat.zero_le _, Nat.zero_le _⟩ rfl (Nat.le_of_ble_eq_true rfl) (fun _ => ?_)
      refine g_aload_n C dX4_acceptNumber_22 rfl ?_
      refine g_bipush C dX4_acceptNumber_23 rfl ?_
      obtain ⟨⟨x10, σ11⟩, qx10, h⟩ := bnd h
      refine g_callV1 (As := [iv 27]) C dX4_acceptNumber_25 mi_X4_accept ml_4_104 (ct_X4_accept (by decide) qx10) rfl rfl ⟨rfl, rfl⟩ ⟨Nat.le_of_ble_eq_true rfl, Nat.le_of_ble_eq_true rfl⟩ ⟨Nat.zero_le _, Nat.zero_le _⟩ rfl (Nat.le_of_ble_eq_true rfl) (fun ix10 => ?_)
      exact g_zretP C dX4_acceptNumber_28 hr hlk h ix10
theorem dX4_plainDeed_0 : decode cX4_plainDeed 0 = .ok (.aload_n 0, 1) := by decide +kernel
theorem dX4_plainDeed_1 : decode cX4_plainDeed 1 = .ok (.getfield 74, 3) := by decide +kernel
theorem dX4_plainDeed_4 : decode cX4_plainDeed 4 = .ok (.istore_n 2, 1) := by decide +kernel
theorem dX4_plainDeed_5 : decode cX4_plainDeed 5 = .ok (.aload_n 0, 1) := by decide +kernel
theorem dX4_plainDeed_6 : decode cX4_plainDeed 6 = .ok (.iload_n 2, 1) := by decide +kernel
theorem dX4_plainDeed_7 : decode cX4_plainDeed 7 = .ok (.invokevirtual 104, 3) := by decide +kernel
theorem dX4_plainDeed_10 : decode cX4_plainDeed 10 = .ok (.ifCond .ne 5, 3) := by decide +kernel
theorem dX4_plainDeed_13 : decode cX4_plainDeed 13 = .ok (.iconst 0, 1) := by decide +kernel
theorem dX4_plainDeed_14 : decode cX4_plainDeed 14 = .ok (.ireturn, 1) := by decide +kernel
theorem dX4_plainDeed_15 : decode cX4_plainDeed 15 = .ok (.aload_n 0, 1) := by decide +kernel
theorem dX4_plainDeed_16 : decode cX4_plainDeed 16 = .ok (.getfield 12, 3) := by decide +kernel
theorem dX4_plainDeed_19 : decode cX4_plainDeed 19 = .ok (.iload_n 2, 1) := by decide +kernel
theorem dX4_plainDeed_20 : decode cX4_plainDeed 20 = .ok (.aload_n 0, 1) := by decide +kernel
theorem dX4_plainDeed_21 : decode cX4_plainDeed 21 = .ok (.getfield 86, 3) := by decide +kernel
theorem dX4_plainDeed_24 : decode cX4_plainDeed 24 = .ok (.iconst 0, 1) := by decide +kernel
theorem dX4_plainDeed_25 : decode cX4_plainDeed 25 = .ok (.invokevirtual 121, 3) := by decide +kernel
theorem dX4_plainDeed_28 : decode cX4_plainDeed 28 = .ok (.pop, 1) := by decide +kernel
theorem dX4_plainDeed_29 : decode cX4_plainDeed 29 = .ok (.aload_n 0, 1) := by decide +kernel
theorem dX4_plainDeed_30 : decode cX4_plainDeed 30 = .ok (.iload_n 1, 1) := by decide +kernel
theorem dX4_plainDeed_31 : decode cX4_plainDeed 31 = .ok (.invokevirtual 143, 3) := by decide +kernel
theorem dX4_plainDeed_34 : decode cX4_plainDeed 34 = .ok (.ifCond .eq 16, 3) := by decide +kernel
theorem dX4_plainDeed_37 : decode cX4_plainDeed 37 = .ok (.aload_n 0, 1) := by decide +kernel
theorem dX4_plainDeed_38 : decode cX4_plainDeed 38 = .ok (.bipush 28, 2) := by decide +kernel
theorem dX4_plainDeed_40 : decode cX4_plainDeed 40 = .ok (.invokevirtual 104, 3) := by decide +kernel
theorem dX4_plainDeed_43 : decode cX4_plainDeed 43 = .ok (.ifCond .eq 7, 3) := by decide +kernel
theorem dX4_plainDeed_46 : decode cX4_plainDeed 46 = .ok (.iconst 1, 1) := by decide +kernel
theorem dX4_plainDeed_47 : decode cX4_plainDeed 47 = .ok (.goto 4, 3) := by decide +kernel
theorem dX4_plainDeed_50 : decode cX4_plainDeed 50 = .ok (.iconst 0, 1) := by decide +kernel
theorem dX4_plainDeed_51 : decode cX4_plainDeed 51 = .ok (.ireturn, 1) := by decide +kernel
abbrev rm_X4_plainDeed : Room := { frames := 3, cells := 0, slots := 0, locals := 63 }
set_option maxRecDepth 100000 in
set_option maxHeartbeats 4000000 in
theorem ct_X4_plainDeed {w : Wd} {l : Launch} {a1 : Int} {σ : St} {y : Int} {σ' : St} (ia1 : InI a1) (h : m_X4_plainDeed a1 σ = some (y, σ')) : Ct w l yX4_plainDeed (Cond.code yX4_plainDeed cX4_plainDeed 3 (some .boolean) :: TB) rm_X4_plainDeed [rv w 118, iv a1] σ (some (iv y)) (InZ y) σ' := by
  refine Ct.of2 [some (rv w 118), some (iv a1), none] 1 rfl pn_RX4 (Nat.le_of_ble_eq_true rfl) ?_
  intro p e s m args below meth c C hr hlk
  unfold m_X4_plainDeed at h
  refine g_aload_n C dX4_plainDeed_0 rfl ?_
  refine g_getI (j := 11) C dX4_plainDeed_1 rfl (Nat.le_of_ble_eq_true rfl) (Nat.le_of_ble_eq_true rfl) fl_4_74 rfl rfl (fun i1 => ?_)
  refine g_istore_n (L1 := [some (rv w 118), some (iv a1), some (iv (σ 118 11))]) C dX4_plainDeed_4 rfl (Nat.le_of_ble_eq_true rfl) rfl ?_
  refine g_aload_n C dX4_plainDeed_5 rfl ?_
  refine g_iload_n C dX4_plainDeed_6 rfl ?_
  obtain ⟨⟨x2, σ3⟩, qx2, h⟩ := bnd h
  refine g_callV1 (As := [iv (σ 118 11)]) C dX4_plainDeed_7 mi_X4_accept ml_4_104 (ct_X4_accept i1 qx2) rfl rfl ⟨rfl, rfl⟩ ⟨Nat.le_of_ble_eq_true rfl, Nat.le_of_ble_eq_true rfl⟩ ⟨Nat.zero_le _, Nat.zero_le _⟩ rfl (Nat.le_of_ble_eq_true rfl) (fun ix2 => ?_)
  refine g_if_ne C dX4_plainDeed_10 (zI ix2) rfl (tgt := 15) (fun c4 => ?_) (fun c4 => ?_)
  · have h := ifF c4 h
    refine g_aload_n C dX4_plainDeed_15 rfl ?_
    refine g_getR (j := 0) C dX4_plainDeed_16 rfl (Nat.le_of_ble_eq_true rfl) (Nat.le_of_ble_eq_true rfl) fl_4_12 rfl rfl (r := 119) rfl ?_
    refine g_iload_n C dX4_plainDeed_19 rfl ?_
    refine g_aload_n C dX4_plainDeed_20 rfl ?_
    refine g_getI (j := 13) C dX4_plainDeed_21 rfl (Nat.le_of_ble_eq_true rfl) (Nat.le_of_ble_eq_true rfl) fl_4_86 rfl rfl (fun i5 => ?_)
    refine g_iconst C dX4_plainDeed_24 ?_
    obtain ⟨⟨x6, σ7⟩, qx6, h⟩ := bnd h
    refine g_callV1 (As := [iv (σ 118 11), iv (σ3 118 13), iv 0]) C dX4_plainDeed_25 mi_X5_add ml_4_121 (ct_X5_add rfl i1 i5 (by decide) qx6) rfl rfl ⟨rfl, rfl⟩ ⟨Nat.le_of_ble_eq_true rfl, Nat.le_of_ble_eq_true rfl⟩ ⟨Nat.zero_le _, Nat.zero_le _⟩ rfl (Nat.le_of_ble_eq_true rfl) (fun ix6 => ?_)
    refine g_pop C dX4_plainDeed_28 rfl ?_
    refine g_aload_n C dX4_plainDeed_29 rfl ?_
    refine g_iload_n C dX4_plainDeed_30 rfl ?_
    obtain ⟨⟨x8, σ9⟩, qx8, h⟩ := bnd h
    refine g_callV1 (As := [iv a1]) C dX4_plainDeed_31 mi_X4_acceptNumber ml_4_143 (ct_X4_acceptNumber ia1 qx8) rfl rfl ⟨rfl, rfl⟩ ⟨Nat.le_of_ble_eq_true rfl, Nat.le_of_ble_eq_true rfl⟩ ⟨Nat.zero_le _, Nat.zero_le _⟩ rfl (Nat.le_of_ble_eq_true rfl) (fun ix8 => ?_)
    refine g_if_eq C dX4_plainDeed_34 (zI ix8) rfl (tgt := 50) (fun c10 => ?_) (fun c10 => ?_)
    · have h := ifT c10 h
      refine g_iconst C dX4_plainDeed_50 ?_
      exact g_zretP C dX4_plainDeed_51 hr hlk h (Or.inl rfl)
    · have h := ifF c10 h
      refine g_aload_n C dX4_plainDeed_37 rfl ?_
      refine g_bipush C dX4_plainDeed_38 rfl ?_
      obtain ⟨⟨x11, σ12⟩, qx11, h⟩ := bnd h
      refine g_callV1 (As := [iv 28]) C dX4_plainDeed_40 mi_X4_accept ml_4_104 (ct_X4_accept (by decide) qx11) rfl rfl ⟨rfl, rfl⟩ ⟨Nat.le_of_ble_eq_true rfl, Nat.le_of_ble_eq_true rfl⟩ ⟨Nat.zero_le _, Nat.zero_le _⟩ rfl (Nat.le_of_ble_eq_true rfl) (fun ix11 => ?_)
      refine g_if_eq C dX4_plainDeed_43 (zI ix11) rfl (tgt := 50) (fun c13 => ?_) (fun c13 => ?_)
      · have h := ifT c13 h
        refine g_iconst C dX4_plainDeed_50 ?_
        exact g_zretP C dX4_plainDeed_51 hr hlk h (Or.inl rfl)
      · have h := ifF c13 h
        refine g_iconst C dX4_plainDeed_46 ?_
        refine g_goto C dX4_plainDeed_47 rfl (tgt := 51) ?_
        exact g_zretP C dX4_plainDeed_51 hr hlk h (Or.inr rfl)
  · have h := ifT c4 h
    refine g_iconst C dX4_plainDeed_13 ?_
    exact g_zretP C dX4_plainDeed_14 hr hlk h (Or.inl rfl)
theorem dX4_doDeed_0 : decode cX4_doDeed 0 = .ok (.aload_n 0, 1) := by decide +kernel
theorem dX4_doDeed_1 : decode cX4_doDeed 1 = .ok (.iconst 3, 1) := by decide +kernel
theorem dX4_doDeed_2 : decode cX4_doDeed 2 = .ok (.invokevirtual 104, 3) := by decide +kernel
theorem dX4_doDeed_5 : decode cX4_doDeed 5 = .ok (.ifCond .ne 5, 3) := by decide +kernel
theorem dX4_doDeed_8 : decode cX4_doDeed 8 = .ok (.iconst 0, 1) := by decide +kernel
theorem dX4_doDeed_9 : decode cX4_doDeed 9 = .ok (.ireturn, 1) := by decide +kernel
theorem dX4_doDeed_10 : decode cX4_doDeed 10 = .ok (.aload_n 0, 1) := by decide +kernel
theorem dX4_doDeed_11 : decode cX4_doDeed 11 = .ok (.getfield 12, 3) := by decide +kernel
theorem dX4_doDeed_14 : decode cX4_doDeed 14 = .ok (.aload_n 0, 1) := by decide +kernel
theorem dX4_doDeed_15 : decode cX4_doDeed 15 = .ok (.getfield 93, 3) := by decide +kernel
theorem dX4_doDeed_18 : decode cX4_doDeed 18 = .ok (.invokevirtual 110, 3) := by decide +kernel
theorem dX4_doDeed_21 : decode cX4_doDeed 21 = .ok (.istore_n 1, 1) := by decide +kernel
theorem dX4_doDeed_22 : decode cX4_doDeed 22 = .ok (.aload_n 0, 1) := by decide +kernel
theorem dX4_doDeed_23 : decode cX4_doDeed 23 = .ok (.getfield 74, 3) := by decide +kernel
theorem dX4_doDeed_26 : decode cX4_doDeed 26 = .ok (.bipush 26, 2) := by decide +kernel
theorem dX4_doDeed_28 : decode cX4_doDeed 28 = .ok (.if_icmp .ne 13, 3) := by decide +kernel
theorem dX4_doDeed_31 : decode cX4_doDeed 31 = .ok (.iload_n 1, 1) := by decide +kernel
theorem dX4_doDeed_32 : decode cX4_doDeed 32 = .ok (.iconst (-1), 1) := by decide +kernel
theorem dX4_doDeed_33 : decode cX4_doDeed 33 = .ok (.if_icmp .ne 8, 3) := by decide +kernel
theorem dX4_doDeed_36 : decode cX4_doDeed 36 = .ok (.aload_n 0, 1) := by decide +kernel
theorem dX4_doDeed_37 : decode cX4_doDeed 37 = .ok (.iconst 4, 1) := by decide +kernel
theorem dX4_doDeed_38 : decode cX4_doDeed 38 = .ok (.invokevirtual 101, 3) := by decide +kernel
theorem dX4_doDeed_41 : decode cX4_doDeed 41 = .ok (.aload_n 0, 1) := by decide +kernel
theorem dX4_doDeed_42 : decode cX4_doDeed 42 = .ok (.getfield 12, 3) := by decide +kernel
theorem dX4_doDeed_45 : decode cX4_doDeed 45 = .ok (.iconst 3, 1) := by decide +kernel
theorem dX4_doDeed_46 : decode cX4_doDeed 46 = .ok (.iload_n 1, 1) := by decide +kernel
theorem dX4_doDeed_47 : decode cX4_doDeed 47 = .ok (.iconst 0, 1) := by decide +kernel
theorem dX4_doDeed_48 : decode cX4_doDeed 48 = .ok (.invokevirtual 121, 3) := by decide +kernel
theorem dX4_doDeed_51 : decode cX4_doDeed 51 = .ok (.pop, 1) := by decide +kernel
theorem dX4_doDeed_52 : decode cX4_doDeed 52 = .ok (.aload_n 0, 1) := by decide +kernel
theorem dX4_doDeed_53 : decode cX4_doDeed 53 = .ok (.bipush 26, 2) := by decide +kernel
theorem dX4_doDeed_55 : decode cX4_doDeed 55 = .ok (.invokevirtual 104, 3) := by decide +kernel
theorem dX4_doDeed_58 : decode cX4_doDeed 58 = .ok (.ifCond .eq 16, 3) := by decide +kernel
theorem dX4_doDeed_61 : decode cX4_doDeed 61 = .ok (.aload_n 0, 1) := by decide +kernel
theorem dX4_doDeed_62 : decode cX4_doDeed 62 = .ok (.bipush 28, 2) := by decide +kernel
theorem dX4_doDeed_64 : decode cX4_doDeed 64 = .ok (.invokevirtual 104, 3) := by decide +kernel
theorem dX4_doDeed_67 : decode cX4_doDeed 67 = .ok (.ifCond .eq 7, 3) := by decide +kernel
theorem dX4_doDeed_70 : decode cX4_doDeed 70 = .ok (.iconst 1, 1) := by decide +kernel
theorem dX4_doDeed_71 : decode cX4_doDeed 71 = .ok (.goto 4, 3) := by decide +kernel
theorem dX4_doDeed_74 : decode cX4_doDeed 74 = .ok (.iconst 0, 1) := by decide +kernel
theorem dX4_doDeed_75 : decode cX4_doDeed 75 = .ok (.ireturn, 1) := by decide +kernel
abbrev rm_X4_doDeed : Room := { frames := 2, cells := 0, slots := 0, locals := 42 }
set_option maxRecDepth 100000 in
set_option maxHeartbeats 4000000 in
theorem ct_X4_doDeed {w : Wd} {l : Launch} {σ : St} {y : Int} {σ' : St} (h : m_X4_doDeed σ = some (y, σ')) : Ct w l yX4_doDeed (Cond.code yX4_doDeed cX4_doDeed 2 (some .boolean) :: TB) rm_X4_doDeed [rv w 118] σ (some (iv y)) (InZ y) σ' := by
  refine Ct.of2 [some (rv w 118), none] 1 rfl pn_RX4 (Nat.le_of_ble_eq_true rfl) ?_
  intro p e s m args below meth c C hr hlk
  unfold m_X4_doDeed at h
  refine g_aload_n C dX4_doDeed_0 rfl ?_
  refine g_iconst C dX4_doDeed_1 ?_
  obtain ⟨⟨x1, σ2⟩, qx1, h⟩ := bnd h
  refine g_callV1 (As := [iv 3]) C dX4_doDeed_2 mi_X4_accept ml_4_104 (ct_X4_accept (by decide) qx1) rfl rfl ⟨rfl, rfl⟩ ⟨Nat.le_of_ble_eq_true rfl, Nat.le_of_ble_eq_true rfl⟩ ⟨Nat.zero_le _, Nat.zero_le _⟩ rfl (Nat.le_of_ble_eq_true rfl) (fun ix1 => ?_)
  refine g_if_ne C dX4_doDeed_5 (zI ix1) rfl (tgt := 10) (fun c3 => ?_) (fun c3 => ?_)
  · have h := ifF c3 h
    refine g_aload_n C dX4_doDeed_10 rfl ?_
    refine g_getR (j := 0) C dX4_doDeed_11 rfl (Nat.le_of_ble_eq_true rfl) (Nat.le_of_ble_eq_true rfl) fl_4_12 rfl rfl (r := 119) rfl ?_
    refine g_aload_n C dX4_doDeed_14 rfl ?_
    refine g_getJ (j := 14) C dX4_doDeed_15 rfl (Nat.le_of_ble_eq_true rfl) (Nat.le_of_ble_eq_true rfl) fl_4_93 rfl rfl (fun i4 => ?_)
    obtain ⟨x5, qx5, h⟩ := bnd h
    refine g_callV1 (As := [jv (σ2 118 14)]) C dX4_doDeed_18 mi_X5_codeNamed ml_4_110 (ct_X5_codeNamed rfl i4 qx5) rfl rfl ⟨rfl, rfl⟩ ⟨Nat.le_of_ble_eq_true rfl, Nat.le_of_ble_eq_true rfl⟩ ⟨Nat.zero_le _, Nat.zero_le _⟩ rfl (Nat.le_of_ble_eq_true rfl) (fun ix5 => ?_)
    refine g_istore_n (L1 := [some (rv w 118), some (iv x5)]) C dX4_doDeed_21 rfl (Nat.le_of_ble_eq_true rfl) rfl ?_
    refine g_aload_n C dX4_doDeed_22 rfl ?_
    refine g_getI (j := 11) C dX4_doDeed_23 rfl (Nat.le_of_ble_eq_true rfl) (Nat.le_of_ble_eq_true rfl) fl_4_74 rfl rfl (fun i6 => ?_)
    refine g_bipush C dX4_doDeed_26 rfl ?_
    have hJ41_19 : ∀ (σ10 : St) , m_X4_doDeed_J41 x5 σ10 = some (y, σ') → GM w p l e rm_X4_doDeed s m args below meth c (some (iv y)) (InZ y) σ' 2 41 [some (rv w 118), some (iv x5)] [] σ10 := by
      intro σ10 h
      unfold m_X4_doDeed_J41 at h
      refine g_aload_n C dX4_doDeed_41 rfl ?_
      refine g_getR (j := 0) C dX4_doDeed_42 rfl (Nat.le_of_ble_eq_true rfl) (Nat.le_of_ble_eq_true rfl) fl_4_12 rfl rfl (r := 119) rfl ?_
      refine g_iconst C dX4_doDeed_45 ?_
      refine g_iload_n C dX4_doDeed_46 rfl ?_
      refine g_iconst C dX4_doDeed_47 ?_
      obtain ⟨⟨x11, σ12⟩, qx11, h⟩ := bnd h
      refine g_callV1 (As := [iv 3, iv x5, iv 0]) C dX4_doDeed_48 mi_X5_add ml_4_121 (ct_X5_add rfl (by decide) ix5 (by decide) qx11) rfl rfl ⟨rfl, rfl⟩ ⟨Nat.le_of_ble_eq_true rfl, Nat.le_of_ble_eq_true rfl⟩ ⟨Nat.zero_le _, Nat.zero_le _⟩ rfl (Nat.le_of_ble_eq_true rfl) (fun ix11 => ?_)
      refine g_pop C dX4_doDeed_51 rfl ?_
      refine g_aload_n C dX4_doDeed_52 rfl ?_
      refine g_bipush C dX4_doDeed_53 rfl ?_
      obtain ⟨⟨x13, σ14⟩, qx13, h⟩ := bnd h
      refine g_callV1 (As := [iv 26]) C dX4_doDeed_55 mi_X4_accept ml_4_104 (ct_X4_accept (by decide) qx13) rfl rfl ⟨rfl, rfl⟩ ⟨Nat.le_of_ble_eq_true rfl, Nat.le_of_ble_eq_true rfl⟩ ⟨Nat.zero_le _, Nat.zero_le _⟩ rfl (Nat.le_of_ble_eq_true rfl) (fun ix13 => ?_)
      refine g_if_eq C dX4_doDeed_58 (zI ix13) rfl (tgt := 74) (fun c15 => ?_) (fun c15 => ?_)
      · have h := ifT c15 h
        refine g_iconst C dX4_doDeed_74 ?_
        exact g_zretP C dX4_doDeed_75 hr hlk h (Or.inl rfl)
      · have h := ifF c15 h
        refine g_aload_n C dX4_doDeed_61 rfl ?_
        refine g_bipush C dX4_doDeed_62 rfl ?_
        obtain ⟨⟨x16, σ17⟩, qx16, h⟩ := bnd h
        refine g_callV1 (As := [iv 28]) C dX4_doDeed_64 mi_X4_accept ml_4_104 (ct_X4_accept (by decide) qx16) rfl rfl ⟨rfl, rfl⟩ ⟨Nat.le_of_ble_eq_true rfl, Nat.le_of_ble_eq_true rfl⟩ ⟨Nat.zero_le _, Nat.zero_le _⟩ rfl (Nat.le_of_ble_eq_true rfl) (fun ix16 => ?_)
        refine g_if_eq C dX4_doDeed_67 (zI ix16) rfl (tgt := 74) (fun c18 => ?_) (fun c18 => ?_)
        · have h := ifT c18 h
          refine g_iconst C dX4_doDeed_74 ?_
          exact g_zretP C dX4_doDeed_75 hr hlk h (Or.inl rfl)
        · have h := ifF c18 h
          refine g_iconst C dX4_doDeed_70 ?_
          refine g_goto C dX4_doDeed_71 rfl (tgt := 75) ?_
          exact g_zretP C dX4_doDeed_75 hr hlk h (Or.inr rfl)
    refine g_icmp_ne C dX4_doDeed_28 i6 (by decide) rfl (tgt := 41) (fun c7 => ?_) (fun c7 => ?_)
    · have h := ifF c7 h
      exact hJ41_19 σ2 h
    · have h := ifT c7 h
      refine g_iload_n C dX4_doDeed_31 rfl ?_
      refine g_iconst C dX4_doDeed_32 ?_
      refine g_icmp_ne C dX4_doDeed_33 ix5 (by decide) rfl (tgt := 41) (fun c8 => ?_) (fun c8 => ?_)
      · have h := ifF c8 h
        exact hJ41_19 σ2 h
      · have h := ifT c8 h
        refine g_aload_n C dX4_doDeed_36 rfl ?_
        refine g_iconst C dX4_doDeed_37 ?_
        obtain ⟨σ9, qσ9, h⟩ := bnd h
        refine g_callV0 (As := [iv 4]) C dX4_doDeed_38 mi_X4_failLater ml_4_101 (ct_X4_failLater (by decide) qσ9) rfl rfl ⟨rfl, rfl⟩ ⟨Nat.le_of_ble_eq_true rfl, Nat.le_of_ble_eq_true rfl⟩ ⟨Nat.zero_le _, Nat.zero_le _⟩ rfl (Nat.le_of_ble_eq_true rfl) (fun _ => ?_)
        exact hJ41_19 σ9 h
  · have h := ifT c3 h
    refine g_iconst C dX4_doDeed_8 ?_
    exact g_zretP C dX4_doDeed_9 hr hlk h (Or.inl rfl)
theorem dX4_open_0 : decode cX4_open 0 = .ok (.aload_n 0, 1) := by decide +kernel
theorem dX4_open_1 : decode cX4_open 1 = .ok (.getfield 37, 3) := by decide +kernel
theorem dX4_open_4 : decode cX4_open 4 = .ok (.ifCond .lt 12, 3) := by decide +kernel
theorem dX4_open_7 : decode cX4_open 7 = .ok (.aload_n 0, 1) := by decide +kernel
theorem dX4_open_8 : decode cX4_open 8 = .ok (.getfield 37, 3) := by decide +kernel
theorem dX4_open_11 : decode cX4_open 11 = .ok (.bipush 6, 2) := by decide +kernel
theorem dX4_open_13 : decode cX4_open 13 = .ok (.if_icmp .lt 9, 3) := by decide +kernel
theorem dX4_open_16 : decode cX4_open 16 = .ok (.aload_n 0, 1) := by decide +kernel
theorem dX4_open_17 : decode cX4_open 17 = .ok (.iconst 2, 1) := by decide +kernel
theorem dX4_open_18 : decode cX4_open 18 = .ok (.invokevirtual 97, 3) := by decide +kernel
theorem dX4_open_21 : decode cX4_open 21 = .ok (.ireturn, 1) := by decide +kernel
theorem dX4_open_22 : decode cX4_open 22 = .ok (.aload_n 0, 1) := by decide +kernel
theorem dX4_open_23 : decode cX4_open 23 = .ok (.getfield 18, 3) := by decide +kernel
theorem dX4_open_26 : decode cX4_open 26 = .ok (.aload_n 0, 1) := by decide +kernel
theorem dX4_open_27 : decode cX4_open 27 = .ok (.getfield 37, 3) := by decide +kernel
theorem dX4_open_30 : decode cX4_open 30 = .ok (.iload_n 1, 1) := by decide +kernel
theorem dX4_open_31 : decode cX4_open 31 = .ok (.iastore, 1) := by decide +kernel
theorem dX4_open_32 : decode cX4_open 32 = .ok (.aload_n 0, 1) := by decide +kernel
theorem dX4_open_33 : decode cX4_open 33 = .ok (.getfield 22, 3) := by decide +kernel
theorem dX4_open_36 : decode cX4_open 36 = .ok (.aload_n 0, 1) := by decide +kernel
theorem dX4_open_37 : decode cX4_open 37 = .ok (.getfield 37, 3) := by decide +kernel
theorem dX4_open_40 : decode cX4_open 40 = .ok (.aload_n 0, 1) := by decide +kernel
theorem dX4_open_41 : decode cX4_open 41 = .ok (.getfield 12, 3) := by decide +kernel
theorem dX4_open_44 : decode cX4_open 44 = .ok (.getfield 146, 3) := by decide +kernel
theorem dX4_open_47 : decode cX4_open 47 = .ok (.iastore, 1) := by decide +kernel
theorem dX4_open_48 : decode cX4_open 48 = .ok (.aload_n 0, 1) := by decide +kernel
theorem dX4_open_49 : decode cX4_open 49 = .ok (.dup, 1) := by decide +kernel
theorem dX4_open_50 : decode cX4_open 50 = .ok (.getfield 37, 3) := by decide +kernel
theorem dX4_open_53 : decode cX4_open 53 = .ok (.iconst 1, 1) := by decide +kernel
theorem dX4_open_54 : decode cX4_open 54 = .ok (.iadd, 1) := by decide +kernel
theorem dX4_open_55 : decode cX4_open 55 = .ok (.putfield 37, 3) := by decide +kernel
theorem dX4_open_58 : decode cX4_open 58 = .ok (.aload_n 0, 1) := by decide +kernel
theorem dX4_open_59 : decode cX4_open 59 = .ok (.iload_n 1, 1) := by decide +kernel
theorem dX4_open_60 : decode cX4_open 60 = .ok (.invokevirtual 104, 3) := by decide +kernel
theorem dX4_open_63 : decode cX4_open 63 = .ok (.ireturn, 1) := by decide +kernel
abbrev rm_X4_open : Room := { frames := 2, cells := 0, slots := 0, locals := 42 }
set_option maxRecDepth 100000 in
set_option maxHeartbeats 4000000 in
theorem ct_X4_open {w : Wd} {l : Launch} {a1 : Int} {σ : St} {y : Int} {σ' : St} (ia1 : InI a1) (h : m_X4_open a1 σ = some (y, σ')) : Ct w l yX4_open (Cond.code yX4_open cX4_open 2 (some .boolean) :: TB) rm_X4_open [rv w 118, iv a1] σ (some (iv y)) (InZ y) σ' := by
  refine Ct.of2 [some (rv w 118), some (iv a1)] 0 rfl pn_RX4 (Nat.le_of_ble_eq_true rfl) ?_
  intro p e s m args below meth c C hr hlk
  unfold m_X4_open at h
  refine g_aload_n C dX4_open_0 rfl ?_
  refine g_getI (j := 6) C dX4_open_1 rfl (Nat.le_of_ble_eq_true rfl) (Nat.le_of_ble_eq_true rfl) fl_4_37 rfl rfl (fun i1 => ?_)
  refine g_if_lt C dX4_open_4 i1 rfl (tgt := 16) (fun c2 => ?_) (fun c2 => ?_)
  · have h := ifT c2 h
    refine g_aload_n C dX4_open_16 rfl ?_
    refine g_iconst C dX4_open_17 ?_
    obtain ⟨⟨x3, σ4⟩, qx3, h⟩ := bnd h
    refine g_callV1 (As := [iv 2]) C dX4_open_18 mi_X4_fail ml_4_97 (ct_X4_fail (by decide) qx3) rfl rfl ⟨rfl, rfl⟩ ⟨Nat.le_of_ble_eq_true rfl, Nat.le_of_ble_eq_true rfl⟩ ⟨Nat.zero_le _, Nat.zero_le _⟩ rfl (Nat.le_of_ble_eq_true rfl) (fun ix3 => ?_)
    exact g_zretP C dX4_open_21 hr hlk h ix3
  · have h := ifF c2 h
    refine g_aload_n C dX4_open_7 rfl ?_
    refine g_getI (j := 6) C dX4_open_8 rfl (Nat.le_of_ble_eq_true rfl) (Nat.le_of_ble_eq_true rfl) fl_4_37 rfl rfl (fun i5 => ?_)
    refine g_bipush C dX4_open_11 rfl ?_
    refine g_icmp_lt C dX4_open_13 i5 (by decide) rfl (tgt := 22) (fun c6 => ?_) (fun c6 => ?_)
    · have h := ifT c6 h
      refine g_aload_n C dX4_open_22 rfl ?_
      refine g_getR (j := 4) C dX4_open_23 rfl (Nat.le_of_ble_eq_true rfl) (Nat.le_of_ble_eq_true rfl) fl_4_18 rfl rfl (r := 127) rfl ?_
      refine g_aload_n C dX4_open_26 rfl ?_
      refine g_getI (j := 6) C dX4_open_27 rfl (Nat.le_of_ble_eq_true rfl) (Nat.le_of_ble_eq_true rfl) fl_4_37 rfl rfl (fun i7 => ?_)
      refine g_iload_n C dX4_open_30 rfl ?_
      obtain ⟨σ8, qσ8, h⟩ := bnd h
      refine g_iast C dX4_open_31 rfl rfl qσ8 i7 ia1 ?_
      refine g_aload_n C dX4_open_32 rfl ?_
      refine g_getR (j := 5) C dX4_open_33 rfl (Nat.le_of_ble_eq_true rfl) (Nat.le_of_ble_eq_true rfl) fl_4_22 rfl rfl (r := 128) rfl ?_
      refine g_aload_n C dX4_open_36 rfl ?_
      refine g_getI (j := 6) C dX4_open_37 rfl (Nat.le_of_ble_eq_true rfl) (Nat.le_of_ble_eq_true rfl) fl_4_37 rfl rfl (fun i9 => ?_)
      refine g_aload_n C dX4_open_40 rfl ?_
      refine g_getR (j := 0) C dX4_open_41 rfl (Nat.le_of_ble_eq_true rfl) (Nat.le_of_ble_eq_true rfl) fl_4_12 rfl rfl (r := 119) rfl ?_
      refine g_getI (j := 7) C dX4_open_44 rfl (Nat.le_of_ble_eq_true rfl) (Nat.le_of_ble_eq_true rfl) fl_4_146 rfl rfl (fun i10 => ?_)
      obtain ⟨σ11, qσ11, h⟩ := bnd h
      refine g_iast C dX4_open_47 rfl rfl qσ11 i9 i10 ?_
      refine g_aload_n C dX4_open_48 rfl ?_
      refine g_dup C dX4_open_49 rfl ?_
      refine g_getI (j := 6) C dX4_open_50 rfl (Nat.le_of_ble_eq_true rfl) (Nat.le_of_ble_eq_true rfl) fl_4_37 rfl rfl (fun i12 => ?_)
      refine g_iconst C dX4_open_53 ?_
      refine g_iadd C dX4_open_54 ?_
      obtain ⟨σ13, qσ13, h⟩ := bnd h
      refine g_putI (j := 6) C dX4_open_55 rfl (Nat.le_of_ble_eq_true rfl) (Nat.le_of_ble_eq_true rfl) fl_4_37 rfl rfl rfl rfl qσ13 (iwr _) ?_
      refine g_aload_n C dX4_open_58 rfl ?_
      refine g_iload_n C dX4_open_59 rfl ?_
      obtain ⟨⟨x14, σ15⟩, qx14, h⟩ := bnd h
      refine g_callV1 (As := [iv a1]) C dX4_open_60 mi_X4_accept ml_4_104 (ct_X4_accept ia1 qx14) rfl rfl ⟨rfl, rfl⟩ ⟨Nat.le_of_ble_eq_true rfl, Nat.le_of_ble_eq_true rfl⟩ ⟨Nat.zero_le _, Nat.zero_le _⟩ rfl (Nat.le_of_ble_eq_true rfl) (fun ix14 => ?_)
      exact g_zretP C dX4_open_63 hr hlk h ix14
    · have h := ifF c6 h
      refine g_aload_n C dX4_open_16 rfl ?_
      refine g_iconst C dX4_open_17 ?_
      obtain ⟨⟨x16, σ17⟩, qx16, h⟩ := bnd h
      refine g_callV1 (As := [iv 2]) C dX4_open_18 mi_X4_fail ml_4_97 (ct_X4_fail (by decide) qx16) rfl rfl ⟨rfl, rfl⟩ ⟨Nat.le_of_ble_eq_true rfl, Nat.le_of_ble_eq_true rfl⟩ ⟨Nat.zero_le _, Nat.zero_le _⟩ rfl (Nat.le_of_ble_eq_true rfl) (fun ix16 => ?_)
      exact g_zretP C dX4_open_21 hr hlk h ix16
theorem dX4_loopHead_0 : decode cX4_loopHead 0 = .ok (.aload_n 0, 1) := by decide +kernel
theorem dX4_loopHead_1 : decode cX4_loopHead 1 = .ok (.bipush 13, 2) := by decide +kernel
theorem dX4_loopHead_3 : decode cX4_loopHead 3 = .ok (.invokevirtual 149, 3) := by decide +kernel
theorem dX4_loopHead_6 : decode cX4_loopHead 6 = .ok (.ifCond .ne 5, 3) := by decide +kernel
theorem dX4_loopHead_9 : decode cX4_loopHead 9 = .ok (.iconst 0, 1) := by decide +kernel
theorem dX4_loopHead_10 : decode cX4_loopHead 10 = .ok (.ireturn, 1) := by decide +kernel
theorem dX4_loopHead_11 : decode cX4_loopHead 11 = .ok (.aload_n 0, 1) := by decide +kernel
theorem dX4_loopHead_12 : decode cX4_loopHead 12 = .ok (.getfield 12, 3) := by decide +kernel
theorem dX4_loopHead_15 : decode cX4_loopHead 15 = .ok (.bipush 13, 2) := by decide +kernel
theorem dX4_loopHead_17 : decode cX4_loopHead 17 = .ok (.aload_n 0, 1) := by decide +kernel
theorem dX4_loopHead_18 : decode cX4_loopHead 18 = .ok (.getfield 86, 3) := by decide +kernel
theorem dX4_loopHead_21 : decode cX4_loopHead 21 = .ok (.iconst 0, 1) := by decide +kernel
theorem dX4_loopHead_22 : decode cX4_loopHead 22 = .ok (.invokevirtual 121, 3) := by decide +kernel
theorem dX4_loopHead_25 : decode cX4_loopHead 25 = .ok (.pop, 1) := by decide +kernel
theorem dX4_loopHead_26 : decode cX4_loopHead 26 = .ok (.aload_n 0, 1) := by decide +kernel
theorem dX4_loopHead_27 : decode cX4_loopHead 27 = .ok (.bipush 95, 2) := by decide +kernel
theorem dX4_loopHead_29 : decode cX4_loopHead 29 = .ok (.invokevirtual 143, 3) := by decide +kernel
theorem dX4_loopHead_32 : decode cX4_loopHead 32 = .ok (.ireturn, 1) := by decide +kernel
abbrev rm_X4_loopHead : Room := { frames := 3, cells := 0, slots := 0, locals := 63 }
set_option maxRecDepth 100000 in
set_option maxHeartbeats 4000000 in
theorem ct_X4_loopHead {w : Wd} {l : Launch} {σ : St} {y : Int} {σ' : St} (h : m_X4_loopHead σ = some (y, σ')) : Ct w l yX4_loopHead (Cond.code yX4_loopHead cX4_loopHead 1 (some .boolean) :: TB) rm_X4_loopHead [rv w 118] σ (some (iv y)) (InZ y) σ' := by
  refine Ct.of2 [some (rv w 118)] 0 rfl pn_RX4 (Nat.le_of_ble_eq_true rfl) ?_
  intro p e s m args below meth c C hr hlk
  unfold m_X4_loopHead at h
  refine g_aload_n C dX4_loopHead_0 rfl ?_
  refine g_bipush C dX4_loopHead_1 rfl ?_
  obtain ⟨⟨x1, σ2⟩, qx1, h⟩ := bnd h
  refine g_callV1 (As := [iv 13]) C dX4_loopHead_3 mi_X4_open ml_4_149 (ct_X4_open (by decide) qx1) rfl rfl ⟨rfl, rfl⟩ ⟨Nat.le_of_ble_eq_true rfl, Nat.le_of_ble_eq_true rfl⟩ ⟨Nat.zero_le _, Nat.zero_le _⟩ rfl (Nat.le_of_ble_eq_true rfl) (fun ix1 => ?_)
  refine g_if_ne C dX4_loopHead_6 (zI ix1) rfl (tgt := 11) (fun c3 => ?_) (fun c3 => ?_)
  · have h := ifF c3 h
    refine g_aload_n C dX4_loopHead_11 rfl ?_
    refine g_getR (j := 0) C dX4_loopHead_12 rfl (Nat.le_of_ble_eq_true rfl) (Nat.le_of_ble_eq_true rfl) fl_4_12 rfl rfl (r := 119) rfl ?_
    refine g_bipush C dX4_loopHead_15 rfl ?_
    refine g_aload_n C dX4_loopHead_17 rfl ?_
    refine g_getI (j := 13) C dX4_loopHead_18 rfl (Nat.le_of_ble_eq_true rfl) (Nat.le_of_ble_eq_true rfl) fl_4_86 rfl rfl (fun i4 => ?_)
    refine g_iconst C dX4_loopHead_21 ?_
    obtain ⟨⟨x5, σ6⟩, qx5, h⟩ := bnd h
    refine g_callV1 (As := [iv 13, iv (σ2 118 13), iv 0]) C dX4_loopHead_22 mi_X5_add ml_4_121 (ct_X5_add rfl (by decide) i4 (by decide) qx5) rfl rfl ⟨rfl, rfl⟩ ⟨Nat.le_of_ble_eq_true rfl, Nat.le_of_ble_eq_true rfl⟩ ⟨Nat.zero_le _, Nat.zero_le _⟩ rfl (Nat.le_of_ble_eq_true rfl) (fun ix5 => ?_)
    refine g_pop C dX4_loopHead_25 rfl ?_
    refine g_aload_n C dX4_loopHead_26 rfl ?_
    refine g_bipush C dX4_loopHead_27 rfl ?_
    obtain ⟨⟨x7, σ8⟩, qx7, h⟩ := bnd h
    refine g_callV1 (As := [iv 95]) C dX4_loopHead_29 mi_X4_acceptNumber ml_4_143 (ct_X4_acceptNumber (by decide) qx7) rfl rfl ⟨rfl, rfl⟩ ⟨Nat.le_of_ble_eq_true rfl, Nat.le_of_ble_eq_true rfl⟩ ⟨Nat.zero_le _, Nat.zero_le _⟩ rfl (Nat.le_of_ble_eq_true rfl) (fun ix7 => ?_)
    exact g_zretP C dX4_loopHead_32 hr hlk h ix7
  · have h := ifT c3 h
    refine g_iconst C dX4_loopHead_9 ?_
    exact g_zretP C dX4_loopHead_10 hr hlk h (Or.inl rfl)
theorem dX4_mostOfTest_0 : decode cX4_mostOfTest 0 = .ok (.iload_n 0, 1) := by decide +kernel
theorem dX4_mostOfTest_1 : decode cX4_mostOfTest 1 = .ok (.tableswitch 96 8 24 #[85, 96, 85, 91, 96, 96, 83, 96, 96, 85, 96, 96, 96, 96, 94, 96, 88], 83) := by decide +kernel
theorem dX4_mostOfTest_84 : decode cX4_mostOfTest 84 = .ok (.iconst 3, 1) := by decide +kernel
theorem dX4_mostOfTest_85 : decode cX4_mostOfTest 85 = .ok (.ireturn, 1) := by decide +kernel
theorem dX4_mostOfTest_86 : decode cX4_mostOfTest 86 = .ok (.bipush 7, 2) := by decide +kernel
theorem dX4_mostOfTest_88 : decode cX4_mostOfTest 88 = .ok (.ireturn, 1) := by decide +kernel
theorem dX4_mostOfTest_89 : decode cX4_mostOfTest 89 = .ok (.bipush 7, 2) := by decide +kernel
theorem dX4_mostOfTest_91 : decode cX4_mostOfTest 91 = .ok (.ireturn, 1) := by decide +kernel
theorem dX4_mostOfTest_92 : decode cX4_mostOfTest 92 = .ok (.bipush 95, 2) := by decide +kernel
theorem dX4_mostOfTest_94 : decode cX4_mostOfTest 94 = .ok (.ireturn, 1) := by decide +kernel
theorem dX4_mostOfTest_95 : decode cX4_mostOfTest 95 = .ok (.iconst 0, 1) := by decide +kernel
theorem dX4_mostOfTest_96 : decode cX4_mostOfTest 96 = .ok (.ireturn, 1) := by decide +kernel
theorem dX4_mostOfTest_97 : decode cX4_mostOfTest 97 = .ok (.iconst (-1), 1) := by decide +kernel
theorem dX4_mostOfTest_98 : decode cX4_mostOfTest 98 = .ok (.ireturn, 1) := by decide +kernel
abbrev rm_X4_mostOfTest : Room := { frames := 0, cells := 0, slots := 0, locals := 0 }
set_option maxRecDepth 100000 in
set_option maxHeartbeats 4000000 in
theorem ct_X4_mostOfTest {w : Wd} {l : Launch} {a1 : Int} {σ : St} {y : Int} (ia1 : InI a1) (h : m_X4_mostOfTest a1 σ = some y) : Ct w l yX4_mostOfTest (Cond.code yX4_mostOfTest cX4_mostOfTest 1 (some .int) :: TB) rm_X4_mostOfTest [iv a1] σ (some (iv y)) (InI y) σ := by
  refine Ct.of2 [some (iv a1)] 0 rfl pn_RX4 (Nat.le_of_ble_eq_true rfl) ?_
  intro p e s m args below meth c C hr hlk
  unfold m_X4_mostOfTest at h
  refine g_iload_n C dX4_mostOfTest_0 rfl ?_
  by_cases c1 : a1 = 8
  · have h := ifT c1 h
    refine g_tabI C dX4_mostOfTest_1 ia1 (by rw [c1]; decide) (by rw [c1]; decide) (by rw [c1] <;> rfl) rfl (tgt := 86) ?_
    refine g_bipush C dX4_mostOfTest_86 rfl ?_
    exact g_iretU C dX4_mostOfTest_88 hr hlk h (by decide)
  have h := ifF c1 h
  by_cases c2 : a1 = 10
  · have h := ifT c2 h
    refine g_tabI C dX4_mostOfTest_1 ia1 (by rw [c2]; decide) (by rw [c2]; decide) (by rw [c2] <;> rfl) rfl (tgt := 86) ?_
    refine g_bipush C dX4_mostOfTest_86 rfl ?_
    exact g_iretU C dX4_mostOfTest_88 hr hlk h (by decide)
  have h := ifF c2 h
  by_cases c3 : a1 = 11
  · have h := ifT c3 h
    refine g_tabI C dX4_mostOfTest_1 ia1 (by rw [c3]; decide) (by rw [c3]; decide) (by rw [c3] <;> rfl) rfl (tgt := 92) ?_
    refine g_bipush C dX4_mostOfTest_92 rfl ?_
    exact g_iretU C dX4_mostOfTest_94 hr hlk h (by decide)
  have h := ifF c3 h
  by_cases c4 : a1 = 14
  · have h := ifT c4 h
    refine g_tabI C dX4_mostOfTest_1 ia1 (by rw [c4]; decide) (by rw [c4]; decide) (by rw [c4] <;> rfl) rfl (tgt := 84) ?_
    refine g_iconst C dX4_mostOfTest_84 ?_
    exact g_iretU C dX4_mostOfTest_85 hr hlk h (by decide)
  have h := ifF c4 h
  by_cases c5 : a1 = 17
  · have h := ifT c5 h
    refine g_tabI C dX4_mostOfTest_1 ia1 (by rw [c5]; decide) (by rw [c5]; decide) (by rw [c5] <;> rfl) rfl (tgt := 86) ?_
    refine g_bipush C dX4_mostOfTest_86 rfl ?_
    exact g_iretU C dX4_mostOfTest_88 hr hlk h (by decide)
  have h := ifF c5 h
  by_cases c6 : a1 = 22
  · have h := ifT c6 h
    refine g_tabI C dX4_mostOfTest_1 ia1 (by rw [c6]; decide) (by rw [c6]; decide) (by rw [c6] <;> rfl) rfl (tgt := 95) ?_
    refine g_iconst C dX4_mostOfTest_95 ?_
    exact g_iretU C dX4_mostOfTest_96 hr hlk h (by decide)
  have h := ifF c6 h
  by_cases c7 : a1 = 24
  · have h := ifT c7 h
    refine g_tabI C dX4_mostOfTest_1 ia1 (by rw [c7]; decide) (by rw [c7]; decide) (by rw [c7] <;> rfl) rfl (tgt := 89) ?_
    refine g_bipush C dX4_mostOfTest_89 rfl ?_
    exact g_iretU C dX4_mostOfTest_91 hr hlk h (by decide)
  have h := ifF c7 h
  have hD8 : GM w p l e rm_X4_mostOfTest s m args below meth c (some (iv y)) (InI y) σ 1 97 [some (iv a1)] [] σ := by
    refine g_iconst C dX4_mostOfTest_97 ?_
    exact g_iretU C dX4_mostOfTest_98 hr hlk h (by decide)
  by_cases c9 : a1 = 9
  · exact g_tabI C dX4_mostOfTest_1 ia1 (by rw [c9]; decide) (by rw [c9]; decide) (by rw [c9] <;> rfl) rfl (tgt := 97) hD8
  by_cases c10 : a1 = 12
  · exact g_tabI C dX4_mostOfTest_1 ia1 (by rw [c10]; decide) (by rw [c10]; decide) (by rw [c10] <;> rfl) rfl (tgt := 97) hD8
  by_cases c11 : a1 = 13
  · exact g_tabI C dX4_mostOfTest_1 ia1 (by rw [c11]; decide) (by rw [c11]; decide) (by rw [c11] <;> rfl) rfl (tgt := 97) hD8
  by_cases c12 : a1 = 15
  · exact g_tabI C dX4_mostOfTest_1 ia1 (by rw [c12]; decide) (by rw [c12]; decide) (by rw [c12] <;> rfl) rfl (tgt := 97) hD8
  by_cases c13 : a1 = 16
  · exact g_tabI C dX4_mostOfTest_1 ia1 (by rw [c13]; decide) (by rw [c13]; decide) (by rw [c13] <;> rfl) rfl (tgt := 97) hD8
  by_cases c14 : a1 = 18
  · exact g_tabI C dX4_mostOfTest_1 ia1 (by rw [c14]; decide) (by rw [c14]; decide) (by rw [c14] <;> rfl) rfl (tgt := 97) hD8
  by_cases c15 : a1 = 19
  · exact g_tabI C dX4_mostOfTest_1 ia1 (by rw [c15]; decide) (by rw [c15]; decide) (by rw [c15] <;> rfl) rfl (tgt := 97) hD8
  by_cases c16 : a1 = 20
  · exact g_tabI C dX4_mostOfTest_1 ia1 (by rw [c16]; decide) (by rw [c16]; decide) (by rw [c16] <;> rfl) rfl (tgt := 97) hD8
  by_cases c17 : a1 = 21
  · exact g_tabI C dX4_mostOfTest_1 ia1 (by rw [c17]; decide) (by rw [c17]; decide) (by rw [c17] <;> rfl) rfl (tgt := 97) hD8
  by_cases c18 : a1 = 23
  · exact g_tabI C dX4_mostOfTest_1 ia1 (by rw [c18]; decide) (by rw [c18]; decide) (by rw [c18] <;> rfl) rfl (tgt := 97) hD8
  exact g_tabO C dX4_mostOfTest_1 ia1 (by omega) rfl (tgt := 97) hD8
theorem dX4_ifHead_0 : decode cX4_ifHead 0 = .ok (.aload_n 0, 1) := by decide +kernel
theorem dX4_ifHead_1 : decode cX4_ifHead 1 = .ok (.bipush 9, 2) := by decide +kernel
theorem dX4_ifHead_3 : decode cX4_ifHead 3 = .ok (.invokevirtual 149, 3) := by decide +kernel
theorem dX4_ifHead_6 : decode cX4_ifHead 6 = .ok (.ifCond .ne 5, 3) := by decide +kernel
theorem dX4_ifHead_9 : decode cX4_ifHead 9 = .ok (.iconst 0, 1) := by decide +kernel
theorem dX4_ifHead_10 : decode cX4_ifHead 10 = .ok (.ireturn, 1) := by decide +kernel
theorem dX4_ifHead_11 : decode cX4_ifHead 11 = .ok (.iconst 1, 1) := by decide +kernel
theorem dX4_ifHead_12 : decode cX4_ifHead 12 = .ok (.istore_n 1, 1) := by decide +kernel
theorem dX4_ifHead_13 : decode cX4_ifHead 13 = .ok (.iconst 0, 1) := by decide +kernel
theorem dX4_ifHead_14 : decode cX4_ifHead 14 = .ok (.istore_n 2, 1) := by decide +kernel
theorem dX4_ifHead_15 : decode cX4_ifHead 15 = .ok (.iload_n 2, 1) := by decide +kernel
theorem dX4_ifHead_16 : decode cX4_ifHead 16 = .ok (.sipush 500, 3) := by decide +kernel
theorem dX4_ifHead_19 : decode cX4_ifHead 19 = .ok (.if_icmp .gt 39, 3) := by decide +kernel
theorem dX4_ifHead_22 : decode cX4_ifHead 22 = .ok (.aload_n 0, 1) := by decide +kernel
theorem dX4_ifHead_23 : decode cX4_ifHead 23 = .ok (.getfield 74, 3) := by decide +kernel
theorem dX4_ifHead_26 : decode cX4_ifHead 26 = .ok (.bipush 16, 2) := by decide +kernel
theorem dX4_ifHead_28 : decode cX4_ifHead 28 = .ok (.if_icmp .ne 30, 3) := by decide +kernel
theorem dX4_ifHead_31 : decode cX4_ifHead 31 = .ok (.aload_n 0, 1) := by decide +kernel
theorem dX4_ifHead_32 : decode cX4_ifHead 32 = .ok (.bipush 16, 2) := by decide +kernel
theorem dX4_ifHead_34 : decode cX4_ifHead 34 = .ok (.invokevirtual 104, 3) := by decide +kernel
theorem dX4_ifHead_37 : decode cX4_ifHead 37 = .ok (.ifCond .ne 5, 3) := by decide +kernel
theorem dX4_ifHead_40 : decode cX4_ifHead 40 = .ok (.iconst 0, 1) := by decide +kernel
theorem dX4_ifHead_41 : decode cX4_ifHead 41 = .ok (.ireturn, 1) := by decide +kernel
theorem dX4_ifHead_42 : decode cX4_ifHead 42 = .ok (.iload_n 1, 1) := by decide +kernel
theorem dX4_ifHead_43 : decode cX4_ifHead 43 = .ok (.ifCond .ne 7, 3) := by decide +kernel
theorem dX4_ifHead_46 : decode cX4_ifHead 46 = .ok (.iconst 1, 1) := by decide +kernel
theorem dX4_ifHead_47 : decode cX4_ifHead 47 = .ok (.goto 4, 3) := by decide +kernel
theorem dX4_ifHead_50 : decode cX4_ifHead 50 = .ok (.iconst 0, 1) := by decide +kernel
theorem dX4_ifHead_51 : decode cX4_ifHead 51 = .ok (.istore_n 1, 1) := by decide +kernel
theorem dX4_ifHead_52 : decode cX4_ifHead 52 = .ok (.iinc 2 1, 3) := by decide +kernel
theorem dX4_ifHead_55 : decode cX4_ifHead 55 = .ok (.goto (-40), 3) := by decide +kernel
theorem dX4_ifHead_58 : decode cX4_ifHead 58 = .ok (.aload_n 0, 1) := by decide +kernel
theorem dX4_ifHead_59 : decode cX4_ifHead 59 = .ok (.getfield 74, 3) := by decide +kernel
theorem dX4_ifHead_62 : decode cX4_ifHead 62 = .ok (.istore_n 2, 1) := by decide +kernel
theorem dX4_ifHead_63 : decode cX4_ifHead 63 = .ok (.iload_n 2, 1) := by decide +kernel
theorem dX4_ifHead_64 : decode cX4_ifHead 64 = .ok (.invokestatic 152, 3) := by decide +kernel
theorem dX4_ifHead_67 : decode cX4_ifHead 67 = .ok (.istore_n 3, 1) := by decide +kernel
theorem dX4_ifHead_68 : decode cX4_ifHead 68 = .ok (.iload_n 3, 1) := by decide +kernel
theorem dX4_ifHead_69 : decode cX4_ifHead 69 = .ok (.iconst (-1), 1) := by decide +kernel
theorem dX4_ifHead_70 : decode cX4_ifHead 70 = .ok (.if_icmp .ne 9, 3) := by decide +kernel
theorem dX4_ifHead_73 : decode cX4_ifHead 73 = .ok (.aload_n 0, 1) := by decide +kernel
theorem dX4_ifHead_74 : decode cX4_ifHead 74 = .ok (.iconst 1, 1) := by decide +kernel
theorem dX4_ifHead_75 : decode cX4_ifHead 75 = .ok (.invokevirtual 97, 3) := by decide +kernel
theorem dX4_ifHead_78 : decode cX4_ifHead 78 = .ok (.ireturn, 1) := by decide +kernel
theorem dX4_ifHead_79 : decode cX4_ifHead 79 = .ok (.aload_n 0, 1) := by decide +kernel
theorem dX4_ifHead_80 : decode cX4_ifHead 80 = .ok (.iload_n 2, 1) := by decide +kernel
theorem dX4_ifHead_81 : decode cX4_ifHead 81 = .ok (.invokevirtual 104, 3) := by decide +kernel
theorem dX4_ifHead_84 : decode cX4_ifHead 84 = .ok (.ifCond .ne 5, 3) := by decide +kernel
theorem dX4_ifHead_87 : decode cX4_ifHead 87 = .ok (.iconst 0, 1) := by decide +kernel
theorem dX4_ifHead_88 : decode cX4_ifHead 88 = .ok (.ireturn, 1) := by decide +kernel
theorem dX4_ifHead_89 : decode cX4_ifHead 89 = .ok (.aload_n 0, 1) := by decide +kernel
theorem dX4_ifHead_90 : decode cX4_ifHead 90 = .ok (.getfield 12, 3) := by decide +kernel
theorem dX4_ifHead_93 : decode cX4_ifHead 93 = .ok (.iload_n 2, 1) := by decide +kernel
theorem dX4_ifHead_94 : decode cX4_ifHead 94 = .ok (.aload_n 0, 1) := by decide +kernel
theorem dX4_ifHead_95 : decode cX4_ifHead 95 = .ok (.getfield 86, 3) := by decide +kernel
theorem dX4_ifHead_98 : decode cX4_ifHead 98 = .ok (.iload_n 1, 1) := by decide +kernel
theorem dX4_ifHead_99 : decode cX4_ifHead 99 = .ok (.invokevirtual 156, 3) := by decide +kernel
theorem dX4_ifHead_102 : decode cX4_ifHead 102 = .ok (.iload_n 2, 1) := by decide +kernel
theorem dX4_ifHead_103 : decode cX4_ifHead 103 = .ok (.bipush 22, 2) := by decide +kernel
theorem dX4_ifHead_105 : decode cX4_ifHead 105 = .ok (.if_icmp .eq 11, 3) := by decide +kernel
theorem dX4_ifHead_108 : decode cX4_ifHead 108 = .ok (.aload_n 0, 1) := by decide +kernel
theorem dX4_ifHead_109 : decode cX4_ifHead 109 = .ok (.iload_n 3, 1) := by decide +kernel
theorem dX4_ifHead_110 : decode cX4_ifHead 110 = .ok (.invokevirtual 143, 3) := by decide +kernel
theorem dX4_ifHead_113 : decode cX4_ifHead 113 = .ok (.ifCond .eq 7, 3) := by decide +kernel
theorem dX4_ifHead_116 : decode cX4_ifHead 116 = .ok (.iconst 1, 1) := by decide +kernel
theorem dX4_ifHead_117 : decode cX4_ifHead 117 = .ok (.goto 4, 3) := by decide +kernel
theorem dX4_ifHead_120 : decode cX4_ifHead 120 = .ok (.iconst 0, 1) := by decide +kernel
theorem dX4_ifHead_121 : decode cX4_ifHead 121 = .ok (.ireturn, 1) := by decide +kernel
abbrev rm_X4_ifHead : Room := { frames := 3, cells := 0, slots := 0, locals := 63 }
set_option maxRecDepth 100000 in
set_option maxHeartbeats 4000000 in
theorem ct_X4_ifHead {w : Wd} {l : Launch} {σ : St} {y : Int} {σ' : St} (h : m_X4_ifHead σ = some (y, σ')) : Ct w l yX4_ifHead (Cond.code yX4_ifHead cX4_ifHead 4 (some .boolean) :: TB) rm_X4_ifHead [rv w 118] σ (some (iv y)) (InZ y) σ' := by
  refine Ct.of2 [some (rv w 118), none, none, none] 3 rfl pn_RX4 (Nat.le_of_ble_eq_true rfl) ?_
  intro p e s m args below meth c C hr hlk
  unfold m_X4_ifHead at h
  refine g_aload_n C dX4_ifHead_0 rfl ?_
  refine g_bipush C dX4_ifHead_1 rfl ?_
  obtain ⟨⟨x1, σ2⟩, qx1, h⟩ := bnd h
  refine g_callV1 (As := [iv 9]) C dX4_ifHead_3 mi_X4_open ml_4_149 (ct_X4_open (by decide) qx1) rfl rfl ⟨rfl, rfl⟩ ⟨Nat.le_of_ble_eq_true rfl, Nat.le_of_ble_eq_true rfl⟩ ⟨Nat.zero_le _, Nat.zero_le _⟩ rfl (Nat.le_of_ble_eq_true rfl) (fun ix1 => ?_)
  refine g_if_ne C dX4_ifHead_6 (zI ix1) rfl (tgt := 11) (fun c3 => ?_) (fun c3 => ?_)
  · have h := ifF c3 h
    refine g_iconst C dX4_ifHead_11 ?_
    refine g_istore_n (L1 := [some (rv w 118), some (iv 1), none, none]) C dX4_ifHead_12 rfl (Nat.le_of_ble_eq_true rfl) rfl ?_
    refine g_iconst C dX4_ifHead_13 ?_
    refine g_istore_n (L1 := [some (rv w 118), some (iv 1), some (iv 0), none]) C dX4_ifHead_14 rfl (Nat.le_of_ble_eq_true rfl) rfl ?_
    obtain ⟨b4, hb4, hF4⟩ := bnd h
    have hX4 : ∀ (x15 : Int) (σ16 : St) , InZ x15 → Sum.inl (x15, σ16) = b4 → GM w p l e rm_X4_ifHead s m args below meth c (some (iv y)) (InZ y) σ' 4 58 [some (rv w 118), some (iv x15), none, none] [] σ16 := by
      intro x15 σ16 ix15 q
      subst q
      have h := hF4
      refine g_aload_n C dX4_ifHead_58 rfl ?_
      refine g_getI (j := 11) C dX4_ifHead_59 rfl (Nat.le_of_ble_eq_true rfl) (Nat.le_of_ble_eq_true rfl) fl_4_74 rfl rfl (fun i17 => ?_)
      refine g_istore_n (L1 := [some (rv w 118), some (iv x15), some (iv (σ16 118 11)), none]) C dX4_ifHead_62 rfl (Nat.le_of_ble_eq_true rfl) rfl ?_
      refine g_iload_n C dX4_ifHead_63 rfl ?_
      obtain ⟨x18, qx18, h⟩ := bnd h
      refine g_callS1 (As := [iv (σ16 118 11)]) C dX4_ifHead_64 mi_X4_mostOfTest ml_4_152 (ct_X4_mostOfTest i17 qx18) rfl ⟨rfl, rfl⟩ ⟨Nat.le_of_ble_eq_true rfl, Nat.le_of_ble_eq_true rfl⟩ ⟨Nat.zero_le _, Nat.zero_le _⟩ rfl (Nat.le_of_ble_eq_true rfl) (fun ix18 => ?_)
      refine g_istore_n (L1 := [some (rv w 118), some (iv x15), some (iv (σ16 118 11)), some (iv x18)]) C dX4_ifHead_67 rfl (Nat.le_of_ble_eq_true rfl) rfl ?_
      refine g_iload_n C dX4_ifHead_68 rfl ?_
      refine g_iconst C dX4_ifHead_69 ?_
      refine g_icmp_ne C dX4_ifHead_70 ix18 (by decide) rfl (tgt := 79) (fun c19 => ?_) (fun c19 => ?_)
      · have h := ifF c19 h
        refine g_aload_n C dX4_ifHead_79 rfl ?_
        refine g_iload_n C dX4_ifHead_80 rfl ?_
        obtain ⟨⟨x20, σ21⟩, qx20, h⟩ := bnd h
        refine g_callV1 (As := [iv (σ16 118 11)]) C dX4_ifHead_81 mi_X4_accept ml_4_104 (ct_X4_accept i17 qx20) rfl rfl ⟨rfl, rfl⟩ ⟨Nat.le_of_ble_eq_true rfl, Nat.le_of_ble_eq_true rfl⟩ ⟨Nat.zero_le _, Nat.zero_le _⟩ rfl (Nat.le_of_ble_eq_true rfl) (fun ix20 => ?_)
        refine g_if_ne C dX4_ifHead_84 (zI ix20) rfl (tgt := 89) (fun c22 => ?_) (fun c22 => ?_)
        · have h := ifF c22 h
          refine g_aload_n C dX4_ifHead_89 rfl ?_
          refine g_getR (j := 0) C dX4_ifHead_90 rfl (Nat.le_of_ble_eq_true rfl) (Nat.le_of_ble_eq_true rfl) fl_4_12 rfl rfl (r := 119) rfl ?_
          refine g_iload_n C dX4_ifHead_93 rfl ?_
          refine g_aload_n C dX4_ifHead_94 rfl ?_
          refine g_getI (j := 13) C dX4_ifHead_95 rfl (Nat.le_of_ble_eq_true rfl) (Nat.le_of_ble_eq_true rfl) fl_4_86 rfl rfl (fun i23 => ?_)
          refine g_iload_n C dX4_ifHead_98 rfl ?_
          obtain ⟨σ24, qσ24, h⟩ := bnd h
          refine g_callV0 (As := [iv (σ16 118 11), iv (σ21 118 13), iv x15]) C dX4_ifHead_99 mi_X5_addIf ml_4_156 (ct_X5_addIf rfl i17 i23 ix15 qσ24) rfl rfl ⟨rfl, rfl⟩ ⟨Nat.le_of_ble_eq_true rfl, Nat.le_of_ble_eq_true rfl⟩ ⟨Nat.zero_le _, Nat.zero_le _⟩ rfl (Nat.le_of_ble_eq_true rfl) (fun _ => ?_)
          refine g_iload_n C dX4_ifHead_102 rfl ?_
          refine g_bipush C dX4_ifHead_103 rfl ?_
          refine g_icmp_eq C dX4_ifHead_105 i17 (by decide) rfl (tgt := 116) (fun c25 => ?_) (fun c25 => ?_)
          · have h := ifT c25 h
            refine g_iconst C dX4_ifHead_116 ?_
            refine g_goto C dX4_ifHead_117 rfl (tgt := 121) ?_
            exact g_zretP C dX4_ifHead_121 hr hlk h (Or.inr rfl)
          · have h := ifF c25 h
            refine g_aload_n C dX4_ifHead_108 rfl ?_
            refine g_iload_n C dX4_ifHead_109 rfl ?_
            obtain ⟨⟨x26, σ27⟩, qx26, h⟩ := bnd h
            refine g_callV1 (As := [iv x18]) C dX4_ifHead_110 mi_X4_acceptNumber ml_4_143 (ct_X4_acceptNumber ix18 qx26) rfl rfl ⟨rfl, rfl⟩ ⟨Nat.le_of_ble_eq_true rfl, Nat.le_of_ble_eq_true rfl⟩ ⟨Nat.zero_le _, Nat.zero_le _⟩ rfl (Nat.le_of_ble_eq_true rfl) (fun ix26 => ?_)
            refine g_if_eq C dX4_ifHead_113 (zI ix26) rfl (tgt := 120) (fun c28 => ?_) (fun c28 => ?_)
            · have h := ifT c28 h
              refine g_iconst C dX4_ifHead_120 ?_
              exact g_zretP C dX4_ifHead_121 hr hlk h (Or.inl rfl)
            · have h := ifF c28 h
              refine g_iconst C dX4_ifHead_116 ?_
              refine g_goto C dX4_ifHead_117 rfl (tgt := 121) ?_
              exact g_zretP C dX4_ifHead_121 hr hlk h (Or.inr rfl)
        · have h := ifT c22 h
          refine g_iconst C dX4_ifHead_87 ?_
          exact g_zretP C dX4_ifHead_88 hr hlk h (Or.inl rfl)
      · have h := ifT c19 h
        refine g_aload_n C dX4_ifHead_73 rfl ?_
        refine g_iconst C dX4_ifHead_74 ?_
        obtain ⟨⟨x29, σ30⟩, qx29, h⟩ := bnd h
        refine g_callV1 (As := [iv 1]) C dX4_ifHead_75 mi_X4_fail ml_4_97 (ct_X4_fail (by decide) qx29) rfl rfl ⟨rfl, rfl⟩ ⟨Nat.le_of_ble_eq_true rfl, Nat.le_of_ble_eq_true rfl⟩ ⟨Nat.zero_le _, Nat.zero_le _⟩ rfl (Nat.le_of_ble_eq_true rfl) (fun ix29 => ?_)
        exact g_zretP C dX4_ifHead_78 hr hlk h ix29
    have hL4 : ∀ (n : Nat) (x5 : Int) (x6 : Int) (σ7 : St) , InZ x5 → InI x6 → lpN (fun a => m_X4_ifHead_L15 a.1 a.2.1 a.2.2) n (x5, x6, σ7) = some b4 → GM w p l e rm_X4_ifHead s m args below meth c (some (iv y)) (InZ y) σ' 4 15 [some (rv w 118), some (iv x5), some (iv x6), none] [] σ7 := by
      intro n
      induction n with
      | zero => intro x5 x6 σ7 ix5 ix6 q; cases q
      | succ n ih4 =>
        intro x5 x6 σ7 ix5 ix6 q
        obtain ⟨o4, h, hk4⟩ := lp_step q
        replace h : m_X4_ifHead_L15 x5 x6 σ7 = some o4 := h
        unfold m_X4_ifHead_L15 at h
        refine g_iload_n C dX4_ifHead_15 rfl ?_
        refine g_sipush C dX4_ifHead_16 rfl ?_
        refine g_icmp_gt C dX4_ifHead_19 ix6 (by decide) rfl (tgt := 58) (fun c8 => ?_) (fun c8 => ?_)
        · have h := ifT c8 h
          refine g_mask [true, true, false, true] ?_
          obtain rfl := Option.some.inj h
          exact hX4 x5 σ7 ix5 (lpR hk4).symm
        · have h := ifF c8 h
          refine g_aload_n C dX4_ifHead_22 rfl ?_
          refine g_getI (j := 11) C dX4_ifHead_23 rfl (Nat.le_of_ble_eq_true rfl) (Nat.le_of_ble_eq_true rfl) fl_4_74 rfl rfl (fun i9 => ?_)
          refine g_bipush C dX4_ifHead_26 rfl ?_
          refine g_icmp_ne C dX4_ifHead_28 i9 (by decide) rfl (tgt := 58) (fun c10 => ?_) (fun c10 => ?_)
          · have h := ifF c10 h
            refine g_mask [true, true, false, true] ?_
            obtain rfl := Option.some.inj h
            exact hX4 x5 σ7 ix5 (lpR hk4).symm
          · have h := ifT c10 h
            refine g_aload_n C dX4_ifHead_31 rfl ?_
            refine g_bipush C dX4_ifHead_32 rfl ?_
            obtain ⟨⟨x11, σ12⟩, qx11, h⟩ := bnd h
            refine g_callV1 (As := [iv 16]) C dX4_ifHead_34 mi_X4_accept ml_4_104 (ct_X4_accept (by decide) qx11) rfl rfl ⟨rfl, rfl⟩ ⟨Nat.le_of_ble_eq_true rfl, Nat.le_of_ble_eq_true rfl⟩ ⟨Nat.zero_le _, Nat.zero_le _⟩ rfl (Nat.le_of_ble_eq_true rfl) (fun ix11 => ?_)
            refine g_if_ne C dX4_ifHead_37 (zI ix11) rfl (tgt := 42) (fun c13 => ?_) (fun c13 => ?_)
            · have h := ifF c13 h
              refine g_iload_n C dX4_ifHead_42 rfl ?_
              refine g_if_ne C dX4_ifHead_43 (zI ix5) rfl (tgt := 50) (fun c14 => ?_) (fun c14 => ?_)
              · have h := ifF c14 h
                refine g_iconst C dX4_ifHead_50 ?_
                refine g_istore_n (L1 := [some (rv w 118), some (iv 0), some (iv x6), none]) C dX4_ifHead_51 rfl (Nat.le_of_ble_eq_true rfl) rfl ?_
                refine g_iinc (L1 := [some (rv w 118), some (iv 0), some (iv (wr (x6 + 1))), none]) C dX4_ifHead_52 rfl rfl (Nat.le_of_ble_eq_true rfl) rfl ?_
                refine g_goto C dX4_ifHead_55 rfl (tgt := 15) ?_
                obtain rfl := Option.some.inj h
                exact ih4 _ _ _ (Or.inl rfl) (iwr _) (lpL hk4)
              · have h := ifT c14 h
                refine g_iconst C dX4_ifHead_46 ?_
                refine g_goto C dX4_ifHead_47 rfl (tgt := 51) ?_
                refine g_istore_n (L1 := [some (rv w 118), some (iv 1), some (iv x6), none]) C dX4_ifHead_51 rfl (Nat.le_of_ble_eq_true rfl) rfl ?_
                refine g_iinc (L1 := [some (rv w 118), some (iv 1), some (iv (wr (x6 + 1))), none]) C dX4_ifHead_52 rfl rfl (Nat.le_of_ble_eq_true rfl) rfl ?_
                refine g_goto C dX4_ifHead_55 rfl (tgt := 15) ?_
                obtain rfl := Option.some.inj h
                exact ih4 _ _ _ (Or.inr rfl) (iwr _) (lpL hk4)
            · have h := ifT c13 h
              refine g_iconst C dX4_ifHead_40 ?_
              obtain rfl := Option.some.inj h
              have e4 := (lpR hk4).symm
              subst e4
              have h := hF4
              exact g_zretP C dX4_ifHead_41 hr hlk h (Or.inl rfl)
    exact hL4 FU _ _ _ (Or.inr rfl) (by decide) hb4
  · have h := ifT c3 h
    refine g_iconst C dX4_ifHead_9 ?_
    exact g_zretP C dX4_ifHead_10 hr hlk h (Or.inl rfl)
theorem dX4_meetHead_0 : decode cX4_meetHead 0 = .ok (.aload_n 0, 1) := by decide +kernel
theorem dX4_meetHead_1 : decode cX4_meetHead 1 = .ok (.bipush 15, 2) := by decide +kernel
theorem dX4_meetHead_3 : decode cX4_meetHead 3 = .ok (.invokevirtual 149, 3) := by decide +kernel
theorem dX4_meetHead_6 : decode cX4_meetHead 6 = .ok (.ifCond .ne 5, 3) := by decide +kernel
theorem dX4_meetHead_9 : decode cX4_meetHead 9 = .ok (.iconst 0, 1) := by decide +kernel
theorem dX4_meetHead_10 : decode cX4_meetHead 10 = .ok (.ireturn, 1) := by decide +kernel
theorem dX4_meetHead_11 : decode cX4_meetHead 11 = .ok (.aload_n 0, 1) := by decide +kernel
theorem dX4_meetHead_12 : decode cX4_meetHead 12 = .ok (.getfield 86, 3) := by decide +kernel
theorem dX4_meetHead_15 : decode cX4_meetHead 15 = .ok (.istore_n 1, 1) := by decide +kernel
theorem dX4_meetHead_16 : decode cX4_meetHead 16 = .ok (.aload_n 0, 1) := by decide +kernel
theorem dX4_meetHead_17 : decode cX4_meetHead 17 = .ok (.bipush 7, 2) := by decide +kernel
theorem dX4_meetHead_19 : decode cX4_meetHead 19 = .ok (.invokevirtual 143, 3) := by decide +kernel
theorem dX4_meetHead_22 : decode cX4_meetHead 22 = .ok (.ifCond .eq 12, 3) := by decide +kernel
theorem dX4_meetHead_25 : decode cX4_meetHead 25 = .ok (.aload_n 0, 1) := by decide +kernel
theorem dX4_meetHead_26 : decode cX4_meetHead 26 = .ok (.bipush 6, 2) := by decide +kernel
theorem dX4_meetHead_28 : decode cX4_meetHead 28 = .ok (.invokevirtual 104, 3) := by decide +kernel
theorem dX4_meetHead_31 : decode cX4_meetHead 31 = .ok (.ifCond .ne 5, 3) := by decide +kernel
theorem dX4_meetHead_34 : decode cX4_meetHead 34 = .ok (.iconst 0, 1) := by decide +kernel
theorem dX4_meetHead_35 : decode cX4_meetHead 35 = .ok (.ireturn, 1) := by decide +kernel
theorem dX4_meetHead_36 : decode cX4_meetHead 36 = .ok (.aload_n 0, 1) := by decide +kernel
theorem dX4_meetHead_37 : decode cX4_meetHead 37 = .ok (.getfield 12, 3) := by decide +kernel
theorem dX4_meetHead_40 : decode cX4_meetHead 40 = .ok (.bipush 15, 2) := by decide +kernel
theorem dX4_meetHead_42 : decode cX4_meetHead 42 = .ok (.iload_n 1, 1) := by decide +kernel
theorem dX4_meetHead_43 : decode cX4_meetHead 43 = .ok (.aload_n 0, 1) := by decide +kernel
theorem dX4_meetHead_44 : decode cX4_meetHead 44 = .ok (.getfield 86, 3) := by decide +kernel
theorem dX4_meetHead_47 : decode cX4_meetHead 47 = .ok (.invokevirtual 121, 3) := by decide +kernel
theorem dX4_meetHead_50 : decode cX4_meetHead 50 = .ok (.pop, 1) := by decide +kernel
theorem dX4_meetHead_51 : decode cX4_meetHead 51 = .ok (.aload_n 0, 1) := by decide +kernel
theorem dX4_meetHead_52 : decode cX4_meetHead 52 = .ok (.bipush 95, 2) := by decide +kernel
theorem dX4_meetHead_54 : decode cX4_meetHead 54 = .ok (.invokevirtual 143, 3) := by decide +kernel
theorem dX4_meetHead_57 : decode cX4_meetHead 57 = .ok (.ireturn, 1) := by decide +kernel
abbrev rm_X4_meetHead : Room := { frames := 3, cells := 0, slots := 0, locals := 63 }
set_option maxRecDepth 100000 in
set_option maxHeartbeats 4000000 in
theorem ct_X4_meetHead {w : Wd} {l : Launch} {σ : St} {y : Int} {σ' : St} (h : m_X4_meetHead σ = some (y, σ')) : Ct w l yX4_meetHead (Cond.code yX4_meetHead cX4_meetHead 2 (some .boolean) :: TB) rm_X4_meetHead [rv w 118] σ (some (iv y)) (InZ y) σ' := by
  refine Ct.of2 [some (rv w 118), none] 1 rfl pn_RX4 (Nat.le_of_ble_eq_true rfl) ?_
  intro p e s m args below meth c C hr hlk
  unfold m_X4_meetHead at h
  refine g_aload_n C dX4_meetHead_0 rfl ?_
  refine g_bipush C dX4_meetHead_1 rfl ?_
  obtain ⟨⟨x1, σ2⟩, qx1, h⟩ := bnd h
  refine g_callV1 (As := [iv 15]) C dX4_meetHead_3 mi_X4_open ml_4_149 (ct_X4_open (by decide) qx1) rfl rfl ⟨rfl, rfl⟩ ⟨Nat.le_of_ble_eq_true rfl, Nat.le_of_ble_eq_true rfl⟩ ⟨Nat.zero_le _, Nat.zero_le _⟩ rfl (Nat.le_of_ble_eq_true rfl) (fun ix1 => ?_)
  refine g_if_ne C dX4_meetHead_6 (zI ix1) rfl (tgt := 11) (fun c3 => ?_) (fun c3 => ?_)
  · have h := ifF c3 h
    refine g_aload_n C dX4_meetHead_11 rfl ?_
    refine g_getI (j := 13) C dX4_meetHead_12 rfl (Nat.le_of_ble_eq_true rfl) (Nat.le_of_ble_eq_true rfl) fl_4_86 rfl rfl (fun i4 => ?_)
    refine g_istore_n (L1 := [some (rv w 118), some (iv (σ2 118 13))]) C dX4_meetHead_15 rfl (Nat.le_of_ble_eq_true rfl) rfl ?_
    refine g_aload_n C dX4_meetHead_16 rfl ?_
    refine g_bipush C dX4_meetHead_17 rfl ?_
    obtain ⟨⟨x5, σ6⟩, qx5, h⟩ := bnd h
    refine g_callV1 (As := [iv 7]) C dX4_meetHead_19 mi_X4_acceptNumber ml_4_143 (ct_X4_acceptNumber (by decide) qx5) rfl rfl ⟨rfl, rfl⟩ ⟨Nat.le_of_ble_eq_true rfl, Nat.le_of_ble_eq_true rfl⟩ ⟨Nat.zero_le _, Nat.zero_le _⟩ rfl (Nat.le_of_ble_eq_true rfl) (fun ix5 => ?_)
    refine g_if_eq C dX4_meetHead_22 (zI ix5) rfl (tgt := 34) (fun c7 => ?_) (fun c7 => ?_)
    · have h := ifT c7 h
      refine g_iconst C dX4_meetHead_34 ?_
      exact g_zretP C dX4_meetHead_35 hr hlk h (Or.inl rfl)
    · have h := ifF c7 h
      refine g_aload_n C dX4_meetHead_25 rfl ?_
      refine g_bipush C dX4_meetHead_26 rfl ?_
      obtain ⟨⟨x8, σ9⟩, qx8, h⟩ := bnd h
      refine g_callV1 (As := [iv 6]) C dX4_meetHead_28 mi_X4_accept ml_4_104 (ct_X4_accept (by decide) qx8) rfl rfl ⟨rfl, rfl⟩ ⟨Nat.le_of_ble_eq_true rfl, Nat.le_of_ble_eq_true rfl⟩ ⟨Nat.zero_le _, Nat.zero_le _⟩ rfl (Nat.le_of_ble_eq_true rfl) (fun ix8 => ?_)
      refine g_if_ne C dX4_meetHead_31 (zI ix8) rfl (tgt := 36) (fun c10 => ?_) (fun c10 => ?_)
      · have h := ifF c10 h
        refine g_aload_n C dX4_meetHead_36 rfl ?_
        refine g_getR (j := 0) C dX4_meetHead_37 rfl (Nat.le_of_ble_eq_true rfl) (Nat.le_of_ble_eq_true rfl) fl_4_12 rfl rfl (r := 119) rfl ?_
        refine g_bipush C dX4_meetHead_40 rfl ?_
        refine g_iload_n C dX4_meetHead_42 rfl ?_
        refine g_aload_n C dX4_meetHead_43 rfl ?_
        refine g_getI (j := 13) C dX4_meetHead_44 rfl (Nat.le_of_ble_eq_true rfl) (Nat.le_of_ble_eq_true rfl) fl_4_86 rfl rfl (fun i11 => ?_)
        obtain ⟨⟨x12, σ13⟩, qx12, h⟩ := bnd h
        refine g_callV1 (As := [iv 15, iv (σ2 118 13), iv (σ9 118 13)]) C dX4_meetHead_47 mi_X5_add ml_4_121 (ct_X5_add rfl (by decide) i4 i11 qx12) rfl rfl ⟨rfl, rfl⟩ ⟨Nat.le_of_ble_eq_true rfl, Nat.le_of_ble_eq_true rfl⟩ ⟨Nat.zero_le _, Nat.zero_le _⟩ rfl (Nat.le_of_ble_eq_true rfl) (fun ix12 => ?_)
        refine g_pop C dX4_meetHead_50 rfl ?_
        refine g_aload_n C dX4_meetHead_51 rfl ?_
        refine g_bipush C dX4_meetHead_52 rfl ?_
        obtain ⟨⟨x14, σ15⟩, qx14, h⟩ := bnd h
        refine g_callV1 (As := [iv 95]) C dX4_meetHead_54 mi_X4_acceptNumber ml_4_143 (ct_X4_acceptNumber (by decide) qx14) rfl rfl ⟨rfl, rfl⟩ ⟨Nat.le_of_ble_eq_true rfl, Nat.le_of_ble_eq_true rfl⟩ ⟨Nat.zero_le _, Nat.zero_le _⟩ rfl (Nat.le_of_ble_eq_true rfl) (fun ix14 => ?_)
        exact g_zretP C dX4_meetHead_57 hr hlk h ix14
      · have h := ifT c10 h
        refine g_iconst C dX4_meetHead_34 ?_
        exact g_zretP C dX4_meetHead_35 hr hlk h (Or.inl rfl)
  · have h := ifT c3 h
    refine g_iconst C dX4_meetHead_9 ?_
    exact g_zretP C dX4_meetHead_10 hr hlk h (Or.inl rfl)
theorem dX4_elseOfBlock_0 : decode cX4_elseOfBlock 0 = .ok (.aload_n 0, 1) := by decide +kernel
theorem dX4_elseOfBlock_1 : decode cX4_elseOfBlock 1 = .ok (.getfield 37, 3) := by decide +kernel
theorem dX4_elseOfBlock_4 : decode cX4_elseOfBlock 4 = .ok (.iconst 1, 1) := by decide +kernel
theorem dX4_elseOfBlock_5 : decode cX4_elseOfBlock 5 = .ok (.isub, 1) := by decide +kernel
theorem dX4_elseOfBlock_6 : decode cX4_elseOfBlock 6 = .ok (.istore_n 1, 1) := by decide +kernel
theorem dX4_elseOfBlock_7 : decode cX4_elseOfBlock 7 = .ok (.iload_n 1, 1) := by decide +kernel
theorem dX4_elseOfBlock_8 : decode cX4_elseOfBlock 8 = .ok (.ifCond .lt 31, 3) := by decide +kernel
theorem dX4_elseOfBlock_11 : decode cX4_elseOfBlock 11 = .ok (.iload_n 1, 1) := by decide +kernel
theorem dX4_elseOfBlock_12 : decode cX4_elseOfBlock 12 = .ok (.bipush 6, 2) := by decide +kernel
theorem dX4_elseOfBlock_14 : decode cX4_elseOfBlock 14 = .ok (.if_icmp .ge 25, 3) := by decide +kernel
theorem dX4_elseOfBlock_17 : decode cX4_elseOfBlock 17 = .ok (.aload_n 0, 1) := by decide +kernel
theorem dX4_elseOfBlock_18 : decode cX4_elseOfBlock 18 = .ok (.getfield 18, 3) := by decide +kernel
theorem dX4_elseOfBlock_21 : decode cX4_elseOfBlock 21 = .ok (.iload_n 1, 1) := by decide +kernel
theorem dX4_elseOfBlock_22 : decode cX4_elseOfBlock 22 = .ok (.iaload, 1) := by decide +kernel
theorem dX4_elseOfBlock_23 : decode cX4_elseOfBlock 23 = .ok (.bipush 9, 2) := by decide +kernel
theorem dX4_elseOfBlock_25 : decode cX4_elseOfBlock 25 = .ok (.if_icmp .eq 20, 3) := by decide +kernel
theorem dX4_elseOfBlock_28 : decode cX4_elseOfBlock 28 = .ok (.aload_n 0, 1) := by decide +kernel
theorem dX4_elseOfBlock_29 : decode cX4_elseOfBlock 29 = .ok (.getfield 18, 3) := by decide +kernel
theorem dX4_elseOfBlock_32 : decode cX4_elseOfBlock 32 = .ok (.iload_n 1, 1) := by decide +kernel
theorem dX4_elseOfBlock_33 : decode cX4_elseOfBlock 33 = .ok (.iaload, 1) := by decide +kernel
theorem dX4_elseOfBlock_34 : decode cX4_elseOfBlock 34 = .ok (.bipush 15, 2) := by decide +kernel
theorem dX4_elseOfBlock_36 : decode cX4_elseOfBlock 36 = .ok (.if_icmp .eq 9, 3) := by decide +kernel
theorem dX4_elseOfBlock_39 : decode cX4_elseOfBlock 39 = .ok (.aload_n 0, 1) := by decide +kernel
theorem dX4_elseOfBlock_40 : decode cX4_elseOfBlock 40 = .ok (.iconst 1, 1) := by decide +kernel
theorem dX4_elseOfBlock_41 : decode cX4_elseOfBlock 41 = .ok (.invokevirtual 97, 3) := by decide +kernel
theorem dX4_elseOfBlock_44 : decode cX4_elseOfBlock 44 = .ok (.ireturn, 1) := by decide +kernel
theorem dX4_elseOfBlock_45 : decode cX4_elseOfBlock 45 = .ok (.aload_n 0, 1) := by decide +kernel
theorem dX4_elseOfBlock_46 : decode cX4_elseOfBlock 46 = .ok (.getfield 12, 3) := by decide +kernel
theorem dX4_elseOfBlock_49 : decode cX4_elseOfBlock 49 = .ok (.aload_n 0, 1) := by decide +kernel
theorem dX4_elseOfBlock_50 : decode cX4_elseOfBlock 50 = .ok (.getfield 18, 3) := by decide +kernel
theorem dX4_elseOfBlock_53 : decode cX4_elseOfBlock 53 = .ok (.iload_n 1, 1) := by decide +kernel
theorem dX4_elseOfBlock_54 : decode cX4_elseOfBlock 54 = .ok (.iaload, 1) := by decide +kernel
theorem dX4_elseOfBlock_55 : decode cX4_elseOfBlock 55 = .ok (.bipush 15, 2) := by decide +kernel
theorem dX4_elseOfBlock_57 : decode cX4_elseOfBlock 57 = .ok (.if_icmp .ne 8, 3) := by decide +kernel
theorem dX4_elseOfBlock_60 : decode cX4_elseOfBlock 60 = .ok (.bipush 33, 2) := by decide +kernel
theorem dX4_elseOfBlock_62 : decode cX4_elseOfBlock 62 = .ok (.goto 5, 3) := by decide +kernel
theorem dX4_elseOfBlock_65 : decode cX4_elseOfBlock 65 = .ok (.bipush 32, 2) := by decide +kernel
theorem dX4_elseOfBlock_67 : decode cX4_elseOfBlock 67 = .ok (.iconst 0, 1) := by decide +kernel
theorem dX4_elseOfBlock_68 : decode cX4_elseOfBlock 68 = .ok (.iconst 0, 1) := by decide +kernel
theorem dX4_elseOfBlock_69 : decode cX4_elseOfBlock 69 = .ok (.invokevirtual 121, 3) := by decide +kernel
theorem dX4_elseOfBlock_72 : decode cX4_elseOfBlock 72 = .ok (.istore_n 2, 1) := by decide +kernel
theorem dX4_elseOfBlock_73 : decode cX4_elseOfBlock 73 = .ok (.aload_n 0, 1) := by decide +kernel
theorem dX4_elseOfBlock_74 : decode cX4_elseOfBlock 74 = .ok (.getfield 12, 3) := by decide +kernel
theorem dX4_elseOfBlock_77 : decode cX4_elseOfBlock 77 = .ok (.aload_n 0, 1) := by decide +kernel
theorem dX4_elseOfBlock_78 : decode cX4_elseOfBlock 78 = .ok (.getfield 22, 3) := by decide +kernel
theorem dX4_elseOfBlock_81 : decode cX4_elseOfBlock 81 = .ok (.iload_n 1, 1) := by decide +kernel
theorem dX4_elseOfBlock_82 : decode cX4_elseOfBlock 82 = .ok (.iaload, 1) := by decide +kernel
theorem dX4_elseOfBlock_83 : decode cX4_elseOfBlock 83 = .ok (.aload_n 0, 1) := by decide +kernel
theorem dX4_elseOfBlock_84 : decode cX4_elseOfBlock 84 = .ok (.getfield 12, 3) := by decide +kernel
theorem dX4_elseOfBlock_87 : decode cX4_elseOfBlock 87 = .ok (.getfield 146, 3) := by decide +kernel
theorem dX4_elseOfBlock_90 : decode cX4_elseOfBlock 90 = .ok (.invokevirtual 160, 3) := by decide +kernel
theorem dX4_elseOfBlock_93 : decode cX4_elseOfBlock 93 = .ok (.aload_n 0, 1) := by decide +kernel
theorem dX4_elseOfBlock_94 : decode cX4_elseOfBlock 94 = .ok (.getfield 18, 3) := by decide +kernel
theorem dX4_elseOfBlock_97 : decode cX4_elseOfBlock 97 = .ok (.iload_n 1, 1) := by decide +kernel
theorem dX4_elseOfBlock_98 : decode cX4_elseOfBlock 98 = .ok (.iconst 4, 1) := by decide +kernel
theorem dX4_elseOfBlock_99 : decode cX4_elseOfBlock 99 = .ok (.iastore, 1) := by decide +kernel
theorem dX4_elseOfBlock_100 : decode cX4_elseOfBlock 100 = .ok (.aload_n 0, 1) := by decide +kernel
theorem dX4_elseOfBlock_101 : decode cX4_elseOfBlock 101 = .ok (.getfield 22, 3) := by decide +kernel
theorem dX4_elseOfBlock_104 : decode cX4_elseOfBlock 104 = .ok (.iload_n 1, 1) := by decide +kernel
theorem dX4_elseOfBlock_105 : decode cX4_elseOfBlock 105 = .ok (.iload_n 2, 1) := by decide +kernel
theorem dX4_elseOfBlock_106 : decode cX4_elseOfBlock 106 = .ok (.iastore, 1) := by decide +kernel
theorem dX4_elseOfBlock_107 : decode cX4_elseOfBlock 107 = .ok (.aload_n 0, 1) := by decide +kernel
theorem dX4_elseOfBlock_108 : decode cX4_elseOfBlock 108 = .ok (.iconst 4, 1) := by decide +kernel
theorem dX4_elseOfBlock_109 : decode cX4_elseOfBlock 109 = .ok (.invokevirtual 104, 3) := by decide +kernel
theorem dX4_elseOfBlock_112 : decode cX4_elseOfBlock 112 = .ok (.ireturn, 1) := by decide +kernel
abbrev rm_X4_elseOfBlock : Room := { frames := 2, cells := 0, slots := 0, locals := 43 }
set_option maxRecDepth 100000 in
set_option maxHeartbeats 4000000 in
theorem ct_X4_elseOfBlock {w : Wd} {l : Launch} {σ : St} {y : Int} {σ' : St} (h : m_X4_elseOfBlock σ = some (y, σ')) : Ct w l yX4_elseOfBlock (Cond.code yX4_elseOfBlock cX4_elseOfBlock 3 (some .boolean) :: TB) rm_X4_elseOfBlock [rv w 118] σ (some (iv y)) (InZ y) σ' := by
  refine Ct.of2 [some (rv w 118), none, none] 2 rfl pn_RX4 (Nat.le_of_ble_eq_true rfl) ?_
  intro p e s m args below meth c C hr hlk
  unfold m_X4_elseOfBlock at h
  refine g_aload_n C dX4_elseOfBlock_0 rfl ?_
  refine g_getI (j := 6) C dX4_elseOfBlock_1 rfl (Nat.le_of_ble_eq_true rfl) (Nat.le_of_ble_eq_true rfl) fl_4_37 rfl rfl (fun i1 => ?_)
  refine g_iconst C dX4_elseOfBlock_4 ?_
  refine g_isub C dX4_elseOfBlock_5 ?_
  obtain ⟨x2, qx2, h⟩ := bnd h
  have qx2 := Option.some.inj qx2
  have ix2 : InI x2 := by rw [← qx2]; exact (iwr _)
  refine g_E qx2 ?_
  refine g_istore_n (L1 := [some (rv w 118), some (iv x2), none]) C dX4_elseOfBlock_6 rfl (Nat.le_of_ble_eq_true rfl) rfl ?_
  refine g_iload_n C dX4_elseOfBlock_7 rfl ?_
  refine g_if_lt C dX4_elseOfBlock_8 ix2 rfl (tgt := 39) (fun c3 => ?_) (fun c3 => ?_)
  · have h := ifT c3 h
    refine g_aload_n C dX4_elseOfBlock_39 rfl ?_
    refine g_iconst C dX4_elseOfBlock_40 ?_
    obtain ⟨⟨x4, σ5⟩, qx4, h⟩ := bnd h
    refine g_callV1 (As := [iv 1]) C dX4_elseOfBlock_41 mi_X4_fail ml_4_97 (ct_X4_fail (by decide) qx4) rfl rfl ⟨rfl, rfl⟩ ⟨Nat.le_of_ble_eq_true rfl, Nat.le_of_ble_eq_true rfl⟩ ⟨Nat.zero_le _, Nat.zero_le _⟩ rfl (Nat.le_of_ble_eq_true rfl) (fun ix4 => ?_)
    exact g_zretP C dX4_elseOfBlock_44 hr hlk h ix4
  · have h := ifF c3 h
    refine g_iload_n C dX4_elseOfBlock_11 rfl ?_
    refine g_bipush C dX4_elseOfBlock_12 rfl ?_
    refine g_icmp_ge C dX4_elseOfBlock_14 ix2 (by decide) rfl (tgt := 39) (fun c6 => ?_) (fun c6 => ?_)
    · have h := ifT c6 h
      refine g_aload_n C dX4_elseOfBlock_39 rfl ?_
      refine g_iconst C dX4_elseOfBlock_40 ?_
      obtain ⟨⟨x7, σ8⟩, qx7, h⟩ := bnd h
      refine g_callV1 (As := [iv 1]) C dX4_elseOfBlock_41 mi_X4_fail ml_4_97 (ct_X4_fail (by decide) qx7) rfl rfl ⟨rfl, rfl⟩ ⟨Nat.le_of_ble_eq_true rfl, Nat.le_of_ble_eq_true rfl⟩ ⟨Nat.zero_le _, Nat.zero_le _⟩ rfl (Nat.le_of_ble_eq_true rfl) (fun ix7 => ?_)
      exact g_zretP C dX4_elseOfBlock_44 hr hlk h ix7
    · have h := ifF c6 h
      refine g_aload_n C dX4_elseOfBlock_17 rfl ?_
      refine g_getR (j := 4) C dX4_elseOfBlock_18 rfl (Nat.le_of_ble_eq_true rfl) (Nat.le_of_ble_eq_true rfl) fl_4_18 rfl rfl (r := 127) rfl ?_
      refine g_iload_n C dX4_elseOfBlock_21 rfl ?_
      obtain ⟨x9, qx9, h⟩ := bnd h
      refine g_iald C dX4_elseOfBlock_22 rfl rfl qx9 ix2 (fun ix9 => ?_)
      refine g_bipush C dX4_elseOfBlock_23 rfl ?_
      have hJ45_28 : m_X4_elseOfBlock_J45 σ x2 = some (y, σ') → GM w p l e rm_X4_elseOfBlock s m args below meth c (some (iv y)) (InZ y) σ' 3 45 [some (rv w 118), some (iv x2), none] [] σ := by
        intro h
        unfold m_X4_elseOfBlock_J45 at h
        refine g_aload_n C dX4_elseOfBlock_45 rfl ?_
        refine g_getR (j := 0) C dX4_elseOfBlock_46 rfl (Nat.le_of_ble_eq_true rfl) (Nat.le_of_ble_eq_true rfl) fl_4_12 rfl rfl (r := 119) rfl ?_
        refine g_aload_n C dX4_elseOfBlock_49 rfl ?_
        refine g_getR (j := 4) C dX4_elseOfBlock_50 rfl (Nat.le_of_ble_eq_true rfl) (Nat.le_of_ble_eq_true rfl) fl_4_18 rfl rfl (r := 127) rfl ?_
        refine g_iload_n C dX4_elseOfBlock_53 rfl ?_
        obtain ⟨x15, qx15, h⟩ := bnd h
        refine g_iald C dX4_elseOfBlock_54 rfl rfl qx15 ix2 (fun ix15 => ?_)
        refine g_bipush C dX4_elseOfBlock_55 rfl ?_
        have hJ67_27 : ∀ (x17 : Int) , InI x17 → m_X4_elseOfBlock_J67 σ x2 x17 = some (y, σ') → GM w p l e rm_X4_elseOfBlock s m args below meth c (some (iv y)) (InZ y) σ' 3 67 [some (rv w 118), some (iv x2), none] [iv x17, rv w 119] σ := by
          intro x17 ix17 h
          unfold m_X4_elseOfBlock_J67 at h
          refine g_iconst C dX4_elseOfBlock_67 ?_
          refine g_iconst C dX4_elseOfBlock_68 ?_
          obtain ⟨⟨x18, σ19⟩, qx18, h⟩ := bnd h
          refine g_callV1 (As := [iv x17, iv 0, iv 0]) C dX4_elseOfBlock_69 mi_X5_add ml_4_121 (ct_X5_add rfl ix17 (by decide) (by decide) qx18) rfl rfl ⟨rfl, rfl⟩ ⟨Nat.le_of_ble_eq_true rfl, Nat.le_of_ble_eq_true rfl⟩ ⟨Nat.zero_le _, Nat.zero_le _⟩ rfl (Nat.le_of_ble_eq_true rfl) (fun ix18 => ?_)
          refine g_istore_n (L1 := [some (rv w 118), some (iv x2), some (iv x18)]) C dX4_elseOfBlock_72 rfl (Nat.le_of_ble_eq_true rfl) rfl ?_
          refine g_aload_n C dX4_elseOfBlock_73 rfl ?_
          refine g_getR (j := 0) C dX4_elseOfBlock_74 rfl (Nat.le_of_ble_eq_true rfl) (Nat.le_of_ble_eq_true rfl) fl_4_12 rfl rfl (r := 119) rfl ?_
          refine g_aload_n C dX4_elseOfBlock_77 rfl ?_
          refine g_getR (j := 5) C dX4_elseOfBlock_78 rfl (Nat.le_of_ble_eq_true rfl) (Nat.le_of_ble_eq_true rfl) fl_4_22 rfl rfl (r := 128) rfl ?_
          refine g_iload_n C dX4_elseOfBlock_81 rfl ?_
          obtain ⟨x20, qx20, h⟩ := bnd h
          refine g_iald C dX4_elseOfBlock_82 rfl rfl qx20 ix2 (fun ix20 => ?_)
          refine g_aload_n C dX4_elseOfBlock_83 rfl ?_
          refine g_getR (j := 0) C dX4_elseOfBlock_84 rfl (Nat.le_of_ble_eq_true rfl) (Nat.le_of_ble_eq_true rfl) fl_4_12 rfl rfl (r := 119) rfl ?_
          refine g_getI (j := 7) C dX4_elseOfBlock_87 rfl (Nat.le_of_ble_eq_true rfl) (Nat.le_of_ble_eq_true rfl) fl_4_146 rfl rfl (fun i21 => ?_)
          obtain ⟨σ22, qσ22, h⟩ := bnd h
          refine g_callV0 (As := [iv x20, iv (σ19 119 7)]) C dX4_elseOfBlock_90 mi_X5_aim ml_4_160 (ct_X5_aim rfl ix20 i21 qσ22) rfl rfl ⟨rfl, rfl⟩ ⟨Nat.le_of_ble_eq_true rfl, Nat.le_of_ble_eq_true rfl⟩ ⟨Nat.zero_le _, Nat.zero_le _⟩ rfl (Nat.le_of_ble_eq_true rfl) (fun _ => ?_)
          refine g_aload_n C dX4_elseOfBlock_93 rfl ?_
          refine g_getR (j := 4) C dX4_elseOfBlock_94 rfl (Nat.le_of_ble_eq_true rfl) (Nat.le_of_ble_eq_true rfl) fl_4_18 rfl rfl (r := 127) rfl ?_
          refine g_iload_n C dX4_elseOfBlock_97 rfl ?_
          refine g_iconst C dX4_elseOfBlock_98 ?_
          obtain ⟨σ23, qσ23, h⟩ := bnd h
          refine g_iast C dX4_elseOfBlock_99 rfl rfl qσ23 ix2 (by decide) ?_
          refine g_aload_n C dX4_elseOfBlock_100 rfl ?_
          refine g_getR (j := 5) C dX4_elseOfBlock_101 rfl (Nat.le_of_ble_eq_true rfl) (Nat.le_of_ble_eq_true rfl) fl_4_22 rfl rfl (r := 128) rfl ?_
          refine g_iload_n C dX4_elseOfBlock_104 rfl ?_
          refine g_iload_n C dX4_elseOfBlock_105 rfl ?_
          obtain ⟨σ24, qσ24, h⟩ := bnd h
          refine g_iast C dX4_elseOfBlock_106 rfl rfl qσ24 ix2 ix18 ?_
          refine g_aload_n C dX4_elseOfBlock_107 rfl ?_
          refine g_iconst C dX4_elseOfBlock_108 ?_
          obtain ⟨⟨x25, σ26⟩, qx25, h⟩ := bnd h
          refine g_callV1 (As := [iv 4]) C dX4_elseOfBlock_109 mi_X4_accept ml_4_104 (ct_X4_accept (by decide) qx25) rfl rfl ⟨rfl, rfl⟩ ⟨Nat.le_of_ble_eq_true rfl, Nat.le_of_ble_eq_true rfl⟩ ⟨Nat.zero_le _, Nat.zero_le _⟩ rfl (Nat.le_of_ble_eq_true rfl) (fun ix25 => ?_)
          exact g_zretP C dX4_elseOfBlock_112 hr hlk h ix25
        refine g_icmp_ne C dX4_elseOfBlock_57 ix15 (by decide) rfl (tgt := 65) (fun c16 => ?_) (fun c16 => ?_)
        · have h := ifF c16 h
          refine g_bipush C dX4_elseOfBlock_65 rfl ?_
          exact hJ67_27 32 (by decide) h
        · have h := ifT c16 h
          refine g_bipush C dX4_elseOfBlock_60 rfl ?_
          refine g_goto C dX4_elseOfBlock_62 rfl (tgt := 67) ?_
          exact hJ67_27 33 (by decide) h
      refine g_icmp_eq C dX4_elseOfBlock_25 ix9 (by decide) rfl (tgt := 45) (fun c10 => ?_) (fun c10 => ?_)
      · have h := ifT c10 h
        exact hJ45_28  h
      · have h := ifF c10 h
        refine g_aload_n C dX4_elseOfBlock_28 rfl ?_
        refine g_getR (j := 4) C dX4_elseOfBlock_29 rfl (Nat.le_of_ble_eq_true rfl) (Nat.le_of_ble_eq_true rfl) fl_4_18 rfl rfl (r := 127) rfl ?_
        refine g_iload_n C dX4_elseOfBlock_32 rfl ?_
        obtain ⟨x11, qx11, h⟩ := bnd h
        refine g_iald C dX4_elseOfBlock_33 rfl rfl qx11 ix2 (fun ix11 => ?_)
        refine g_bipush C dX4_elseOfBlock_34 rfl ?_
        refine g_icmp_eq C dX4_elseOfBlock_36 ix11 (by decide) rfl (tgt := 45) (fun c12 => ?_) (fun c12 => ?_)
        · have h := ifT c12 h
          exact hJ45_28  h
        · have h := ifF c12 h
          refine g_aload_n C dX4_elseOfBlock_39 rfl ?_
          refine g_iconst C dX4_elseOfBlock_40 ?_
          obtain ⟨⟨x13, σ14⟩, qx13, h⟩ := bnd h
          refine g_callV1 (As := [iv 1]) C dX4_elseOfBlock_41 mi_X4_fail ml_4_97 (ct_X4_fail (by decide) qx13) rfl rfl ⟨rfl, rfl⟩ ⟨Nat.le_of_ble_eq_true rfl, Nat.le_of_ble_eq_true rfl⟩ ⟨Nat.zero_le _, Nat.zero_le _⟩ rfl (Nat.le_of_ble_eq_true rfl) (fun ix13 => ?_)
          exact g_zretP C dX4_elseOfBlock_44 hr hlk h ix13
theorem dX4_endOfBlock_0 : decode cX4_endOfBlock 0 = .ok (.aload_n 0, 1) := by decide +kernel
theorem dX4_endOfBlock_1 : decode cX4_endOfBlock 1 = .ok (.getfield 37, 3) := by decide +kernel
theorem dX4_endOfBlock_4 : decode cX4_endOfBlock 4 = .ok (.ifCond .le 12, 3) := by decide +kernel
theorem dX4_endOfBlock_7 : decode cX4_endOfBlock 7 = .ok (.aload_n 0, 1) := by decide +kernel
theorem dX4_endOfBlock_8 : decode cX4_endOfBlock 8 = .ok (.getfield 37, 3) := by decide +kernel
theorem dX4_endOfBlock_11 : decode cX4_endOfBlock 11 = .ok (.bipush 6, 2) := by decide +kernel
theorem dX4_endOfBlock_13 : decode cX4_endOfBlock 13 = .ok (.if_icmp .le 21, 3) := by decide +kernel
theorem dX4_endOfBlock_16 : decode cX4_endOfBlock 16 = .ok (.aload_n 0, 1) := by decide +kernel
theorem dX4_endOfBlock_17 : decode cX4_endOfBlock 17 = .ok (.getfield 12, 3) := by decide +kernel
theorem dX4_endOfBlock_20 : decode cX4_endOfBlock 20 = .ok (.invokevirtual 164, 3) := by decide +kernel
theorem dX4_endOfBlock_23 : decode cX4_endOfBlock 23 = .ok (.aload_n 0, 1) := by decide +kernel
theorem dX4_endOfBlock_24 : decode cX4_endOfBlock 24 = .ok (.iconst 0, 1) := by decide +kernel
theorem dX4_endOfBlock_25 : decode cX4_endOfBlock 25 = .ok (.putfield 41, 3) := by decide +kernel
theorem dX4_endOfBlock_28 : decode cX4_endOfBlock 28 = .ok (.aload_n 0, 1) := by decide +kernel
theorem dX4_endOfBlock_29 : decode cX4_endOfBlock 29 = .ok (.iconst 5, 1) := by decide +kernel
theorem dX4_endOfBlock_30 : decode cX4_endOfBlock 30 = .ok (.invokevirtual 104, 3) := by decide +kernel
theorem dX4_endOfBlock_33 : decode cX4_endOfBlock 33 = .ok (.ireturn, 1) := by decide +kernel
theorem dX4_endOfBlock_34 : decode cX4_endOfBlock 34 = .ok (.aload_n 0, 1) := by decide +kernel
theorem dX4_endOfBlock_35 : decode cX4_endOfBlock 35 = .ok (.dup, 1) := by decide +kernel
theorem dX4_endOfBlock_36 : decode cX4_endOfBlock 36 = .ok (.getfield 37, 3) := by decide +kernel
theorem dX4_endOfBlock_39 : decode cX4_endOfBlock 39 = .ok (.iconst 1, 1) := by decide +kernel
theorem dX4_endOfBlock_40 : decode cX4_endOfBlock 40 = .ok (.isub, 1) := by decide +kernel
theorem dX4_endOfBlock_41 : decode cX4_endOfBlock 41 = .ok (.putfield 37, 3) := by decide +kernel
theorem dX4_endOfBlock_44 : decode cX4_endOfBlock 44 = .ok (.aload_n 0, 1) := by decide +kernel
theorem dX4_endOfBlock_45 : decode cX4_endOfBlock 45 = .ok (.getfield 18, 3) := by decide +kernel
theorem dX4_endOfBlock_48 : decode cX4_endOfBlock 48 = .ok (.aload_n 0, 1) := by decide +kernel
theorem dX4_endOfBlock_49 : decode cX4_endOfBlock 49 = .ok (.getfield 37, 3) := by decide +kernel
theorem dX4_endOfBlock_52 : decode cX4_endOfBlock 52 = .ok (.iaload, 1) := by decide +kernel
theorem dX4_endOfBlock_53 : decode cX4_endOfBlock 53 = .ok (.istore_n 1, 1) := by decide +kernel
theorem dX4_endOfBlock_54 : decode cX4_endOfBlock 54 = .ok (.aload_n 0, 1) := by decide +kernel
theorem dX4_endOfBlock_55 : decode cX4_endOfBlock 55 = .ok (.getfield 22, 3) := by decide +kernel
theorem dX4_endOfBlock_58 : decode cX4_endOfBlock 58 = .ok (.aload_n 0, 1) := by decide +kernel
theorem dX4_endOfBlock_59 : decode cX4_endOfBlock 59 = .ok (.getfield 37, 3) := by decide +kernel
theorem dX4_endOfBlock_62 : decode cX4_endOfBlock 62 = .ok (.iaload, 1) := by decide +kernel
theorem dX4_endOfBlock_63 : decode cX4_endOfBlock 63 = .ok (.istore_n 2, 1) := by decide +kernel
theorem dX4_endOfBlock_64 : decode cX4_endOfBlock 64 = .ok (.iload_n 1, 1) := by decide +kernel
theorem dX4_endOfBlock_65 : decode cX4_endOfBlock 65 = .ok (.bipush 13, 2) := by decide +kernel
theorem dX4_endOfBlock_67 : decode cX4_endOfBlock 67 = .ok (.if_icmp .ne 27, 3) := by decide +kernel
theorem dX4_endOfBlock_70 : decode cX4_endOfBlock 70 = .ok (.aload_n 0, 1) := by decide +kernel
theorem dX4_endOfBlock_71 : decode cX4_endOfBlock 71 = .ok (.getfield 12, 3) := by decide +kernel
theorem dX4_endOfBlock_74 : decode cX4_endOfBlock 74 = .ok (.aload_n 0, 1) := by decide +kernel
theorem dX4_endOfBlock_75 : decode cX4_endOfBlock 75 = .ok (.getfield 12, 3) := by decide +kernel
theorem dX4_endOfBlock_78 : decode cX4_endOfBlock 78 = .ok (.bipush 31, 2) := by decide +kernel
theorem dX4_endOfBlock_80 : decode cX4_endOfBlock 80 = .ok (.iconst 0, 1) := by decide +kernel
theorem dX4_endOfBlock_81 : decode cX4_endOfBlock 81 = .ok (.iconst 0, 1) := by decide +kernel
theorem dX4_endOfBlock_82 : decode cX4_endOfBlock 82 = .ok (.invokevirtual 121, 3) := by decide +kernel
theorem dX4_endOfBlock_85 : decode cX4_endOfBlock 85 = .ok (.iload_n 2, 1) := by decide +kernel
theorem dX4_endOfBlock_86 : decode cX4_endOfBlock 86 = .ok (.iconst 1, 1) := by decide +kernel
theorem dX4_endOfBlock_87 : decode cX4_endOfBlock 87 = .ok (.iadd, 1) := by decide +kernel
theorem dX4_endOfBlock_88 : decode cX4_endOfBlock 88 = .ok (.invokevirtual 160, 3) := by decide +kernel
theorem dX4_endOfBlock_91 : decode cX4_endOfBlock 91 = .ok (.goto 36, 3) := by decide +kernel
theorem dX4_endOfBlock_94 : decode cX4_endOfBlock 94 = .ok (.iload_n 1, 1) := by decide +kernel
theorem dX4_endOfBlock_95 : decode cX4_endOfBlock 95 = .ok (.bipush 15, 2) := by decide +kernel
theorem dX4_endOfBlock_97 : decode cX4_endOfBlock 97 = .ok (.if_icmp .ne 30, 3) := by decide +kernel
theorem dX4_endOfBlock_100 : decode cX4_endOfBlock 100 = .ok (.aload_n 0, 1) := by decide +kernel
theorem dX4_endOfBlock_101 : decode cX4_endOfBlock 101 = .ok (.getfield 12, 3) := by decide +kernel
theorem dX4_endOfBlock_104 : decode cX4_endOfBlock 104 = .ok (.bipush 33, 2) := by decide +kernel
theorem dX4_endOfBlock_106 : decode cX4_endOfBlock 106 = .ok (.iconst 0, 1) := by decide +kernel
theorem dX4_endOfBlock_107 : decode cX4_endOfBlock 107 = .ok (.iconst 0, 1) := by decide +kernel
theorem dX4_endOfBlock_108 : decode cX4_endOfBlock 108 = .ok (.invokevirtual 121, 3) := by decide +kernel
theorem dX4_endOfBlock_111 : decode cX4_endOfBlock 111 = .ok (.istore_n 3, 1) := by decide +kernel
theorem dX4_endOfBlock_112 : decode cX4_endOfBlock 112 = .ok (.aload_n 0, 1) := by decide +kernel
theorem dX4_endOfBlock_113 : decode cX4_endOfBlock 113 = .ok (.getfield 12, 3) := by decide +kernel
theorem dX4_endOfBlock_116 : decode cX4_endOfBlock 116 = .ok (.iload_n 3, 1) := by decide +kernel
theorem dX4_endOfBlock_117 : decode cX4_endOfBlock 117 = .ok (.aload_n 0, 1) := by decide +kernel
theorem dX4_endOfBlock_118 : decode cX4_endOfBlock 118 = .ok (.getfield 12, 3) := by decide +kernel
theorem dX4_endOfBlock_121 : decode cX4_endOfBlock 121 = .ok (.getfield 146, 3) := by decide +kernel
theorem dX4_endOfBlock_124 : decode cX4_endOfBlock 124 = .ok (.invokevirtual 160, 3) := by decide +kernel
theorem dX4_endOfBlock_127 : decode cX4_endOfBlock 127 = .ok (.aload_n 0, 1) := by decide +kernel
theorem dX4_endOfBlock_128 : decode cX4_endOfBlock 128 = .ok (.getfield 12, 3) := by decide +kernel
theorem dX4_endOfBlock_131 : decode cX4_endOfBlock 131 = .ok (.iload_n 2, 1) := by decide +kernel
theorem dX4_endOfBlock_132 : decode cX4_endOfBlock 132 = .ok (.aload_n 0, 1) := by decide +kernel
theorem dX4_endOfBlock_133 : decode cX4_endOfBlock 133 = .ok (.getfield 12, 3) := by decide +kernel
theorem dX4_endOfBlock_136 : decode cX4_endOfBlock 136 = .ok (.getfield 146, 3) := by decide +kernel
theorem dX4_endOfBlock_139 : decode cX4_endOfBlock 139 = .ok (.invokevirtual 160, 3) := by decide +kernel
theorem dX4_endOfBlock_142 : decode cX4_endOfBlock 142 = .ok (.aload_n 0, 1) := by decide +kernel
theorem dX4_endOfBlock_143 : decode cX4_endOfBlock 143 = .ok (.iconst 5, 1) := by decide +kernel
theorem dX4_endOfBlock_144 : decode cX4_endOfBlock 144 = .ok (.invokevirtual 104, 3) := by decide +kernel
theorem dX4_endOfBlock_147 : decode cX4_endOfBlock 147 = .ok (.ireturn, 1) := by decide +kernel
abbrev rm_X4_endOfBlock : Room := { frames := 2, cells := 0, slots := 0, locals := 43 }
set_option maxRecDepth 100000 in
set_option maxHeartbeats 4000000 in
theorem ct_X4_endOfBlock {w : Wd} {l : Launch} {σ : St} {y : Int} {σ' : St} (h : m_X4_endOfBlock σ = some (y, σ')) : Ct w l yX4_endOfBlock (Cond.code yX4_endOfBlock cX4_endOfBlock 4 (some .boolean) :: TB) rm_X4_endOfBlock [rv w 118] σ (some (iv y)) (InZ y) σ' := by
  refine Ct.of2 [some (rv w 118), none, none, none] 3 rfl pn_RX4 (Nat.le_of_ble_eq_true rfl) ?_
  intro p e s m args below meth c C hr hlk
  unfold m_X4_endOfBlock at h
  refine g_aload_n C dX4_endOfBlock_0 rfl ?_
  refine g_getI (j := 6) C dX4_endOfBlock_1 rfl (Nat.le_of_ble_eq_true rfl) (Nat.le_of_ble_eq_true rfl) fl_4_37 rfl rfl (fun i1 => ?_)
  have hJ16_30 : m_X4_endOfBlock_J16 σ = some (y, σ') → GM w p l e rm_X4_endOfBlock s m args below meth c (some (iv y)) (InZ y) σ' 4 16 [some (rv w 118), none, none, none] [] σ := by
    intro h
    unfold m_X4_endOfBlock_J16 at h
    refine g_aload_n C dX4_endOfBlock_16 rfl ?_
    refine g_getR (j := 0) C dX4_endOfBlock_17 rfl (Nat.le_of_ble_eq_true rfl) (Nat.le_of_ble_eq_true rfl) fl_4_12 rfl rfl (r := 119) rfl ?_
    obtain ⟨σ26, qσ26, h⟩ := bnd h
    refine g_callV0 (As := []) C dX4_endOfBlock_20 mi_X5_endCode ml_4_164 (ct_X5_endCode rfl qσ26) rfl rfl ⟨rfl, rfl⟩ ⟨Nat.le_of_ble_eq_true rfl, Nat.le_of_ble_eq_true rfl⟩ ⟨Nat.zero_le _, Nat.zero_le _⟩ rfl (Nat.le_of_ble_eq_true rfl) (fun _ => ?_)
    refine g_aload_n C dX4_endOfBlock_23 rfl ?_
    refine g_iconst C dX4_endOfBlock_24 ?_
    obtain ⟨σ27, qσ27, h⟩ := bnd h
    refine g_putZ (j := 7) C dX4_endOfBlock_25 rfl (Nat.le_of_ble_eq_true rfl) (Nat.le_of_ble_eq_true rfl) fl_4_41 rfl rfl rfl rfl qσ27 (Or.inl rfl) ?_
    refine g_aload_n C dX4_endOfBlock_28 rfl ?_
    refine g_iconst C dX4_endOfBlock_29 ?_
    obtain ⟨⟨x28, σ29⟩, qx28, h⟩ := bnd h
    refine g_callV1 (As := [iv 5]) C dX4_endOfBlock_30 mi_X4_accept ml_4_104 (ct_X4_accept (by decide) qx28) rfl rfl ⟨rfl, rfl⟩ ⟨Nat.le_of_ble_eq_true rfl, Nat.le_of_ble_eq_true rfl⟩ ⟨Nat.zero_le _, Nat.zero_le _⟩ rfl (Nat.le_of_ble_eq_true rfl) (fun ix28 => ?_)
    exact g_zretP C dX4_endOfBlock_33 hr hlk h ix28
  refine g_if_le C dX4_endOfBlock_4 i1 rfl (tgt := 16) (fun c2 => ?_) (fun c2 => ?_)
  · have h := ifT c2 h
    exact hJ16_30  h
  · have h := ifF c2 h
    refine g_aload_n C dX4_endOfBlock_7 rfl ?_
    refine g_getI (j := 6) C dX4_endOfBlock_8 rfl (Nat.le_of_ble_eq_true rfl) (Nat.le_of_ble_eq_true rfl) fl_4_37 rfl rfl (fun i3 => ?_)
    refine g_bipush C dX4_endOfBlock_11 rfl ?_
    refine g_icmp_le C dX4_endOfBlock_13 i3 (by decide) rfl (tgt := 34) (fun c4 => ?_) (fun c4 => ?_)
    · have h := ifT c4 h
      refine g_aload_n C dX4_endOfBlock_34 rfl ?_
      refine g_dup C dX4_endOfBlock_35 rfl ?_
      refine g_getI (j := 6) C dX4_endOfBlock_36 rfl (Nat.le_of_ble_eq_true rfl) (Nat.le_of_ble_eq_true rfl) fl_4_37 rfl rfl (fun i5 => ?_)
      refine g_iconst C dX4_endOfBlock_39 ?_
      refine g_isub C dX4_endOfBlock_40 ?_
      obtain ⟨σ6, qσ6, h⟩ := bnd h
      refine g_putI (j := 6) C dX4_endOfBlock_41 rfl (Nat.le_of_ble_eq_true rfl) (Nat.le_of_ble_eq_true rfl) fl_4_37 rfl rfl rfl rfl qσ6 (iwr _) ?_
      refine g_aload_n C dX4_endOfBlock_44 rfl ?_
      refine g_getR (j := 4) C dX4_endOfBlock_45 rfl (Nat.le_of_ble_eq_true rfl) (Nat.le_of_ble_eq_true rfl) fl_4_18 rfl rfl (r := 127) rfl ?_
      refine g_aload_n C dX4_endOfBlock_48 rfl ?_
      refine g_getI (j := 6) C dX4_endOfBlock_49 rfl (Nat.le_of_ble_eq_true rfl) (Nat.le_of_ble_eq_true rfl) fl_4_37 rfl rfl (fun i7 => ?_)
      obtain ⟨x8, qx8, h⟩ := bnd h
      refine g_iald C dX4_endOfBlock_52 rfl rfl qx8 i7 (fun ix8 => ?_)
      refine g_istore_n (L1 := [some (rv w 118), some (iv x8), none, none]) C dX4_endOfBlock_53 rfl (Nat.le_of_ble_eq_true rfl) rfl ?_
      refine g_aload_n C dX4_endOfBlock_54 rfl ?_
      refine g_getR (j := 5) C dX4_endOfBlock_55 rfl (Nat.le_of_ble_eq_true rfl) (Nat.le_of_ble_eq_true rfl) fl_4_22 rfl rfl (r := 128) rfl ?_
      refine g_aload_n C dX4_endOfBlock_58 rfl ?_
      refine g_getI (j := 6) C dX4_endOfBlock_59 rfl (Nat.le_of_ble_eq_true rfl) (Nat.le_of_ble_eq_true rfl) fl_4_37 rfl rfl (fun i9 => ?_)
      obtain ⟨x10, qx10, h⟩ := bnd h
      refine g_iald C dX4_endOfBlock_62 rfl rfl qx10 i9 (fun ix10 => ?_)
      refine g_istore_n (L1 := [some (rv w 118), some (iv x8), some (iv x10), none]) C dX4_endOfBlock_63 rfl (Nat.le_of_ble_eq_true rfl) rfl ?_
      refine g_iload_n C dX4_endOfBlock_64 rfl ?_
      refine g_bipush C dX4_endOfBlock_65 rfl ?_
      have hJ127_25 : ∀ (σ20 : St) , m_X4_endOfBlock_J127 x10 σ20 = some (y, σ') → GM w p l e rm_X4_endOfBlock s m args below meth c (some (iv y)) (InZ y) σ' 4 127 [some (rv w 118), none, some (iv x10), none] [] σ20 := by
        intro σ20 h
        unfold m_X4_endOfBlock_J127 at h
        refine g_aload_n C dX4_endOfBlock_127 rfl ?_
        refine g_getR (j := 0) C dX4_endOfBlock_128 rfl (Nat.le_of_ble_eq_true rfl) (Nat.le_of_ble_eq_true rfl) fl_4_12 rfl rfl (r := 119) rfl ?_
        refine g_iload_n C dX4_endOfBlock_131 rfl ?_
        refine g_aload_n C dX4_endOfBlock_132 rfl ?_
        refine g_getR (j := 0) C dX4_endOfBlock_133 rfl (Nat.le_of_ble_eq_true rfl) (Nat.le_of_ble_eq_true rfl) fl_4_12 rfl rfl (r := 119) rfl ?_
        refine g_getI (j := 7) C dX4_endOfBlock_136 rfl (Nat.le_of_ble_eq_true rfl) (Nat.le_of_ble_eq_true rfl) fl_4_146 rfl rfl (fun i21 => ?_)
        obtain ⟨σ22, qσ22, h⟩ := bnd h
        refine g_callV0 (As := [iv x10, iv (σ20 119 7)]) C dX4_endOfBlock_139 mi_X5_aim ml_4_160 (ct_X5_aim rfl ix10 i21 qσ22) rfl rfl ⟨rfl, rfl⟩ ⟨Nat.le_of_ble_eq_true rfl, Nat.le_of_ble_eq_true rfl⟩ ⟨Nat.zero_le _, Nat.zero_le _⟩ rfl (Nat.le_of_ble_eq_true rfl) (fun _ => ?_)
        refine g_aload_n C dX4_endOfBlock_142 rfl ?_
        refine g_iconst C dX4_endOfBlock_143 ?_
        obtain ⟨⟨x23, σ24⟩, qx23, h⟩ := bnd h
        refine g_callV1 (As := [iv 5]) C dX4_endOfBlock_144 mi_X4_accept ml_4_104 (ct_X4_accept (by decide) qx23) rfl rfl ⟨rfl, rfl⟩ ⟨Nat.le_of_ble_eq_true rfl, Nat.le_of_ble_eq_true rfl⟩ ⟨Nat.zero_le _, Nat.zero_le _⟩ rfl (Nat.le_of_ble_eq_true rfl) (fun ix23 => ?_)
        exact g_zretP C dX4_endOfBlock_147 hr hlk h ix23
      refine g_icmp_ne C dX4_endOfBlock_67 ix8 (by decide) rfl (tgt := 94) (fun c11 => ?_) (fun c11 => ?_)
      · have h := ifF c11 h
        refine g_iload_n C dX4_endOfBlock_94 rfl ?_
        refine g_bipush C dX4_endOfBlock_95 rfl ?_
        refine g_icmp_ne C dX4_endOfBlock_97 ix8 (by decide) rfl (tgt := 127) (fun c12 => ?_) (fun c12 => ?_)
        · have h := ifF c12 h
          refine g_mask [true, false, true, true] ?_
          exact hJ127_25 σ6 h
        · have h := ifT c12 h
          refine g_aload_n C dX4_endOfBlock_100 rfl ?_
          refine g_getR (j := 0) C dX4_endOfBlock_101 rfl (Nat.le_of_ble_eq_true rfl) (Nat.le_of_ble_eq_true rfl) fl_4_12 rfl rfl (r := 119) rfl ?_
          refine g_bipush C dX4_endOfBlock_104 rfl ?_
          refine g_iconst C dX4_endOfBlock_106 ?_
          refine g_iconst C dX4_endOfBlock_107 ?_
          obtain ⟨⟨x13, σ14⟩, qx13, h⟩ := bnd h
          refine g_callV1 (As := [iv 33, iv 0, iv 0]) C dX4_endOfBlock_108 mi_X5_add ml_4_121 (ct_X5_add rfl (by decide) (by decide) (by decide) qx13) rfl rfl ⟨rfl, rfl⟩ ⟨Nat.le_of_ble_eq_true rfl, Nat.le_of_ble_eq_true rfl⟩ ⟨Nat.zero_le _, Nat.zero_le _⟩ rfl (Nat.le_of_ble_eq_true rfl) (fun ix13 => ?_)
          refine g_istore_n (L1 := [some (rv w 118), some (iv x8), some (iv x10), some (iv x13)]) C dX4_endOfBlock_111 rfl (Nat.le_of_ble_eq_true rfl) rfl ?_
          refine g_aload_n C dX4_endOfBlock_112 rfl ?_
          refine g_getR (j := 0) C dX4_endOfBlock_113 rfl (Nat.le_of_ble_eq_true rfl) (Nat.le_of_ble_eq_true rfl) fl_4_12 rfl rfl (r := 119) rfl ?_
          refine g_iload_n C dX4_endOfBlock_116 rfl ?_
          refine g_aload_n C dX4_endOfBlock_117 rfl ?_
          refine g_getR (j := 0) C dX4_endOfBlock_118 rfl (Nat.le_of_ble_eq_true rfl) (Nat.le_of_ble_eq_true rfl) fl_4_12 rfl rfl (r := 119) rfl ?_
          refine g_getI (j := 7) C dX4_endOfBlock_121 rfl (Nat.le_of_ble_eq_true rfl) (Nat.le_of_ble_eq_true rfl) fl_4_146 rfl rfl (fun i15 => ?_)
          obtain ⟨σ16, qσ16, h⟩ := bnd h
          refine g_callV0 (As := [iv x13, iv (σ14 119 7)]) C dX4_endOfBlock_124 mi_X5_aim ml_4_160 (ct_X5_aim rfl ix13 i15 qσ16) rfl rfl ⟨rfl, rfl⟩ ⟨Nat.le_of_ble_eq_true rfl, Nat.le_of_ble_eq_true rfl⟩ ⟨Nat.zero_le _, Nat.zero_le _⟩ rfl (Nat.le_of_ble_eq_true rfl) (fun _ => ?_)
          refine g_mask [true, false, true, false] ?_
          exact hJ127_25 σ16 h
      · have h := ifT c11 h
        refine g_aload_n C dX4_endOfBlock_70 rfl ?_
        refine g_getR (j := 0) C dX4_endOfBlock_71 rfl (Nat.le_of_ble_eq_true rfl) (Nat.le_of_ble_eq_true rfl) fl_4_12 rfl rfl (r := 119) rfl ?_
        refine g_aload_n C dX4_endOfBlock_74 rfl ?_
        refine g_getR (j := 0) C dX4_endOfBlock_75 rfl (Nat.le_of_ble_eq_true rfl) (Nat.le_of_ble_eq_true rfl) fl_4_12 rfl rfl (r := 119) rfl ?_
        refine g_bipush C dX4_endOfBlock_78 rfl ?_
        refine g_iconst C dX4_endOfBlock_80 ?_
        refine g_iconst C dX4_endOfBlock_81 ?_
        obtain ⟨⟨x17, σ18⟩, qx17, h⟩ := bnd h
        refine g_callV1 (As := [iv 31, iv 0, iv 0]) C dX4_endOfBlock_82 mi_X5_add ml_4_121 (ct_X5_add rfl (by decide) (by decide) (by decide) qx17) rfl rfl ⟨rfl, rfl⟩ ⟨Nat.le_of_ble_eq_true rfl, Nat.le_of_ble_eq_true rfl⟩ ⟨Nat.zero_le _, Nat.zero_le _⟩ rfl (Nat.le_of_ble_eq_true rfl) (fun ix17 => ?_)
        refine g_iload_n C dX4_endOfBlock_85 rfl ?_
        refine g_iconst C dX4_endOfBlock_86 ?_
        refine g_iadd C dX4_endOfBlock_87 ?_
        obtain ⟨σ19, qσ19, h⟩ := bnd h
        refine g_callV0 (As := [iv x17, iv (wr (x10 + 1))]) C dX4_endOfBlock_88 mi_X5_aim ml_4_160 (ct_X5_aim rfl ix17 (iwr _) qσ19) rfl rfl ⟨rfl, rfl⟩ ⟨Nat.le_of_ble_eq_true rfl, Nat.le_of_ble_eq_true rfl⟩ ⟨Nat.zero_le _, Nat.zero_le _⟩ rfl (Nat.le_of_ble_eq_true rfl) (fun _ => ?_)
        refine g_goto C dX4_endOfBlock_91 rfl (tgt := 127) ?_
        refine g_mask [true, false, true, true] ?_
        exact hJ127_25 σ19 h
    · have h := ifF c4 h
      exact hJ16_30  h
theorem dX4_deedOrEnd_0 : decode cX4_deedOrEnd 0 = .ok (.aload_n 0, 1) := by decide +kernel
theorem dX4_deedOrEnd_1 : decode cX4_deedOrEnd 1 = .ok (.getfield 74, 3) := by decide +kernel
theorem dX4_deedOrEnd_4 : decode cX4_deedOrEnd 4 = .ok (.tableswitch 211 0 25 #[147, 140, 211, 181, 201, 206, 211, 120, 211, 191, 211, 211, 140, 186, 134, 196, 211, 211, 140, 140, 127, 127, 211, 134, 211, 140], 120) := by decide +kernel
theorem dX4_deedOrEnd_124 : decode cX4_deedOrEnd 124 = .ok (.aload_n 0, 1) := by decide +kernel
theorem dX4_deedOrEnd_125 : decode cX4_deedOrEnd 125 = .ok (.bipush 9, 2) := by decide +kernel
theorem dX4_deedOrEnd_127 : decode cX4_deedOrEnd 127 = .ok (.invokevirtual 118, 3) := by decide +kernel
theorem dX4_deedOrEnd_130 : decode cX4_deedOrEnd 130 = .ok (.ireturn, 1) := by decide +kernel
theorem dX4_deedOrEnd_131 : decode cX4_deedOrEnd 131 = .ok (.aload_n 0, 1) := by decide +kernel
theorem dX4_deedOrEnd_132 : decode cX4_deedOrEnd 132 = .ok (.bipush 95, 2) := by decide +kernel
theorem dX4_deedOrEnd_134 : decode cX4_deedOrEnd 134 = .ok (.invokevirtual 118, 3) := by decide +kernel
theorem dX4_deedOrEnd_137 : decode cX4_deedOrEnd 137 = .ok (.ireturn, 1) := by decide +kernel
theorem dX4_deedOrEnd_138 : decode cX4_deedOrEnd 138 = .ok (.aload_n 0, 1) := by decide +kernel
theorem dX4_deedOrEnd_139 : decode cX4_deedOrEnd 139 = .ok (.iconst 3, 1) := by decide +kernel
theorem dX4_deedOrEnd_140 : decode cX4_deedOrEnd 140 = .ok (.invokevirtual 118, 3) := by decide +kernel
theorem dX4_deedOrEnd_143 : decode cX4_deedOrEnd 143 = .ok (.ireturn, 1) := by decide +kernel
theorem dX4_deedOrEnd_144 : decode cX4_deedOrEnd 144 = .ok (.aload_n 0, 1) := by decide +kernel
theorem dX4_deedOrEnd_145 : decode cX4_deedOrEnd 145 = .ok (.bipush 7, 2) := by decide +kernel
theorem dX4_deedOrEnd_147 : decode cX4_deedOrEnd 147 = .ok (.invokevirtual 118, 3) := by decide +kernel
theorem dX4_deedOrEnd_150 : decode cX4_deedOrEnd 150 = .ok (.ireturn, 1) := by decide +kernel
theorem dX4_deedOrEnd_151 : decode cX4_deedOrEnd 151 = .ok (.aload_n 0, 1) := by decide +kernel
theorem dX4_deedOrEnd_152 : decode cX4_deedOrEnd 152 = .ok (.getfield 12, 3) := by decide +kernel
theorem dX4_deedOrEnd_155 : decode cX4_deedOrEnd 155 = .ok (.iconst 0, 1) := by decide +kernel
theorem dX4_deedOrEnd_156 : decode cX4_deedOrEnd 156 = .ok (.iconst 0, 1) := by decide +kernel
theorem dX4_deedOrEnd_157 : decode cX4_deedOrEnd 157 = .ok (.iconst 0, 1) := by decide +kernel
theorem dX4_deedOrEnd_158 : decode cX4_deedOrEnd 158 = .ok (.invokevirtual 121, 3) := by decide +kernel
theorem dX4_deedOrEnd_161 : decode cX4_deedOrEnd 161 = .ok (.pop, 1) := by decide +kernel
theorem dX4_deedOrEnd_162 : decode cX4_deedOrEnd 162 = .ok (.aload_n 0, 1) := by decide +kernel
theorem dX4_deedOrEnd_163 : decode cX4_deedOrEnd 163 = .ok (.iconst 0, 1) := by decide +kernel
theorem dX4_deedOrEnd_164 : decode cX4_deedOrEnd 164 = .ok (.invokevirtual 104, 3) := by decide +kernel
theorem dX4_deedOrEnd_167 : decode cX4_deedOrEnd 167 = .ok (.ifCond .eq 16, 3) := by decide +kernel
theorem dX4_deedOrEnd_170 : decode cX4_deedOrEnd 170 = .ok (.aload_n 0, 1) := by decide +kernel
theorem dX4_deedOrEnd_171 : decode cX4_deedOrEnd 171 = .ok (.bipush 28, 2) := by decide +kernel
theorem dX4_deedOrEnd_173 : decode cX4_deedOrEnd 173 = .ok (.invokevirtual 104, 3) := by decide +kernel
theorem dX4_deedOrEnd_176 : decode cX4_deedOrEnd 176 = .ok (.ifCond .eq 7, 3) := by decide +kernel
theorem dX4_deedOrEnd_179 : decode cX4_deedOrEnd 179 = .ok (.iconst 1, 1) := by decide +kernel
theorem dX4_deedOrEnd_180 : decode cX4_deedOrEnd 180 = .ok (.goto 4, 3) := by decide +kernel
theorem dX4_deedOrEnd_183 : decode cX4_deedOrEnd 183 = .ok (.iconst 0, 1) := by decide +kernel
theorem dX4_deedOrEnd_184 : decode cX4_deedOrEnd 184 = .ok (.ireturn, 1) := by decide +kernel
theorem dX4_deedOrEnd_185 : decode cX4_deedOrEnd 185 = .ok (.aload_n 0, 1) := by decide +kernel
theorem dX4_deedOrEnd_186 : decode cX4_deedOrEnd 186 = .ok (.invokevirtual 125, 3) := by decide +kernel
theorem dX4_deedOrEnd_189 : decode cX4_deedOrEnd 189 = .ok (.ireturn, 1) := by decide +kernel
theorem dX4_deedOrEnd_190 : decode cX4_deedOrEnd 190 = .ok (.aload_n 0, 1) := by decide +kernel
theorem dX4_deedOrEnd_191 : decode cX4_deedOrEnd 191 = .ok (.invokevirtual 128, 3) := by decide +kernel
theorem dX4_deedOrEnd_194 : decode cX4_deedOrEnd 194 = .ok (.ireturn, 1) := by decide +kernel
theorem dX4_deedOrEnd_195 : decode cX4_deedOrEnd 195 = .ok (.aload_n 0, 1) := by decide +kernel
theorem dX4_deedOrEnd_196 : decode cX4_deedOrEnd 196 = .ok (.invokevirtual 131, 3) := by decide +kernel
theorem dX4_deedOrEnd_199 : decode cX4_deedOrEnd 199 = .ok (.ireturn, 1) := by decide +kernel
theorem dX4_deedOrEnd_200 : decode cX4_deedOrEnd 200 = .ok (.aload_n 0, 1) := by decide +kernel
theorem dX4_deedOrEnd_201 : decode cX4_deedOrEnd 201 = .ok (.invokevirtual 134, 3) := by decide +kernel
theorem dX4_deedOrEnd_204 : decode cX4_deedOrEnd 204 = .ok (.ireturn, 1) := by decide +kernel
theorem dX4_deedOrEnd_205 : decode cX4_deedOrEnd 205 = .ok (.aload_n 0, 1) := by decide +kernel
theorem dX4_deedOrEnd_206 : decode cX4_deedOrEnd 206 = .ok (.invokevirtual 137, 3) := by decide +kernel
theorem dX4_deedOrEnd_209 : decode cX4_deedOrEnd 209 = .ok (.ireturn, 1) := by decide +kernel
theorem dX4_deedOrEnd_210 : decode cX4_deedOrEnd 210 = .ok (.aload_n 0, 1) := by decide +kernel
theorem dX4_deedOrEnd_211 : decode cX4_deedOrEnd 211 = .ok (.invokevirtual 140, 3) := by decide +kernel
theorem dX4_deedOrEnd_214 : decode cX4_deedOrEnd 214 = .ok (.ireturn, 1) := by decide +kernel
theorem dX4_deedOrEnd_215 : decode cX4_deedOrEnd 215 = .ok (.aload_n 0, 1) := by decide +kernel
theorem dX4_deedOrEnd_216 : decode cX4_deedOrEnd 216 = .ok (.iconst 1, 1) := by decide +kernel
theorem dX4_deedOrEnd_217 : decode cX4_deedOrEnd 217 = .ok (.invokevirtual 97, 3) := by decide +kernel
theorem dX4_deedOrEnd_220 : decode cX4_deedOrEnd 220 = .ok (.ireturn, 1) := by decide +kernel
abbrev rm_X4_deedOrEnd : Room := { frames := 4, cells := 0, slots := 0, locals := 86 }
set_option maxRecDepth 100000 in
set_option maxHeartbeats 4000000 in
theorem ct_X4_deedOrEnd {w : Wd} {l : Launch} {σ : St} {y : Int} {σ' : St} (h : m_X4_deedOrEnd σ = some (y, σ')) : Ct w l yX4_deedOrEnd (Cond.code yX4_deedOrEnd cX4_deedOrEnd 1 (some .boolean) :: TB) rm_X4_deedOrEnd [rv w 118] σ (some (iv y)) (InZ y) σ' := by
  refine Ct.of2 [some (rv w 118)] 0 rfl pn_RX4 (Nat.le_of_ble_eq_true rfl) ?_
  intro p e s m args below meth c C hr hlk
  unfold m_X4_deedOrEnd at h
  refine g_aload_n C dX4_deedOrEnd_0 rfl ?_
  refine g_getI (j := 11) C dX4_deedOrEnd_1 rfl (Nat.le_of_ble_eq_true rfl) (Nat.le_of_ble_eq_true rfl) fl_4_74 rfl rfl (fun i1 => ?_)
  by_cases c2 : σ 118 11 = 0
  · have h := ifT c2 h
    refine g_tabI C dX4_deedOrEnd_4 i1 (by rw [c2]; decide) (by rw [c2]; decide) (by rw [c2] <;> rfl) rfl (tgt := 151) ?_
    refine g_aload_n C dX4_deedOrEnd_151 rfl ?_
    refine g_getR (j := 0) C dX4_deedOrEnd_152 rfl (Nat.le_of_ble_eq_true rfl) (Nat.le_of_ble_eq_true rfl) fl_4_12 rfl rfl (r := 119) rfl ?_
    refine g_iconst C dX4_deedOrEnd_155 ?_
    refine g_iconst C dX4_deedOrEnd_156 ?_
    refine g_iconst C dX4_deedOrEnd_157 ?_
    obtain ⟨⟨x3, σ4⟩, qx3, h⟩ := bnd h
    refine g_callV1 (As := [iv 0, iv 0, iv 0]) C dX4_deedOrEnd_158 mi_X5_add ml_4_121 (ct_X5_add rfl (by decide) (by decide) (by decide) qx3) rfl rfl ⟨rfl, rfl⟩ ⟨Nat.le_of_ble_eq_true rfl, Nat.le_of_ble_eq_true rfl⟩ ⟨Nat.zero_le _, Nat.zero_le _⟩ rfl (Nat.le_of_ble_eq_true rfl) (fun ix3 => ?_)
    refine g_pop C dX4_deedOrEnd_161 rfl ?_
    refine g_aload_n C dX4_deedOrEnd_162 rfl ?_
    refine g_iconst C dX4_deedOrEnd_163 ?_
    obtain ⟨⟨x5, σ6⟩, qx5, h⟩ := bnd h
    refine g_callV1 (As := [iv 0]) C dX4_deedOrEnd_164 mi_X4_accept ml_4_104 (ct_X4_accept (by decide) qx5) rfl rfl ⟨rfl, rfl⟩ ⟨Nat.le_of_ble_eq_true rfl, Nat.le_of_ble_eq_true rfl⟩ ⟨Nat.zero_le _, Nat.zero_le _⟩ rfl (Nat.le_of_ble_eq_true rfl) (fun ix5 => ?_)
    refine g_if_eq C dX4_deedOrEnd_167 (zI ix5) rfl (tgt := 183) (fun c7 => ?_) (fun c7 => ?_)
    · have h := ifT c7 h
      refine g_iconst C dX4_deedOrEnd_183 ?_
      exact g_zretP C dX4_deedOrEnd_184 hr hlk h (Or.inl rfl)
    · have h := ifF c7 h
      refine g_aload_n C dX4_deedOrEnd_170 rfl ?_
      refine g_bipush C dX4_deedOrEnd_171 rfl ?_
      obtain ⟨⟨x8, σ9⟩, qx8, h⟩ := bnd h
      refine g_callV1 (As := [iv 28]) C dX4_deedOrEnd_173 mi_X4_accept ml_4_104 (ct_X4_accept (by decide) qx8) rfl rfl ⟨rfl, rfl⟩ ⟨Nat.le_of_ble_eq_true rfl, Nat.le_of_ble_eq_true rfl⟩ ⟨Nat.zero_le _, Nat.zero_le _⟩ rfl (Nat.le_of_ble_eq_true rfl) (fun ix8 => ?_)
      refine g_if_eq C dX4_deedOrEnd_176 (zI ix8) rfl (tgt := 183) (fun c10 => ?_) (fun c10 => ?_)
      · have h := ifT c10 h
        refine g_iconst C dX4_deedOrEnd_183 ?_
        exact g_zretP C dX4_deedOrEnd_184 hr hlk h (Or.inl rfl)
      · have h := ifF c10 h
        refine g_iconst C dX4_deedOrEnd_179 ?_
        refine g_goto C dX4_deedOrEnd_180 rfl (tgt := 184) ?_
        exact g_zretP C dX4_deedOrEnd_184 hr hlk h (Or.inr rfl)
  have h := ifF c2 h
  by_cases c11 : σ 118 11 = 1
  · have h := ifT c11 h
    refine g_tabI C dX4_deedOrEnd_4 i1 (by rw [c11]; decide) (by rw [c11]; decide) (by rw [c11] <;> rfl) rfl (tgt := 144) ?_
    refine g_aload_n C dX4_deedOrEnd_144 rfl ?_
    refine g_bipush C dX4_deedOrEnd_145 rfl ?_
    obtain ⟨⟨x12, σ13⟩, qx12, h⟩ := bnd h
    refine g_callV1 (As := [iv 7]) C dX4_deedOrEnd_147 mi_X4_plainDeed ml_4_118 (ct_X4_plainDeed (by decide) qx12) rfl rfl ⟨rfl, rfl⟩ ⟨Nat.le_of_ble_eq_true rfl, Nat.le_of_ble_eq_true rfl⟩ ⟨Nat.zero_le _, Nat.zero_le _⟩ rfl (Nat.le_of_ble_eq_true rfl) (fun ix12 => ?_)
    exact g_zretP C dX4_deedOrEnd_150 hr hlk h ix12
  have h := ifF c11 h
  by_cases c14 : σ 118 11 = 3
  · have h := ifT c14 h
    refine g_tabI C dX4_deedOrEnd_4 i1 (by rw [c14]; decide) (by rw [c14]; decide) (by rw [c14] <;> rfl) rfl (tgt := 185) ?_
    refine g_aload_n C dX4_deedOrEnd_185 rfl ?_
    obtain ⟨⟨x15, σ16⟩, qx15, h⟩ := bnd h
    refine g_callV1 (As := []) C dX4_deedOrEnd_186 mi_X4_doDeed ml_4_125 (ct_X4_doDeed qx15) rfl rfl ⟨rfl, rfl⟩ ⟨Nat.le_of_ble_eq_true rfl, Nat.le_of_ble_eq_true rfl⟩ ⟨Nat.zero_le _, Nat.zero_le _⟩ rfl (Nat.le_of_ble_eq_true rfl) (fun ix15 => ?_)
    exact g_zretP C dX4_deedOrEnd_189 hr hlk h ix15
  have h := ifF c14 h
  by_cases c17 : σ 118 11 = 4
  · have h := ifT c17 h
    refine g_tabI C dX4_deedOrEnd_4 i1 (by rw [c17]; decide) (by rw [c17]; decide) (by rw [c17] <;> rfl) rfl (tgt := 205) ?_
    refine g_aload_n C dX4_deedOrEnd_205 rfl ?_
    obtain ⟨⟨x18, σ19⟩, qx18, h⟩ := bnd h
    refine g_callV1 (As := []) C dX4_deedOrEnd_206 mi_X4_elseOfBlock ml_4_137 (ct_X4_elseOfBlock qx18) rfl rfl ⟨rfl, rfl⟩ ⟨Nat.le_of_ble_eq_true rfl, Nat.le_of_ble_eq_true rfl⟩ ⟨Nat.zero_le _, Nat.zero_le _⟩ rfl (Nat.le_of_ble_eq_true rfl) (fun ix18 => ?_)
    exact g_zretP C dX4_deedOrEnd_209 hr hlk h ix18
  have h := ifF c17 h
  by_cases c20 : σ 118 11 = 5
  · have h := ifT c20 h
    refine g_tabI C dX4_deedOrEnd_4 i1 (by rw [c20]; decide) (by rw [c20]; decide) (by rw [c20] <;> rfl) rfl (tgt := 210) ?_
    refine g_aload_n C dX4_deedOrEnd_210 rfl ?_
    obtain ⟨⟨x21, σ22⟩, qx21, h⟩ := bnd h
    refine g_callV1 (As := []) C dX4_deedOrEnd_211 mi_X4_endOfBlock ml_4_140 (ct_X4_endOfBlock qx21) rfl rfl ⟨rfl, rfl⟩ ⟨Nat.le_of_ble_eq_true rfl, Nat.le_of_ble_eq_true rfl⟩ ⟨Nat.zero_le _, Nat.zero_le _⟩ rfl (Nat.le_of_ble_eq_true rfl) (fun ix21 => ?_)
    exact g_zretP C dX4_deedOrEnd_214 hr hlk h ix21
  have h := ifF c20 h
  by_cases c23 : σ 118 11 = 7
  · have h := ifT c23 h
    refine g_tabI C dX4_deedOrEnd_4 i1 (by rw [c23]; decide) (by rw [c23]; decide) (by rw [c23] <;> rfl) rfl (tgt := 124) ?_
    refine g_aload_n C dX4_deedOrEnd_124 rfl ?_
    refine g_bipush C dX4_deedOrEnd_125 rfl ?_
    obtain ⟨⟨x24, σ25⟩, qx24, h⟩ := bnd h
    refine g_callV1 (As := [iv 9]) C dX4_deedOrEnd_127 mi_X4_plainDeed ml_4_118 (ct_X4_plainDeed (by decide) qx24) rfl rfl ⟨rfl, rfl⟩ ⟨Nat.le_of_ble_eq_true rfl, Nat.le_of_ble_eq_true rfl⟩ ⟨Nat.zero_le _, Nat.zero_le _⟩ rfl (Nat.le_of_ble_eq_true rfl) (fun ix24 => ?_)
    exact g_zretP C dX4_deedOrEnd_130 hr hlk h ix24
  have h := ifF c23 h
  by_cases c26 : σ 118 11 = 9
  · have h := ifT c26 h
    refine g_tabI C dX4_deedOrEnd_4 i1 (by rw [c26]; decide) (by rw [c26]; decide) (by rw [c26] <;> rfl) rfl (tgt := 195) ?_
    refine g_aload_n C dX4_deedOrEnd_195 rfl ?_
    obtain ⟨⟨x27, σ28⟩, qx27, h⟩ := bnd h
    refine g_callV1 (As := []) C dX4_deedOrEnd_196 mi_X4_ifHead ml_4_131 (ct_X4_ifHead qx27) rfl rfl ⟨rfl, rfl⟩ ⟨Nat.le_of_ble_eq_true rfl, Nat.le_of_ble_eq_true rfl⟩ ⟨Nat.zero_le _, Nat.zero_le _⟩ rfl (Nat.le_of_ble_eq_true rfl) (fun ix27 => ?_)
    exact g_zretP C dX4_deedOrEnd_199 hr hlk h ix27
  have h := ifF c26 h
  by_cases c29 : σ 118 11 = 12
  · have h := ifT c29 h
    refine g_tabI C dX4_deedOrEnd_4 i1 (by rw [c29]; decide) (by rw [c29]; decide) (by rw [c29] <;> rfl) rfl (tgt := 144) ?_
    refine g_aload_n C dX4_deedOrEnd_144 rfl ?_
    refine g_bipush C dX4_deedOrEnd_145 rfl ?_
    obtain ⟨⟨x30, σ31⟩, qx30, h⟩ := bnd h
    refine g_callV1 (As := [iv 7]) C dX4_deedOrEnd_147 mi_X4_plainDeed ml_4_118 (ct_X4_plainDeed (by decide) qx30) rfl rfl ⟨rfl, rfl⟩ ⟨Nat.le_of_ble_eq_true rfl, Nat.le_of_ble_eq_true rfl⟩ ⟨Nat.zero_le _, Nat.zero_le _⟩ rfl (Nat.le_of_ble_eq_true rfl) (fun ix30 => ?_)
    exact g_zretP C dX4_deedOrEnd_150 hr hlk h ix30
  have h := ifF c29 h
  by_cases c32 : σ 118 11 = 13
  · have h := ifT c32 h
    refine g_tabI C dX4_deedOrEnd_4 i1 (by rw [c32]; decide) (by rw [c32]; decide) (by rw [c32] <;> rfl) rfl (tgt := 190) ?_
    refine g_aload_n C dX4_deedOrEnd_190 rfl ?_
    obtain ⟨⟨x33, σ34⟩, qx33, h⟩ := bnd h
    refine g_callV1 (As := []) C dX4_deedOrEnd_191 mi_X4_loopHead ml_4_128 (ct_X4_loopHead qx33) rfl rfl ⟨rfl, rfl⟩ ⟨Nat.le_of_ble_eq_true rfl, Nat.le_of_ble_eq_true rfl⟩ ⟨Nat.zero_le _, Nat.zero_le _⟩ rfl (Nat.le_of_ble_eq_true rfl) (fun ix33 => ?_)
    exact g_zretP C dX4_deedOrEnd_194 hr hlk h ix33
  have h := ifF c32 h
  by_cases c35 : σ 118 11 = 14
  · have h := ifT c35 h
    refine g_tabI C dX4_deedOrEnd_4 i1 (by rw [c35]; decide) (by rw [c35]; decide) (by rw [c35] <;> rfl) rfl (tgt := 138) ?_
    refine g_aload_n C dX4_deedOrEnd_138 rfl ?_
    refine g_iconst C dX4_deedOrEnd_139 ?_
    obtain ⟨⟨x36, σ37⟩, qx36, h⟩ := bnd h
    refine g_callV1 (As := [iv 3]) C dX4_deedOrEnd_140 mi_X4_plainDeed ml_4_118 (ct_X4_plainDeed (by decide) qx36) rfl rfl ⟨rfl, rfl⟩ ⟨Nat.le_of_ble_eq_true rfl, Nat.le_of_ble_eq_true rfl⟩ ⟨Nat.zero_le _, Nat.zero_le _⟩ rfl (Nat.le_of_ble_eq_true rfl) (fun ix36 => ?_)
    exact g_zretP C dX4_deedOrEnd_143 hr hlk h ix36
  have h := ifF c35 h
  by_cases c38 : σ 118 11 = 15
  · have h := ifT c38 h
    refine g_tabI C dX4_deedOrEnd_4 i1 (by rw [c38]; decide) (by rw [c38]; decide) (by rw [c38] <;> rfl) rfl (tgt := 200) ?_
    refine g_aload_n C dX4_deedOrEnd_200 rfl ?_
    obtain ⟨⟨x39, σ40⟩, qx39, h⟩ := bnd h
    refine g_callV1 (As := []) C dX4_deedOrEnd_201 mi_X4_meetHead ml_4_134 (ct_X4_meetHead qx39) rfl rfl ⟨rfl, rfl⟩ ⟨Nat.le_of_ble_eq_true rfl, Nat.le_of_ble_eq_true rfl⟩ ⟨Nat.zero_le _, Nat.zero_le _⟩ rfl (Nat.le_of_ble_eq_true rfl) (fun ix39 => ?_)
    exact g_zretP C dX4_deedOrEnd_204 hr hlk h ix39
  have h := ifF c38 h
  by_cases c41 : σ 118 11 = 18
  · have h := ifT c41 h
    refine g_tabI C dX4_deedOrEnd_4 i1 (by rw [c41]; decide) (by rw [c41]; decide) (by rw [c41] <;> rfl) rfl (tgt := 144) ?_
    refine g_aload_n C dX4_deedOrEnd_144 rfl ?_
    refine g_bipush C dX4_deedOrEnd_145 rfl ?_
    obtain ⟨⟨x42, σ43⟩, qx42, h⟩ := bnd h
    refine g_callV1 (As := [iv 7]) C dX4_deedOrEnd_147 mi_X4_plainDeed ml_4_118 (ct_X4_plainDeed (by decide) qx42) rfl rfl ⟨rfl, rfl⟩ ⟨Nat.le_of_ble_eq_true rfl, Nat.le_of_ble_eq_true rfl⟩ ⟨Nat.zero_le _, Nat.zero_le _⟩ rfl (Nat.le_of_ble_eq_true rfl) (fun ix42 => ?_)
    exact g_zretP C dX4_deedOrEnd_150 hr hlk h ix42
  have h := ifF c41 h
  by_cases c44 : σ 118 11 = 19
  · have h := ifT c44 h
    refine g_tabI C dX4_deedOrEnd_4 i1 (by rw [c44]; decide) (by rw [c44]; decide) (by rw [c44] <;> rfl) rfl (tgt := 144) ?_
    refine g_aload_n C dX4_deedOrEnd_144 rfl ?_
    refine g_bipush C dX4_deedOrEnd_145 rfl ?_
    obtain ⟨⟨x45, σ46⟩, qx45, h⟩ := bnd h
    refine g_callV1 (As := [iv 7]) C dX4_deedOrEnd_147 mi_X4_plainDeed ml_4_118 (ct_X4_plainDeed (by decide) qx45) rfl rfl ⟨rfl, rfl⟩ ⟨Nat.le_of_ble_eq_true rfl, Nat.le_of_ble_eq_true rfl⟩ ⟨Nat.zero_le _, Nat.zero_le _⟩ rfl (Nat.le_of_ble_eq_true rfl) (fun ix45 => ?_)
    exact g_zretP C dX4_deedOrEnd_150 hr hlk h ix45
  have h := ifF c44 h
  by_cases c47 : σ 118 11 = 20
  · have h := ifT c47 h
    refine g_tabI C dX4_deedOrEnd_4 i1 (by rw [c47]; decide) (by rw [c47]; decide) (by rw [c47] <;> rfl) rfl (tgt := 131) ?_
    refine g_aload_n C dX4_deedOrEnd_131 rfl ?_
    refine g_bipush C dX4_deedOrEnd_132 rfl ?_
    obtain ⟨⟨x48, σ49⟩, qx48, h⟩ := bnd h
    refine g_callV1 (As := [iv 95]) C dX4_deedOrEnd_134 mi_X4_plainDeed ml_4_118 (ct_X4_plainDeed (by decide) qx48) rfl rfl ⟨rfl, rfl⟩ ⟨Nat.le_of_ble_eq_true rfl, Nat.le_of_ble_eq_true rfl⟩ ⟨Nat.zero_le _, Nat.zero_le _⟩ rfl (Nat.le_of_ble_eq_true rfl) (fun ix48 => ?_)
    exact g_zretP C dX4_deedOrEnd_137 hr hlk h ix48
  have h := ifF c47 h
  by_cases c50 : σ 118 11 = 21
  · have h := ifT c50 h
    refine g_tabI C dX4_deedOrEnd_4 i1 (by rw [c50]; decide) (by rw [c50]; decide) (by rw [c50] <;> rfl) rfl (tgt := 131) ?_
    refine g_aload_n C dX4_deedOrEnd_131 rfl ?_
    refine g_bipush C dX4_deedOrEnd_132 rfl ?_
    obtain ⟨⟨x51, σ52⟩, qx51, h⟩ := bnd h
    refine g_callV1 (As := [iv 95]) C dX4_deedOrEnd_134 mi_X4_plainDeed ml_4_118 (ct_X4_plainDeed (by decide) qx51) rfl rfl ⟨rfl, rfl⟩ ⟨Nat.le_of_ble_eq_true rfl, Nat.le_of_ble_eq_true rfl⟩ ⟨Nat.zero_le _, Nat.zero_le _⟩ rfl (Nat.le_of_ble_eq_true rfl) (fun ix51 => ?_)
    exact g_zretP C dX4_deedOrEnd_137 hr hlk h ix51
  have h := ifF c50 h
  by_cases c53 : σ 118 11 = 23
  · have h := ifT c53 h
    refine g_tabI C dX4_deedOrEnd_4 i1 (by rw [c53]; decide) (by rw [c53]; decide) (by rw [c53] <;> rfl) rfl (tgt := 138) ?_
    refine g_aload_n C dX4_deedOrEnd_138 rfl ?_
    refine g_iconst C dX4_deedOrEnd_139 ?_
    obtain ⟨⟨x54, σ55⟩, qx54, h⟩ := bnd h
    refine g_callV1 (As := [iv 3]) C dX4_deedOrEnd_140 mi_X4_plainDeed ml_4_118 (ct_X4_plainDeed (by decide) qx54) rfl rfl ⟨rfl, rfl⟩ ⟨Nat.le_of_ble_eq_true rfl, Nat.le_of_ble_eq_true rfl⟩ ⟨Nat.zero_le _, Nat.zero_le _⟩ rfl (Nat.le_of_ble_eq_true rfl) (fun ix54 => ?_)
    exact g_zretP C dX4_deedOrEnd_143 hr hlk h ix54
  have h := ifF c53 h
  by_cases c56 : σ 118 11 = 25
  · have h := ifT c56 h
    refine g_tabI C dX4_deedOrEnd_4 i1 (by rw [c56]; decide) (by rw [c56]; decide) (by rw [c56] <;> rfl) rfl (tgt := 144) ?_
    refine g_aload_n C dX4_deedOrEnd_144 rfl ?_
    refine g_bipush C dX4_deedOrEnd_145 rfl ?_
    obtain ⟨⟨x57, σ58⟩, qx57, h⟩ := bnd h
    refine g_callV1 (As := [iv 7]) C dX4_deedOrEnd_147 mi_X4_plainDeed ml_4_118 (ct_X4_plainDeed (by decide) qx57) rfl rfl ⟨rfl, rfl⟩ ⟨Nat.le_of_ble_eq_true rfl, Nat.le_of_ble_eq_true rfl⟩ ⟨Nat.zero_le _, Nat.zero_le _⟩ rfl (Nat.le_of_ble_eq_true rfl) (fun ix57 => ?_)
    exact g_zretP C dX4_deedOrEnd_150 hr hlk h ix57
  have h := ifF c56 h
  have hD59 : GM w p l e rm_X4_deedOrEnd s m args below meth c (some (iv y)) (InZ y) σ' 1 215 [some (rv w 118)] [] σ := by
    refine g_aload_n C dX4_deedOrEnd_215 rfl ?_
    refine g_iconst C dX4_deedOrEnd_216 ?_
    obtain ⟨⟨x60, σ61⟩, qx60, h⟩ := bnd h
    refine g_callV1 (As := [iv 1]) C dX4_deedOrEnd_217 mi_X4_fail ml_4_97 (ct_X4_fail (by decide) qx60) rfl rfl ⟨rfl, rfl⟩ ⟨Nat.le_of_ble_eq_true rfl, Nat.le_of_ble_eq_true rfl⟩ ⟨Nat.zero_le _, Nat.zero_le _⟩ rfl (Nat.le_of_ble_eq_true rfl) (fun ix60 => ?_)
    exact g_zretP C dX4_deedOrEnd_220 hr hlk h ix60
  by_cases c62 : σ 118 11 = 2
  · exact g_tabI C dX4_deedOrEnd_4 i1 (by rw [c62]; decide) (by rw [c62]; decide) (by rw [c62] <;> rfl) rfl (tgt := 215) hD59
  by_cases c63 : σ 118 11 = 6
  · exact g_tabI C dX4_deedOrEnd_4 i1 (by rw [c63]; decide) (by rw [c63]; decide) (by rw [c63] <;> rfl) rfl (tgt := 215) hD59
  by_cases c64 : σ 118 11 = 8
  · exact g_tabI C dX4_deedOrEnd_4 i1 (by rw [c64]; decide) (by rw [c64]; decide) (by rw [c64] <;> rfl) rfl (tgt := 215) hD59
  by_cases c65 : σ 118 11 = 10
  · exact g_tabI C dX4_deedOrEnd_4 i1 (by rw [c65]; decide) (by rw [c65]; decide) (by rw [c65] <;> rfl) rfl (tgt := 215) hD59
  by_cases c66 : σ 118 11 = 11
  · exact g_tabI C dX4_deedOrEnd_4 i1 (by rw [c66]; decide) (by rw [c66]; decide) (by rw [c66] <;> rfl) rfl (tgt := 215) hD59
  by_cases c67 : σ 118 11 = 16
  · exact g_tabI C dX4_deedOrEnd_4 i1 (by rw [c67]; decide) (by rw [c67]; decide) (by rw [c67] <;> rfl) rfl (tgt := 215) hD59
  by_cases c68 : σ 118 11 = 17
  · exact g_tabI C dX4_deedOrEnd_4 i1 (by rw [c68]; decide) (by rw [c68]; decide) (by rw [c68] <;> rfl) rfl (tgt := 215) hD59
  by_cases c69 : σ 118 11 = 22
  · exact g_tabI C dX4_deedOrEnd_4 i1 (by rw [c69]; decide) (by rw [c69]; decide) (by rw [c69] <;> rfl) rfl (tgt := 215) hD59
  by_cases c70 : σ 118 11 = 24
  · exact g_tabI C dX4_deedOrEnd_4 i1 (by rw [c70]; decide) (by rw [c70]; decide) (by rw [c70] <;> rfl) rfl (tgt := 215) hD59
  exact g_tabO C dX4_deedOrEnd_4 i1 (by omega) rfl (tgt := 215) hD59
theorem dX4_codeOrOver_0 : decode cX4_codeOrOver 0 = .ok (.aload_n 0, 1) := by decide +kernel
theorem dX4_codeOrOver_1 : decode cX4_codeOrOver 1 = .ok (.getfield 74, 3) := by decide +kernel
theorem dX4_codeOrOver_4 : decode cX4_codeOrOver 4 = .ok (.bipush 29, 2) := by decide +kernel
theorem dX4_codeOrOver_6 : decode cX4_codeOrOver 6 = .ok (.if_icmp .ne 5, 3) := by decide +kernel
theorem dX4_codeOrOver_9 : decode cX4_codeOrOver 9 = .ok (.iconst 0, 1) := by decide +kernel
theorem dX4_codeOrOver_10 : decode cX4_codeOrOver 10 = .ok (.ireturn, 1) := by decide +kernel
theorem dX4_codeOrOver_11 : decode cX4_codeOrOver 11 = .ok (.aload_n 0, 1) := by decide +kernel
theorem dX4_codeOrOver_12 : decode cX4_codeOrOver 12 = .ok (.getfield 74, 3) := by decide +kernel
theorem dX4_codeOrOver_15 : decode cX4_codeOrOver 15 = .ok (.iconst 2, 1) := by decide +kernel
theorem dX4_codeOrOver_16 : decode cX4_codeOrOver 16 = .ok (.if_icmp .ne 21, 3) := by decide +kernel
theorem dX4_codeOrOver_19 : decode cX4_codeOrOver 19 = .ok (.aload_n 0, 1) := by decide +kernel
theorem dX4_codeOrOver_20 : decode cX4_codeOrOver 20 = .ok (.getfield 12, 3) := by decide +kernel
theorem dX4_codeOrOver_23 : decode cX4_codeOrOver 23 = .ok (.getfield 107, 3) := by decide +kernel
theorem dX4_codeOrOver_26 : decode cX4_codeOrOver 26 = .ok (.bipush 8, 2) := by decide +kernel
theorem dX4_codeOrOver_28 : decode cX4_codeOrOver 28 = .ok (.if_icmp .lt 9, 3) := by decide +kernel
theorem dX4_codeOrOver_31 : decode cX4_codeOrOver 31 = .ok (.aload_n 0, 1) := by decide +kernel
theorem dX4_codeOrOver_32 : decode cX4_codeOrOver 32 = .ok (.iconst 2, 1) := by decide +kernel
theorem dX4_codeOrOver_33 : decode cX4_codeOrOver 33 = .ok (.invokevirtual 97, 3) := by decide +kernel
theorem dX4_codeOrOver_36 : decode cX4_codeOrOver 36 = .ok (.ireturn, 1) := by decide +kernel
theorem dX4_codeOrOver_37 : decode cX4_codeOrOver 37 = .ok (.aload_n 0, 1) := by decide +kernel
theorem dX4_codeOrOver_38 : decode cX4_codeOrOver 38 = .ok (.iconst 2, 1) := by decide +kernel
theorem dX4_codeOrOver_39 : decode cX4_codeOrOver 39 = .ok (.invokevirtual 104, 3) := by decide +kernel
theorem dX4_codeOrOver_42 : decode cX4_codeOrOver 42 = .ok (.ifCond .ne 5, 3) := by decide +kernel
theorem dX4_codeOrOver_45 : decode cX4_codeOrOver 45 = .ok (.iconst 0, 1) := by decide +kernel
theorem dX4_codeOrOver_46 : decode cX4_codeOrOver 46 = .ok (.ireturn, 1) := by decide +kernel
theorem dX4_codeOrOver_47 : decode cX4_codeOrOver 47 = .ok (.aload_n 0, 1) := by decide +kernel
theorem dX4_codeOrOver_48 : decode cX4_codeOrOver 48 = .ok (.getfield 74, 3) := by decide +kernel
theorem dX4_codeOrOver_51 : decode cX4_codeOrOver 51 = .ok (.bipush 26, 2) := by decide +kernel
theorem dX4_codeOrOver_53 : decode cX4_codeOrOver 53 = .ok (.if_icmp .ne 23, 3) := by decide +kernel
theorem dX4_codeOrOver_56 : decode cX4_codeOrOver 56 = .ok (.aload_n 0, 1) := by decide +kernel
theorem dX4_codeOrOver_57 : decode cX4_codeOrOver 57 = .ok (.getfield 12, 3) := by decide +kernel
theorem dX4_codeOrOver_60 : decode cX4_codeOrOver 60 = .ok (.aload_n 0, 1) := by decide +kernel
theorem dX4_codeOrOver_61 : decode cX4_codeOrOver 61 = .ok (.getfield 93, 3) := by decide +kernel
theorem dX4_codeOrOver_64 : decode cX4_codeOrOver 64 = .ok (.invokevirtual 110, 3) := by decide +kernel
theorem dX4_codeOrOver_67 : decode cX4_codeOrOver 67 = .ok (.iconst (-1), 1) := by decide +kernel
theorem dX4_codeOrOver_68 : decode cX4_codeOrOver 68 = .ok (.if_icmp .eq 8, 3) := by decide +kernel
theorem dX4_codeOrOver_71 : decode cX4_codeOrOver 71 = .ok (.aload_n 0, 1) := by decide +kernel
theorem dX4_codeOrOver_72 : decode cX4_codeOrOver 72 = .ok (.iconst 3, 1) := by decide +kernel
theorem dX4_codeOrOver_73 : decode cX4_codeOrOver 73 = .ok (.invokevirtual 101, 3) := by decide +kernel
theorem dX4_codeOrOver_76 : decode cX4_codeOrOver 76 = .ok (.aload_n 0, 1) := by decide +kernel
theorem dX4_codeOrOver_77 : decode cX4_codeOrOver 77 = .ok (.getfield 12, 3) := by decide +kernel
theorem dX4_codeOrOver_80 : decode cX4_codeOrOver 80 = .ok (.aload_n 0, 1) := by decide +kernel
theorem dX4_codeOrOver_81 : decode cX4_codeOrOver 81 = .ok (.getfield 93, 3) := by decide +kernel
theorem dX4_codeOrOver_84 : decode cX4_codeOrOver 84 = .ok (.invokevirtual 114, 3) := by decide +kernel
theorem dX4_codeOrOver_87 : decode cX4_codeOrOver 87 = .ok (.aload_n 0, 1) := by decide +kernel
theorem dX4_codeOrOver_88 : decode cX4_codeOrOver 88 = .ok (.iconst 1, 1) := by decide +kernel
theorem dX4_codeOrOver_89 : decode cX4_codeOrOver 89 = .ok (.putfield 41, 3) := by decide +kernel
theorem dX4_codeOrOver_92 : decode cX4_codeOrOver 92 = .ok (.aload_n 0, 1) := by decide +kernel
theorem dX4_codeOrOver_93 : decode cX4_codeOrOver 93 = .ok (.bipush 26, 2) := by decide +kernel
theorem dX4_codeOrOver_95 : decode cX4_codeOrOver 95 = .ok (.invokevirtual 104, 3) := by decide +kernel
theorem dX4_codeOrOver_98 : decode cX4_codeOrOver 98 = .ok (.ireturn, 1) := by decide +kernel
abbrev rm_X4_codeOrOver : Room := { frames := 2, cells := 0, slots := 0, locals := 42 }
set_option maxRecDepth 100000 in
set_option maxHeartbeats 4000000 in
theorem ct_X4_codeOrOver {w : Wd} {l : Launch} {σ : St} {y : Int} {σ' : St} (h : m_X4_codeOrOver σ = some (y, σ')) : Ct w l yX4_codeOrOver (Cond.code yX4_codeOrOver cX4_codeOrOver 1 (some .boolean) :: TB) rm_X4_codeOrOver [rv w 118] σ (some (iv y)) (InZ y) σ' := by
  refine Ct.of2 [some (rv w 118)] 0 rfl pn_RX4 (Nat.le_of_ble_eq_true rfl) ?_
  intro p e s m args below meth c C hr hlk
  unfold m_X4_codeOrOver at h
  refine g_aload_n C dX4_codeOrOver_0 rfl ?_
  refine g_getI (j := 11) C dX4_codeOrOver_1 rfl (Nat.le_of_ble_eq_true rfl) (Nat.le_of_ble_eq_true rfl) fl_4_74 rfl rfl (fun i1 => ?_)
  refine g_bipush C dX4_codeOrOver_4 rfl ?_
  refine g_icmp_ne C dX4_codeOrOver_6 i1 (by decide) rfl (tgt := 11) (fun c2 => ?_) (fun c2 => ?_)
  · have h := ifF c2 h
    refine g_aload_n C dX4_codeOrOver_11 rfl ?_
    refine g_getI (j := 11) C dX4_codeOrOver_12 rfl (Nat.le_of_ble_eq_true rfl) (Nat.le_of_ble_eq_true rfl) fl_4_74 rfl rfl (fun i3 => ?_)
    refine g_iconst C dX4_codeOrOver_15 ?_
    have hJ37_25 : m_X4_codeOrOver_J37 σ = some (y, σ') → GM w p l e rm_X4_codeOrOver s m args below meth c (some (iv y)) (InZ y) σ' 1 37 [some (rv w 118)] [] σ := by
      intro h
      unfold m_X4_codeOrOver_J37 at h
      refine g_aload_n C dX4_codeOrOver_37 rfl ?_
      refine g_iconst C dX4_codeOrOver_38 ?_
      obtain ⟨⟨x9, σ10⟩, qx9, h⟩ := bnd h
      refine g_callV1 (As := [iv 2]) C dX4_codeOrOver_39 mi_X4_accept ml_4_104 (ct_X4_accept (by decide) qx9) rfl rfl ⟨rfl, rfl⟩ ⟨Nat.le_of_ble_eq_true rfl, Nat.le_of_ble_eq_true rfl⟩ ⟨Nat.zero_le _, Nat.zero_le _⟩ rfl (Nat.le_of_ble_eq_true rfl) (fun ix9 => ?_)
      refine g_if_ne C dX4_codeOrOver_42 (zI ix9) rfl (tgt := 47) (fun c11 => ?_) (fun c11 => ?_)
      · have h := ifF c11 h
        refine g_aload_n C dX4_codeOrOver_47 rfl ?_
        refine g_getI (j := 11) C dX4_codeOrOver_48 rfl (Nat.le_of_ble_eq_true rfl) (Nat.le_of_ble_eq_true rfl) fl_4_74 rfl rfl (fun i12 => ?_)
        refine g_bipush C dX4_codeOrOver_51 rfl ?_
        have hJ76_24 : ∀ (σ18 : St) , m_X4_codeOrOver_J76 σ18 = some (y, σ') → GM w p l e rm_X4_codeOrOver s m args below meth c (some (iv y)) (InZ y) σ' 1 76 [some (rv w 118)] [] σ18 := by
          intro σ18 h
          unfold m_X4_codeOrOver_J76 at h
          refine g_aload_n C dX4_codeOrOver_76 rfl ?_
          refine g_getR (j := 0) C dX4_codeOrOver_77 rfl (Nat.le_of_ble_eq_true rfl) (Nat.le_of_ble_eq_true rfl) fl_4_12 rfl rfl (r := 119) rfl ?_
          refine g_aload_n C dX4_codeOrOver_80 rfl ?_
          refine g_getJ (j := 14) C dX4_codeOrOver_81 rfl (Nat.le_of_ble_eq_true rfl) (Nat.le_of_ble_eq_true rfl) fl_4_93 rfl rfl (fun i19 => ?_)
          obtain ⟨σ20, qσ20, h⟩ := bnd h
          refine g_callV0 (As := [jv (σ18 118 14)]) C dX4_codeOrOver_84 mi_X5_beginCode ml_4_114 (ct_X5_beginCode rfl i19 qσ20) rfl rfl ⟨rfl, rfl⟩ ⟨Nat.le_of_ble_eq_true rfl, Nat.le_of_ble_eq_true rfl⟩ ⟨Nat.zero_le _, Nat.zero_le _⟩ rfl (Nat.le_of_ble_eq_true rfl) (fun _ => ?_)
          refine g_aload_n C dX4_codeOrOver_87 rfl ?_
          refine g_iconst C dX4_codeOrOver_88 ?_
          obtain ⟨σ21, qσ21, h⟩ := bnd h
          refine g_putZ (j := 7) C dX4_codeOrOver_89 rfl (Nat.le_of_ble_eq_true rfl) (Nat.le_of_ble_eq_true rfl) fl_4_41 rfl rfl rfl rfl qσ21 (Or.inr rfl) ?_
          refine g_aload_n C dX4_codeOrOver_92 rfl ?_
          refine g_bipush C dX4_codeOrOver_93 rfl ?_
          obtain ⟨⟨x22, σ23⟩, qx22, h⟩ := bnd h
          refine g_callV1 (As := [iv 26]) C dX4_codeOrOver_95 mi_X4_accept ml_4_104 (ct_X4_accept (by decide) qx22) rfl rfl ⟨rfl, rfl⟩ ⟨Nat.le_of_ble_eq_true rfl, Nat.le_of_ble_eq_true rfl⟩ ⟨Nat.zero_le _, Nat.zero_le _⟩ rfl (Nat.le_of_ble_eq_true rfl) (fun ix22 => ?_)
          exact g_zretP C dX4_codeOrOver_98 hr hlk h ix22
        refine g_icmp_ne C dX4_codeOrOver_53 i12 (by decide) rfl (tgt := 76) (fun c13 => ?_) (fun c13 => ?_)
        · have h := ifF c13 h
          exact hJ76_24 σ10 h
        · have h := ifT c13 h
          refine g_aload_n C dX4_codeOrOver_56 rfl ?_
          refine g_getR (j := 0) C dX4_codeOrOver_57 rfl (Nat.le_of_ble_eq_true rfl) (Nat.le_of_ble_eq_true rfl) fl_4_12 rfl rfl (r := 119) rfl ?_
          refine g_aload_n C dX4_codeOrOver_60 rfl ?_
          refine g_getJ (j := 14) C dX4_codeOrOver_61 rfl (Nat.le_of_ble_eq_true rfl) (Nat.le_of_ble_eq_true rfl) fl_4_93 rfl rfl (fun i14 => ?_)
          obtain ⟨x15, qx15, h⟩ := bnd h
          refine g_callV1 (As := [jv (σ10 118 14)]) C dX4_codeOrOver_64 mi_X5_codeNamed ml_4_110 (ct_X5_codeNamed rfl i14 qx15) rfl rfl ⟨rfl, rfl⟩ ⟨Nat.le_of_ble_eq_true rfl, Nat.le_of_ble_eq_true rfl⟩ ⟨Nat.zero_le _, Nat.zero_le _⟩ rfl (Nat.le_of_ble_eq_true rfl) (fun ix15 => ?_)
          refine g_iconst C dX4_codeOrOver_67 ?_
          refine g_icmp_eq C dX4_codeOrOver_68 ix15 (by decide) rfl (tgt := 76) (fun c16 => ?_) (fun c16 => ?_)
          · have h := ifT c16 h
            exact hJ76_24 σ10 h
          · have h := ifF c16 h
            refine g_aload_n C dX4_codeOrOver_71 rfl ?_
            refine g_iconst C dX4_codeOrOver_72 ?_
            obtain ⟨σ17, qσ17, h⟩ := bnd h
            refine g_callV0 (As := [iv 3]) C dX4_codeOrOver_73 mi_X4_failLater ml_4_101 (ct_X4_failLater (by decide) qσ17) rfl rfl ⟨rfl, rfl⟩ ⟨Nat.le_of_ble_eq_true rfl, Nat.le_of_ble_eq_true rfl⟩ ⟨Nat.zero_le _, Nat.zero_le _⟩ rfl (Nat.le_of_ble_eq_true rfl) (fun _ => ?_)
            exact hJ76_24 σ17 h
      · have h := ifT c11 h
        refine g_iconst C dX4_codeOrOver_45 ?_
        exact g_zretP C dX4_codeOrOver_46 hr hlk h (Or.inl rfl)
    refine g_icmp_ne C dX4_codeOrOver_16 i3 (by decide) rfl (tgt := 37) (fun c4 => ?_) (fun c4 => ?_)
    · have h := ifF c4 h
      exact hJ37_25  h
    · have h := ifT c4 h
      refine g_aload_n C dX4_codeOrOver_19 rfl ?_
      refine g_getR (j := 0) C dX4_codeOrOver_20 rfl (Nat.le_of_ble_eq_true rfl) (Nat.le_of_ble_eq_true rfl) fl_4_12 rfl rfl (r := 119) rfl ?_
      refine g_getI (j := 8) C dX4_codeOrOver_23 rfl (Nat.le_of_ble_eq_true rfl) (Nat.le_of_ble_eq_true rfl) fl_4_107 rfl rfl (fun i5 => ?_)
      refine g_bipush C dX4_codeOrOver_26 rfl ?_
      refine g_icmp_lt C dX4_codeOrOver_28 i5 (by decide) rfl (tgt := 37) (fun c6 => ?_) (fun c6 => ?_)
      · have h := ifT c6 h
        exact hJ37_25  h
      · have h := ifF c6 h
        refine g_aload_n C dX4_codeOrOver_31 rfl ?_
        refine g_iconst C dX4_codeOrOver_32 ?_
        obtain ⟨⟨x7, σ8⟩, qx7, h⟩ := bnd h
        refine g_callV1 (As := [iv 2]) C dX4_codeOrOver_33 mi_X4_fail ml_4_97 (ct_X4_fail (by decide) qx7) rfl rfl ⟨rfl, rfl⟩ ⟨Nat.le_of_ble_eq_true rfl, Nat.le_of_ble_eq_true rfl⟩ ⟨Nat.zero_le _, Nat.zero_le _⟩ rfl (Nat.le_of_ble_eq_true rfl) (fun ix7 => ?_)
        exact g_zretP C dX4_codeOrOver_36 hr hlk h ix7
  · have h := ifT c2 h
    refine g_iconst C dX4_codeOrOver_9 ?_
    exact g_zretP C dX4_codeOrOver_10 hr hlk h (Or.inl rfl)
theorem dX4_parse_0 : decode cX4_parse 0 = .ok (.aload_n 0, 1) := by decide +kernel
theorem dX4_parse_1 : decode cX4_parse 1 = .ok (.getfield 12, 3) := by decide +kernel
theorem dX4_parse_4 : decode cX4_parse 4 = .ok (.invokevirtual 29, 3) := by decide +kernel
theorem dX4_parse_7 : decode cX4_parse 7 = .ok (.aload_n 0, 1) := by decide +kernel
theorem dX4_parse_8 : decode cX4_parse 8 = .ok (.getfield 25, 3) := by decide +kernel
theorem dX4_parse_11 : decode cX4_parse 11 = .ok (.invokevirtual 32, 3) := by decide +kernel
theorem dX4_parse_14 : decode cX4_parse 14 = .ok (.aload_n 0, 1) := by decide +kernel
theorem dX4_parse_15 : decode cX4_parse 15 = .ok (.iconst 0, 1) := by decide +kernel
theorem dX4_parse_16 : decode cX4_parse 16 = .ok (.putfield 37, 3) := by decide +kernel
theorem dX4_parse_19 : decode cX4_parse 19 = .ok (.aload_n 0, 1) := by decide +kernel
theorem dX4_parse_20 : decode cX4_parse 20 = .ok (.iconst 0, 1) := by decide +kernel
theorem dX4_parse_21 : decode cX4_parse 21 = .ok (.putfield 41, 3) := by decide +kernel
theorem dX4_parse_24 : decode cX4_parse 24 = .ok (.aload_n 0, 1) := by decide +kernel
theorem dX4_parse_25 : decode cX4_parse 25 = .ok (.iconst 0, 1) := by decide +kernel
theorem dX4_parse_26 : decode cX4_parse 26 = .ok (.putfield 45, 3) := by decide +kernel
theorem dX4_parse_29 : decode cX4_parse 29 = .ok (.aload_n 0, 1) := by decide +kernel
theorem dX4_parse_30 : decode cX4_parse 30 = .ok (.iconst 0, 1) := by decide +kernel
theorem dX4_parse_31 : decode cX4_parse 31 = .ok (.putfield 48, 3) := by decide +kernel
theorem dX4_parse_34 : decode cX4_parse 34 = .ok (.aload_n 0, 1) := by decide +kernel
theorem dX4_parse_35 : decode cX4_parse 35 = .ok (.iconst 0, 1) := by decide +kernel
theorem dX4_parse_36 : decode cX4_parse 36 = .ok (.invokevirtual 51, 3) := by decide +kernel
theorem dX4_parse_39 : decode cX4_parse 39 = .ok (.iconst 1, 1) := by decide +kernel
theorem dX4_parse_40 : decode cX4_parse 40 = .ok (.istore_n 1, 1) := by decide +kernel
theorem dX4_parse_41 : decode cX4_parse 41 = .ok (.iconst 0, 1) := by decide +kernel
theorem dX4_parse_42 : decode cX4_parse 42 = .ok (.istore_n 2, 1) := by decide +kernel
theorem dX4_parse_43 : decode cX4_parse 43 = .ok (.iload_n 2, 1) := by decide +kernel
theorem dX4_parse_44 : decode cX4_parse 44 = .ok (.sipush 500, 3) := by decide +kernel
theorem dX4_parse_47 : decode cX4_parse 47 = .ok (.if_icmp .gt 32, 3) := by decide +kernel
theorem dX4_parse_50 : decode cX4_parse 50 = .ok (.iload_n 1, 1) := by decide +kernel
theorem dX4_parse_51 : decode cX4_parse 51 = .ok (.ifCond .eq 28, 3) := by decide +kernel
theorem dX4_parse_54 : decode cX4_parse 54 = .ok (.aload_n 0, 1) := by decide +kernel
theorem dX4_parse_55 : decode cX4_parse 55 = .ok (.getfield 41, 3) := by decide +kernel
theorem dX4_parse_58 : decode cX4_parse 58 = .ok (.ifCond .eq 10, 3) := by decide +kernel
theorem dX4_parse_61 : decode cX4_parse 61 = .ok (.aload_n 0, 1) := by decide +kernel
theorem dX4_parse_62 : decode cX4_parse 62 = .ok (.invokevirtual 55, 3) := by decide +kernel
theorem dX4_parse_65 : decode cX4_parse 65 = .ok (.goto 7, 3) := by decide +kernel
theorem dX4_parse_68 : decode cX4_parse 68 = .ok (.aload_n 0, 1) := by decide +kernel
theorem dX4_parse_69 : decode cX4_parse 69 = .ok (.invokevirtual 59, 3) := by decide +kernel
theorem dX4_parse_72 : decode cX4_parse 72 = .ok (.istore_n 1, 1) := by decide +kernel
theorem dX4_parse_73 : decode cX4_parse 73 = .ok (.iinc 2 1, 3) := by decide +kernel
theorem dX4_parse_76 : decode cX4_parse 76 = .ok (.goto (-33), 3) := by decide +kernel
theorem dX4_parse_79 : decode cX4_parse 79 = .ok (.aload_n 0, 1) := by decide +kernel
theorem dX4_parse_80 : decode cX4_parse 80 = .ok (.getfield 45, 3) := by decide +kernel
theorem dX4_parse_83 : decode cX4_parse 83 = .ok (.ifCond .ne 26, 3) := by decide +kernel
theorem dX4_parse_86 : decode cX4_parse 86 = .ok (.aload_n 0, 1) := by decide +kernel
theorem dX4_parse_87 : decode cX4_parse 87 = .ok (.getfield 48, 3) := by decide +kernel
theorem dX4_parse_90 : decode cX4_parse 90 = .ok (.ifCond .eq 19, 3) := by decide +kernel
theorem dX4_parse_93 : decode cX4_parse 93 = .ok (.aload_n 0, 1) := by decide +kernel
theorem dX4_parse_94 : decode cX4_parse 94 = .ok (.aload_n 0, 1) := by decide +kernel
theorem dX4_parse_95 : decode cX4_parse 95 = .ok (.getfield 48, 3) := by decide +kernel
theorem dX4_parse_98 : decode cX4_parse 98 = .ok (.putfield 45, 3) := by decide +kernel
theorem dX4_parse_101 : decode cX4_parse 101 = .ok (.aload_n 0, 1) := by decide +kernel
theorem dX4_parse_102 : decode cX4_parse 102 = .ok (.aload_n 0, 1) := by decide +kernel
theorem dX4_parse_103 : decode cX4_parse 103 = .ok (.getfield 62, 3) := by decide +kernel
theorem dX4_parse_106 : decode cX4_parse 106 = .ok (.putfield 65, 3) := by decide +kernel
theorem dX4_parse_109 : decode cX4_parse 109 = .ok (.aload_n 0, 1) := by decide +kernel
theorem dX4_parse_110 : decode cX4_parse 110 = .ok (.getfield 45, 3) := by decide +kernel
theorem dX4_parse_113 : decode cX4_parse 113 = .ok (.ireturn, 1) := by decide +kernel
abbrev rm_X4_parse : Room := { frames := 7, cells := 0, slots := 0, locals := 155 }
set_option maxRecDepth 100000 in
set_option maxHeartbeats 4000000 in
theorem ct_X4_parse {w : Wd} {l : Launch} {σ : St} {y : Int} {σ' : St} (h : m_X4_parse σ = some (y, σ')) : Ct w l yX4_parse (Cond.code yX4_parse cX4_parse 3 (some .int) :: TB) rm_X4_parse [rv w 118] σ (some (iv y)) (InI y) σ' := by
  refine Ct.of2 [some (rv w 118), none, none] 2 rfl pn_RX4 (Nat.le_of_ble_eq_true rfl) ?_
  intro p e s m args below meth c C hr hlk
  unfold m_X4_parse at h
  refine g_aload_n C dX4_parse_0 rfl ?_
  refine g_getR (j := 0) C dX4_parse_1 rfl (Nat.le_of_ble_eq_true rfl) (Nat.le_of_ble_eq_true rfl) fl_4_12 rfl rfl (r := 119) rfl ?_
  obtain ⟨σ1, qσ1, h⟩ := bnd h
  refine g_callV0 (As := []) C dX4_parse_4 mi_X5_clear ml_4_29 (ct_X5_clear rfl qσ1) rfl rfl ⟨rfl, rfl⟩ ⟨Nat.le_of_ble_eq_true rfl, Nat.le_of_ble_eq_true rfl⟩ ⟨Nat.zero_le _, Nat.zero_le _⟩ rfl (Nat.le_of_ble_eq_true rfl) (fun _ => ?_)
  refine g_aload_n C dX4_parse_7 rfl ?_
  refine g_getR (j := 3) C dX4_parse_8 rfl (Nat.le_of_ble_eq_true rfl) (Nat.le_of_ble_eq_true rfl) fl_4_25 rfl rfl (r := 16) rfl ?_
  obtain ⟨σ2, qσ2, h⟩ := bnd h
  refine g_callV0 (As := []) C dX4_parse_11 mi_X9_scan ml_4_32 (ct_X9_scan qσ2) rfl rfl ⟨rfl, rfl⟩ ⟨Nat.le_of_ble_eq_true rfl, Nat.le_of_ble_eq_true rfl⟩ ⟨Nat.zero_le _, Nat.zero_le _⟩ rfl (Nat.le_of_ble_eq_true rfl) (fun _ => ?_)
  refine g_aload_n C dX4_parse_14 rfl ?_
  refine g_iconst C dX4_parse_15 ?_
  obtain ⟨σ3, qσ3, h⟩ := bnd h
  refine g_putI (j := 6) C dX4_parse_16 rfl (Nat.le_of_ble_eq_true rfl) (Nat.le_of_ble_eq_true rfl) fl_4_37 rfl rfl rfl rfl qσ3 (by decide) ?_
  refine g_aload_n C dX4_parse_19 rfl ?_
  refine g_iconst C dX4_parse_20 ?_
  obtain ⟨σ4, qσ4, h⟩ := bnd h
  refine g_putZ (j := 7) C dX4_parse_21 rfl (Nat.le_of_ble_eq_true rfl) (Nat.le_of_ble_eq_true rfl) fl_4_41 rfl rfl rfl rfl qσ4 (Or.inl rfl) ?_
  refine g_aload_n C dX4_parse_24 rfl ?_
  refine g_iconst C dX4_parse_25 ?_
  obtain ⟨σ5, qσ5, h⟩ := bnd h
  refine g_putI (j := 1) C dX4_parse_26 rfl (Nat.le_of_ble_eq_true rfl) (Nat.le_of_ble_eq_true rfl) fl_4_45 rfl rfl rfl rfl qσ5 (by decide) ?_
  refine g_aload_n C dX4_parse_29 rfl ?_
  refine g_iconst C dX4_parse_30 ?_
  obtain ⟨σ6, qσ6, h⟩ := bnd h
  refine g_putI (j := 8) C dX4_parse_31 rfl (Nat.le_of_ble_eq_true rfl) (Nat.le_of_ble_eq_true rfl) fl_4_48 rfl rfl rfl rfl qσ6 (by decide) ?_
  refine g_aload_n C dX4_parse_34 rfl ?_
  refine g_iconst C dX4_parse_35 ?_
  obtain ⟨σ7, qσ7, h⟩ := bnd h
  refine g_callV0 (As := [iv 0]) C dX4_parse_36 mi_X4_comeTo ml_4_51 (ct_X4_comeTo (by decide) qσ7) rfl rfl ⟨rfl, rfl⟩ ⟨Nat.le_of_ble_eq_true rfl, Nat.le_of_ble_eq_true rfl⟩ ⟨Nat.zero_le _, Nat.zero_le _⟩ rfl (Nat.le_of_ble_eq_true rfl) (fun _ => ?_)
  refine g_iconst C dX4_parse_39 ?_
  refine g_istore_n (L1 := [some (rv w 118), some (iv 1), none]) C dX4_parse_40 rfl (Nat.le_of_ble_eq_true rfl) rfl ?_
  refine g_iconst C dX4_parse_41 ?_
  refine g_istore_n (L1 := [some (rv w 118), some (iv 1), some (iv 0)]) C dX4_parse_42 rfl (Nat.le_of_ble_eq_true rfl) rfl ?_
  obtain ⟨b8, hb8, hF8⟩ := bnd h
  have hX8 : ∀ (σ20 : St) , σ20 = b8 → GM w p l e rm_X4_parse s m args below meth c (some (iv y)) (InI y) σ' 3 79 [some (rv w 118), none, none] [] σ20 := by
    intro σ20 q
    subst q
    have h := hF8
    refine g_aload_n C dX4_parse_79 rfl ?_
    refine g_getI (j := 1) C dX4_parse_80 rfl (Nat.le_of_ble_eq_true rfl) (Nat.le_of_ble_eq_true rfl) fl_4_45 rfl rfl (fun i21 => ?_)
    refine g_if_ne C dX4_parse_83 i21 rfl (tgt := 109) (fun c22 => ?_) (fun c22 => ?_)
    · have h := ifF c22 h
      refine g_aload_n C dX4_parse_109 rfl ?_
      refine g_getI (j := 1) C dX4_parse_110 rfl (Nat.le_of_ble_eq_true rfl) (Nat.le_of_ble_eq_true rfl) fl_4_45 rfl rfl (fun i23 => ?_)
      exact g_iretP C dX4_parse_113 hr hlk h i23
    · have h := ifT c22 h
      refine g_aload_n C dX4_parse_86 rfl ?_
      refine g_getI (j := 8) C dX4_parse_87 rfl (Nat.le_of_ble_eq_true rfl) (Nat.le_of_ble_eq_true rfl) fl_4_48 rfl rfl (fun i24 => ?_)
      refine g_if_eq C dX4_parse_90 i24 rfl (tgt := 109) (fun c25 => ?_) (fun c25 => ?_)
      · have h := ifT c25 h
        refine g_aload_n C dX4_parse_109 rfl ?_
        refine g_getI (j := 1) C dX4_parse_110 rfl (Nat.le_of_ble_eq_true rfl) (Nat.le_of_ble_eq_true rfl) fl_4_45 rfl rfl (fun i26 => ?_)
        exact g_iretP C dX4_parse_113 hr hlk h i26
      · have h := ifF c25 h
        refine g_aload_n C dX4_parse_93 rfl ?_
        refine g_aload_n C dX4_parse_94 rfl ?_
        refine g_getI (j := 8) C dX4_parse_95 rfl (Nat.le_of_ble_eq_true rfl) (Nat.le_of_ble_eq_true rfl) fl_4_48 rfl rfl (fun i27 => ?_)
        obtain ⟨σ28, qσ28, h⟩ := bnd h
        refine g_putI (j := 1) C dX4_parse_98 rfl (Nat.le_of_ble_eq_true rfl) (Nat.le_of_ble_eq_true rfl) fl_4_45 rfl rfl rfl rfl qσ28 i27 ?_
        refine g_aload_n C dX4_parse_101 rfl ?_
        refine g_aload_n C dX4_parse_102 rfl ?_
        refine g_getI (j := 9) C dX4_parse_103 rfl (Nat.le_of_ble_eq_true rfl) (Nat.le_of_ble_eq_true rfl) fl_4_62 rfl rfl (fun i29 => ?_)
        obtain ⟨σ30, qσ30, h⟩ := bnd h
        refine g_putI (j := 2) C dX4_parse_106 rfl (Nat.le_of_ble_eq_true rfl) (Nat.le_of_ble_eq_true rfl) fl_4_65 rfl rfl rfl rfl qσ30 i29 ?_
        refine g_aload_n C dX4_parse_109 rfl ?_
        refine g_getI (j := 1) C dX4_parse_110 rfl (Nat.le_of_ble_eq_true rfl) (Nat.le_of_ble_eq_true rfl) fl_4_45 rfl rfl (fun i31 => ?_)
        exact g_iretP C dX4_parse_113 hr hlk h i31
  have hL8 : ∀ (n : Nat) (x9 : Int) (x10 : Int) (σ11 : St) , InZ x9 → InI x10 → lpN (fun a => m_X4_parse_L43 a.1 a.2.1 a.2.2) n (x9, x10, σ11) = some b8 → GM w p l e rm_X4_parse s m args below meth c (some (iv y)) (InI y) σ' 3 43 [some (rv w 118), some (iv x9), some (iv x10)] [] σ11 := by
    intro n
    induction n with
    | zero => intro x9 x10 σ11 ix9 ix10 q; cases q
    | succ n ih8 =>
      intro x9 x10 σ11 ix9 ix10 q
      obtain ⟨o8, h, hk8⟩ := lp_step q
      replace h : m_X4_parse_L43 x9 x10 σ11 = some o8 := h
      unfold m_X4_parse_L43 at h
      refine g_iload_n C dX4_parse_43 rfl ?_
      refine g_sipush C dX4_parse_44 rfl ?_
      refine g_icmp_gt C dX4_parse_47 ix10 (by decide) rfl (tgt := 79) (fun c12 => ?_) (fun c12 => ?_)
      · have h := ifT c12 h
        refine g_mask [true, false, false] ?_
        obtain rfl := Option.some.inj h
        exact hX8 σ11 (lpR hk8).symm
      · have h := ifF c12 h
        refine g_iload_n C dX4_parse_50 rfl ?_
        refine g_if_eq C dX4_parse_51 (zI ix9) rfl (tgt := 79) (fun c13 => ?_) (fun c13 => ?_)
        · have h := ifT c13 h
          refine g_mask [true, false, false] ?_
          obtain rfl := Option.some.inj h
          exact hX8 σ11 (lpR hk8).symm
        · have h := ifF c13 h
          refine g_aload_n C dX4_parse_54 rfl ?_
          refine g_getZ (j := 7) C dX4_parse_55 rfl (Nat.le_of_ble_eq_true rfl) (Nat.le_of_ble_eq_true rfl) fl_4_41 rfl rfl (fun i14 => ?_)
          refine g_if_eq C dX4_parse_58 (zI i14) rfl (tgt := 68) (fun c15 => ?_) (fun c15 => ?_)
          · have h := ifT c15 h
            refine g_aload_n C dX4_parse_68 rfl ?_
            obtain ⟨⟨x16, σ17⟩, qx16, h⟩ := bnd h
            refine g_callV1 (As := []) C dX4_parse_69 mi_X4_codeOrOver ml_4_59 (ct_X4_codeOrOver qx16) rfl rfl ⟨rfl, rfl⟩ ⟨Nat.le_of_ble_eq_true rfl, Nat.le_of_ble_eq_true rfl⟩ ⟨Nat.zero_le _, Nat.zero_le _⟩ rfl (Nat.le_of_ble_eq_true rfl) (fun ix16 => ?_)
            refine g_istore_n (L1 := [some (rv w 118), some (iv x16), some (iv x10)]) C dX4_parse_72 rfl (Nat.le_of_ble_eq_true rfl) rfl ?_
            refine g_iinc (L1 := [some (rv w 118), some (iv x16), some (iv (wr (x10 + 1)))]) C dX4_parse_73 rfl rfl (Nat.le_of_ble_eq_true rfl) rfl ?_
            refine g_goto C dX4_parse_76 rfl (tgt := 43) ?_
            obtain rfl := Option.some.inj h
            exact ih8 _ _ _ ix16 (iwr _) (lpL hk8)
          · have h := ifF c15 h
            refine g_aload_n C dX4_parse_61 rfl ?_
            obtain ⟨⟨x18, σ19⟩, qx18, h⟩ := bnd h
            refine g_callV1 (As := []) C dX4_parse_62 mi_X4_deedOrEnd ml_4_55 (ct_X4_deedOrEnd qx18) rfl rfl ⟨rfl, rfl⟩ ⟨Nat.le_of_ble_eq_true rfl, Nat.le_of_ble_eq_true rfl⟩ ⟨Nat.zero_le _, Nat.zero_le _⟩ rfl (Nat.le_of_ble_eq_true rfl) (fun ix18 => ?_)
            refine g_goto C dX4_parse_65 rfl (tgt := 72) ?_
            refine g_istore_n (L1 := [some (rv w 118), some (iv x18), some (iv x10)]) C dX4_parse_72 rfl (Nat.le_of_ble_eq_true rfl) rfl ?_
            refine g_iinc (L1 := [some (rv w 118), some (iv x18), some (iv (wr (x10 + 1)))]) C dX4_parse_73 rfl rfl (Nat.le_of_ble_eq_true rfl) rfl ?_
            refine g_goto C dX4_parse_76 rfl (tgt := 43) ?_
            obtain rfl := Option.some.inj h
            exact ih8 _ _ _ ix18 (iwr _) (lpL hk8)
  exact hL8 FU _ _ _ (Or.inr rfl) (by decide) hb8
