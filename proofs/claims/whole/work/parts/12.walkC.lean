theorem dX8_clear_0 : decode cX8_clear 0 = .ok (.aload_n 0, 1) := by decide +kernel
theorem dX8_clear_1 : decode cX8_clear 1 = .ok (.iconst 0, 1) := by decide +kernel
theorem dX8_clear_2 : decode cX8_clear 2 = .ok (.putfield 93, 3) := by decide +kernel
theorem dX8_clear_5 : decode cX8_clear 5 = .ok (.aload_n 0, 1) := by decide +kernel
theorem dX8_clear_6 : decode cX8_clear 6 = .ok (.iconst 0, 1) := by decide +kernel
theorem dX8_clear_7 : decode cX8_clear 7 = .ok (.putfield 90, 3) := by decide +kernel
theorem dX8_clear_10 : decode cX8_clear 10 = .ok (.iconst 0, 1) := by decide +kernel
theorem dX8_clear_11 : decode cX8_clear 11 = .ok (.istore_n 1, 1) := by decide +kernel
theorem dX8_clear_12 : decode cX8_clear 12 = .ok (.iload_n 1, 1) := by decide +kernel
theorem dX8_clear_13 : decode cX8_clear 13 = .ok (.bipush 10, 2) := by decide +kernel
theorem dX8_clear_15 : decode cX8_clear 15 = .ok (.if_icmp .ge 23, 3) := by decide +kernel
theorem dX8_clear_18 : decode cX8_clear 18 = .ok (.aload_n 0, 1) := by decide +kernel
theorem dX8_clear_19 : decode cX8_clear 19 = .ok (.getfield 9, 3) := by decide +kernel
theorem dX8_clear_22 : decode cX8_clear 22 = .ok (.iload_n 1, 1) := by decide +kernel
theorem dX8_clear_23 : decode cX8_clear 23 = .ok (.iconst 0, 1) := by decide +kernel
theorem dX8_clear_24 : decode cX8_clear 24 = .ok (.iastore, 1) := by decide +kernel
theorem dX8_clear_25 : decode cX8_clear 25 = .ok (.aload_n 0, 1) := by decide +kernel
theorem dX8_clear_26 : decode cX8_clear 26 = .ok (.getfield 15, 3) := by decide +kernel
theorem dX8_clear_29 : decode cX8_clear 29 = .ok (.iload_n 1, 1) := by decide +kernel
theorem dX8_clear_30 : decode cX8_clear 30 = .ok (.iconst 0, 1) := by decide +kernel
theorem dX8_clear_31 : decode cX8_clear 31 = .ok (.iastore, 1) := by decide +kernel
theorem dX8_clear_32 : decode cX8_clear 32 = .ok (.iinc 1 1, 3) := by decide +kernel
theorem dX8_clear_35 : decode cX8_clear 35 = .ok (.goto (-23), 3) := by decide +kernel
theorem dX8_clear_38 : decode cX8_clear 38 = .ok (.iconst 0, 1) := by decide +kernel
theorem dX8_clear_39 : decode cX8_clear 39 = .ok (.istore_n 1, 1) := by decide +kernel
theorem dX8_clear_40 : decode cX8_clear 40 = .ok (.iload_n 1, 1) := by decide +kernel
theorem dX8_clear_41 : decode cX8_clear 41 = .ok (.bipush 8, 2) := by decide +kernel
theorem dX8_clear_43 : decode cX8_clear 43 = .ok (.if_icmp .ge 50, 3) := by decide +kernel
theorem dX8_clear_46 : decode cX8_clear 46 = .ok (.iload_n 1, 1) := by decide +kernel
theorem dX8_clear_47 : decode cX8_clear 47 = .ok (.aload_n 0, 1) := by decide +kernel
theorem dX8_clear_48 : decode cX8_clear 48 = .ok (.getfield 41, 3) := by decide +kernel
theorem dX8_clear_51 : decode cX8_clear 51 = .ok (.arraylength, 1) := by decide +kernel
theorem dX8_clear_52 : decode cX8_clear 52 = .ok (.if_icmp .ge 41, 3) := by decide +kernel
theorem dX8_clear_55 : decode cX8_clear 55 = .ok (.aload_n 0, 1) := by decide +kernel
theorem dX8_clear_56 : decode cX8_clear 56 = .ok (.getfield 41, 3) := by decide +kernel
theorem dX8_clear_59 : decode cX8_clear 59 = .ok (.iload_n 1, 1) := by decide +kernel
theorem dX8_clear_60 : decode cX8_clear 60 = .ok (.aaload, 1) := by decide +kernel
theorem dX8_clear_61 : decode cX8_clear 61 = .ok (.invokevirtual 96, 3) := by decide +kernel
theorem dX8_clear_64 : decode cX8_clear 64 = .ok (.iconst 0, 1) := by decide +kernel
theorem dX8_clear_65 : decode cX8_clear 65 = .ok (.istore_n 2, 1) := by decide +kernel
theorem dX8_clear_66 : decode cX8_clear 66 = .ok (.iload_n 2, 1) := by decide +kernel
theorem dX8_clear_67 : decode cX8_clear 67 = .ok (.bipush 8, 2) := by decide +kernel
theorem dX8_clear_69 : decode cX8_clear 69 = .ok (.if_icmp .ge 18, 3) := by decide +kernel
theorem dX8_clear_72 : decode cX8_clear 72 = .ok (.aload_n 0, 1) := by decide +kernel
theorem dX8_clear_73 : decode cX8_clear 73 = .ok (.getfield 20, 3) := by decide +kernel
theorem dX8_clear_76 : decode cX8_clear 76 = .ok (.iload_n 1, 1) := by decide +kernel
theorem dX8_clear_77 : decode cX8_clear 77 = .ok (.aaload, 1) := by decide +kernel
theorem dX8_clear_78 : decode cX8_clear 78 = .ok (.iload_n 2, 1) := by decide +kernel
theorem dX8_clear_79 : decode cX8_clear 79 = .ok (.iconst (-1), 1) := by decide +kernel
theorem dX8_clear_80 : decode cX8_clear 80 = .ok (.iastore, 1) := by decide +kernel
theorem dX8_clear_81 : decode cX8_clear 81 = .ok (.iinc 2 1, 3) := by decide +kernel
theorem dX8_clear_84 : decode cX8_clear 84 = .ok (.goto (-18), 3) := by decide +kernel
theorem dX8_clear_87 : decode cX8_clear 87 = .ok (.iinc 1 1, 3) := by decide +kernel
theorem dX8_clear_90 : decode cX8_clear 90 = .ok (.goto (-50), 3) := by decide +kernel
theorem dX8_clear_93 : decode cX8_clear 93 = .ok (.return_, 1) := by decide +kernel
abbrev rm_X8_clear : Room := { frames := 2, cells := 0, slots := 0, locals := 41 }
set_option maxRecDepth 100000 in
set_option maxHeartbeats 4000000 in
theorem ct_X8_clear {w : Wd} {l : Launch} {σ : St} {σ' : St} (h : m_X8_clear σ = some σ') : Ct w l yX8_clear (Cond.code yX8_clear cX8_clear 3 none :: TB) rm_X8_clear [rv w 129] σ none True σ' := by
  refine Ct.of2 [some (rv w 129), none, none] 2 rfl pn_RX8 (Nat.le_of_ble_eq_true rfl) ?_
  intro p e s m args below meth c C hr hlk
  unfold m_X8_clear at h
  refine g_aload_n C dX8_clear_0 rfl ?_
  refine g_iconst C dX8_clear_1 ?_
  obtain ⟨σ1, qσ1, h⟩ := bnd h
  refine g_putI (j := 6) C dX8_clear_2 rfl (Nat.le_of_ble_eq_true rfl) (Nat.le_of_ble_eq_true rfl) fl_8_93 rfl rfl rfl rfl qσ1 (by decide) ?_
  refine g_aload_n C dX8_clear_5 rfl ?_
  refine g_iconst C dX8_clear_6 ?_
  obtain ⟨σ2, qσ2, h⟩ := bnd h
  refine g_putI (j := 13) C dX8_clear_7 rfl (Nat.le_of_ble_eq_true rfl) (Nat.le_of_ble_eq_true rfl) fl_8_90 rfl rfl rfl rfl qσ2 (by decide) ?_
  refine g_iconst C dX8_clear_10 ?_
  refine g_istore_n (L1 := [some (rv w 129), some (iv 0), none]) C dX8_clear_11 rfl (Nat.le_of_ble_eq_true rfl) rfl ?_
  obtain ⟨b3, hb3, hF3⟩ := bnd h
  have hX3 : ∀ (σ9 : St) , σ9 = b3 → GM w p l e rm_X8_clear s m args below meth c none True σ' 3 38 [some (rv w 129), none, none] [] σ9 := by
    intro σ9 q
    subst q
    have h := hF3
    refine g_iconst C dX8_clear_38 ?_
    refine g_istore_n (L1 := [some (rv w 129), some (iv 0), none]) C dX8_clear_39 rfl (Nat.le_of_ble_eq_true rfl) rfl ?_
    obtain ⟨b10, hb10, hF10⟩ := bnd h
    have hX10 : ∀ (σ24 : St) , σ24 = b10 → GM w p l e rm_X8_clear s m args below meth c none True σ' 3 93 [none, none, none] [] σ24 := by
      intro σ24 q
      subst q
      have h := hF10
      exact g_vretP C dX8_clear_93 hr hlk h
    have hL10 : ∀ (n : Nat) (x11 : Int) (σ12 : St) , InI x11 → lpN (fun a => m_X8_clear_L40 a.1 a.2) n (x11, σ12) = some b10 → GM w p l e rm_X8_clear s m args below meth c none True σ' 3 40 [some (rv w 129), some (iv x11), none] [] σ12 := by
      intro n
      induction n with
      | zero => intro x11 σ12 ix11 q; cases q
      | succ n ih10 =>
        intro x11 σ12 ix11 q
        obtain ⟨o10, h, hk10⟩ := lp_step q
        replace h : m_X8_clear_L40 x11 σ12 = some o10 := h
        unfold m_X8_clear_L40 at h
        refine g_iload_n C dX8_clear_40 rfl ?_
        refine g_bipush C dX8_clear_41 rfl ?_
        refine g_icmp_ge C dX8_clear_43 ix11 (by decide) rfl (tgt := 93) (fun c13 => ?_) (fun c13 => ?_)
        · have h := ifT c13 h
          refine g_mask [false, false, true] ?_
          obtain rfl := Option.some.inj h
          exact hX10 σ12 (lpR hk10).symm
        · have h := ifF c13 h
          refine g_iload_n C dX8_clear_46 rfl ?_
          refine g_aload_n C dX8_clear_47 rfl ?_
          refine g_getR (j := 10) C dX8_clear_48 rfl (Nat.le_of_ble_eq_true rfl) (Nat.le_of_ble_eq_true rfl) fl_8_41 rfl rfl (r := 38) rfl ?_
          refine g_alen (t0 := 4) (n := 8) (ty := .int) C dX8_clear_51 (Nat.le_of_ble_eq_true rfl) rfl rfl (Or.inr ⟨rfl, rfl⟩) ?_
          refine g_icmp_ge C dX8_clear_52 ix11 (by decide) rfl (tgt := 93) (fun c14 => ?_) (fun c14 => ?_)
          · have h := ifT c14 h
            refine g_mask [false, false, true] ?_
            obtain rfl := Option.some.inj h
            exact hX10 σ12 (lpR hk10).symm
          · have h := ifF c14 h
            refine g_aload_n C dX8_clear_55 rfl ?_
            refine g_getR (j := 10) C dX8_clear_56 rfl (Nat.le_of_ble_eq_true rfl) (Nat.le_of_ble_eq_true rfl) fl_8_41 rfl rfl (r := 38) rfl ?_
            refine g_iload_n C dX8_clear_59 rfl ?_
            obtain ⟨k15, qk15, h⟩ := bnd h
            refine g_aald C dX8_clear_60 rfl rfl qk15 ix11 ?_
            obtain ⟨σ16, qσ16, h⟩ := bnd h
            refine g_callV0 (As := []) C dX8_clear_61 mi_X0_begin ml_8_96 (ct_X0_begin (rrB_38 qk15) qσ16) (rrB_38 qk15) rfl ⟨rfl, rfl⟩ ⟨Nat.le_of_ble_eq_true rfl, Nat.le_of_ble_eq_true rfl⟩ ⟨Nat.zero_le _, Nat.zero_le _⟩ rfl (Nat.le_of_ble_eq_true rfl) (fun _ => ?_)
            refine g_iconst C dX8_clear_64 ?_
            refine g_istore_n (L1 := [some (rv w 129), some (iv x11), some (iv 0)]) C dX8_clear_65 rfl (Nat.le_of_ble_eq_true rfl) rfl ?_
            obtain ⟨b17, hb17, hF17⟩ := bnd h
            have hX17 : ∀ (σ23 : St) , σ23 = b17 → GM w p l e rm_X8_clear s m args below meth c none True σ' 3 87 [some (rv w 129), some (iv x11), none] [] σ23 := by
              intro σ23 q
              subst q
              have h := hF17
              refine g_iinc (L1 := [some (rv w 129), some (iv (wr (x11 + 1))), none]) C dX8_clear_87 rfl rfl (Nat.le_of_ble_eq_true rfl) rfl ?_
              refine g_goto C dX8_clear_90 rfl (tgt := 40) ?_
              obtain rfl := Option.some.inj h
              exact ih10 _ _ (iwr _) (lpL hk10)
            have hL17 : ∀ (n : Nat) (x18 : Int) (σ19 : St) , InI x18 → lpN (fun a => m_X8_clear_L66 x11 a.1 a.2) n (x18, σ19) = some b17 → GM w p l e rm_X8_clear s m args below meth c none True σ' 3 66 [some (rv w 129), some (iv x11), some (iv x18)] [] σ19 := by
              intro n
              induction n with
              | zero => intro x18 σ19 ix18 q; cases q
              | succ n ih17 =>
                intro x18 σ19 ix18 q
                obtain ⟨o17, h, hk17⟩ := lp_step q
                replace h : m_X8_clear_L66 x11 x18 σ19 = some o17 := h
                unfold m_X8_clear_L66 at h
                refine g_iload_n C dX8_clear_66 rfl ?_
                refine g_bipush C dX8_clear_67 rfl ?_
                refine g_icmp_ge C dX8_clear_69 ix18 (by decide) rfl (tgt := 87) (fun c20 => ?_) (fun c20 => ?_)
                · have h := ifT c20 h
                  refine g_mask [true, true, false] ?_
                  obtain rfl := Option.some.inj h
                  exact hX17 σ19 (lpR hk17).symm
                · have h := ifF c20 h
                  refine g_aload_n C dX8_clear_72 rfl ?_
                  refine g_getR (j := 4) C dX8_clear_73 rfl (Nat.le_of_ble_eq_true rfl) (Nat.le_of_ble_eq_true rfl) fl_8_20 rfl rfl (r := 132) rfl ?_
                  refine g_iload_n C dX8_clear_76 rfl ?_
                  obtain ⟨k21, qk21, h⟩ := bnd h
                  refine g_aalI C dX8_clear_77 rfl rfl qk21 ix11 ?_
                  refine g_iload_n C dX8_clear_78 rfl ?_
                  refine g_iconst C dX8_clear_79 ?_
                  obtain ⟨σ22, qσ22, h⟩ := bnd h
                  refine g_iast C dX8_clear_80 (rrB_132 qk21).1 (rrB_132 qk21).2 qσ22 ix18 (by decide) ?_
                  refine g_iinc (L1 := [some (rv w 129), some (iv x11), some (iv (wr (x18 + 1)))]) C dX8_clear_81 rfl rfl (Nat.le_of_ble_eq_true rfl) rfl ?_
                  refine g_goto C dX8_clear_84 rfl (tgt := 66) ?_
                  obtain rfl := Option.some.inj h
                  exact ih17 _ _ (iwr _) (lpL hk17)
            exact hL17 FU _ _ (by decide) hb17
    exact hL10 FU _ _ (by decide) hb10
  have hL3 : ∀ (n : Nat) (x4 : Int) (σ5 : St) , InI x4 → lpN (fun a => m_X8_clear_L12 a.1 a.2) n (x4, σ5) = some b3 → GM w p l e rm_X8_clear s m args below meth c none True σ' 3 12 [some (rv w 129), some (iv x4), none] [] σ5 := by
    intro n
    induction n with
    | zero => intro x4 σ5 ix4 q; cases q
    | succ n ih3 =>
      intro x4 σ5 ix4 q
      obtain ⟨o3, h, hk3⟩ := lp_step q
      replace h : m_X8_clear_L12 x4 σ5 = some o3 := h
      unfold m_X8_clear_L12 at h
      refine g_iload_n C dX8_clear_12 rfl ?_
      refine g_bipush C dX8_clear_13 rfl ?_
      refine g_icmp_ge C dX8_clear_15 ix4 (by decide) rfl (tgt := 38) (fun c6 => ?_) (fun c6 => ?_)
      · have h := ifT c6 h
        refine g_mask [true, false, true] ?_
        obtain rfl := Option.some.inj h
        exact hX3 σ5 (lpR hk3).symm
      · have h := ifF c6 h
        refine g_aload_n C dX8_clear_18 rfl ?_
        refine g_getR (j := 2) C dX8_clear_19 rfl (Nat.le_of_ble_eq_true rfl) (Nat.le_of_ble_eq_true rfl) fl_8_9 rfl rfl (r := 130) rfl ?_
        refine g_iload_n C dX8_clear_22 rfl ?_
        refine g_iconst C dX8_clear_23 ?_
        obtain ⟨σ7, qσ7, h⟩ := bnd h
        refine g_iast C dX8_clear_24 rfl rfl qσ7 ix4 (by decide) ?_
        refine g_aload_n C dX8_clear_25 rfl ?_
        refine g_getR (j := 3) C dX8_clear_26 rfl (Nat.le_of_ble_eq_true rfl) (Nat.le_of_ble_eq_true rfl) fl_8_15 rfl rfl (r := 131) rfl ?_
        refine g_iload_n C dX8_clear_29 rfl ?_
        refine g_iconst C dX8_clear_30 ?_
        obtain ⟨σ8, qσ8, h⟩ := bnd h
        refine g_iast C dX8_clear_31 rfl rfl qσ8 ix4 (by decide) ?_
        refine g_iinc (L1 := [some (rv w 129), some (iv (wr (x4 + 1))), none]) C dX8_clear_32 rfl rfl (Nat.le_of_ble_eq_true rfl) rfl ?_
        refine g_goto C dX8_clear_35 rfl (tgt := 12) ?_
        obtain rfl := Option.some.inj h
        exact ih3 _ _ (iwr _) (lpL hk3)
  exact hL3 FU _ _ (by decide) hb3
theorem dX8_isAgent_0 : decode cX8_isAgent 0 = .ok (.iload_n 1, 1) := by decide +kernel
theorem dX8_isAgent_1 : decode cX8_isAgent 1 = .ok (.ifCond .lt 22, 3) := by decide +kernel
theorem dX8_isAgent_4 : decode cX8_isAgent 4 = .ok (.iload_n 1, 1) := by decide +kernel
theorem dX8_isAgent_5 : decode cX8_isAgent 5 = .ok (.bipush 8, 2) := by decide +kernel
theorem dX8_isAgent_7 : decode cX8_isAgent 7 = .ok (.if_icmp .ge 16, 3) := by decide +kernel
theorem dX8_isAgent_10 : decode cX8_isAgent 10 = .ok (.iload_n 1, 1) := by decide +kernel
theorem dX8_isAgent_11 : decode cX8_isAgent 11 = .ok (.aload_n 0, 1) := by decide +kernel
theorem dX8_isAgent_12 : decode cX8_isAgent 12 = .ok (.getfield 41, 3) := by decide +kernel
theorem dX8_isAgent_15 : decode cX8_isAgent 15 = .ok (.arraylength, 1) := by decide +kernel
theorem dX8_isAgent_16 : decode cX8_isAgent 16 = .ok (.if_icmp .ge 7, 3) := by decide +kernel
theorem dX8_isAgent_19 : decode cX8_isAgent 19 = .ok (.iconst 1, 1) := by decide +kernel
theorem dX8_isAgent_20 : decode cX8_isAgent 20 = .ok (.goto 4, 3) := by decide +kernel
theorem dX8_isAgent_23 : decode cX8_isAgent 23 = .ok (.iconst 0, 1) := by decide +kernel
theorem dX8_isAgent_24 : decode cX8_isAgent 24 = .ok (.ireturn, 1) := by decide +kernel
abbrev rm_X8_isAgent : Room := { frames := 0, cells := 0, slots := 0, locals := 0 }
set_option maxRecDepth 100000 in
set_option maxHeartbeats 4000000 in
theorem ct_X8_isAgent {w : Wd} {l : Launch} {a1 : Int} {σ : St} {y : Int} (ia1 : InI a1) (h : m_X8_isAgent a1 σ = some y) : Ct w l yX8_isAgent (Cond.code yX8_isAgent cX8_isAgent 2 (some .boolean) :: TB) rm_X8_isAgent [rv w 129, iv a1] σ (some (iv y)) (InZ y) σ := by
  refine Ct.of2 [some (rv w 129), some (iv a1)] 0 rfl pn_RX8 (Nat.le_of_ble_eq_true rfl) ?_
  intro p e s m args below meth c C hr hlk
  unfold m_X8_isAgent at h
  refine g_iload_n C dX8_isAgent_0 rfl ?_
  refine g_if_lt C dX8_isAgent_1 ia1 rfl (tgt := 23) (fun c1 => ?_) (fun c1 => ?_)
  · have h := ifT c1 h
    refine g_iconst C dX8_isAgent_23 ?_
    exact g_zretU C dX8_isAgent_24 hr hlk h (Or.inl rfl)
  · have h := ifF c1 h
    refine g_iload_n C dX8_isAgent_4 rfl ?_
    refine g_bipush C dX8_isAgent_5 rfl ?_
    refine g_icmp_ge C dX8_isAgent_7 ia1 (by decide) rfl (tgt := 23) (fun c2 => ?_) (fun c2 => ?_)
    · have h := ifT c2 h
      refine g_iconst C dX8_isAgent_23 ?_
      exact g_zretU C dX8_isAgent_24 hr hlk h (Or.inl rfl)
    · have h := ifF c2 h
      refine g_iload_n C dX8_isAgent_10 rfl ?_
      refine g_aload_n C dX8_isAgent_11 rfl ?_
      refine g_getR (j := 10) C dX8_isAgent_12 rfl (Nat.le_of_ble_eq_true rfl) (Nat.le_of_ble_eq_true rfl) fl_8_41 rfl rfl (r := 38) rfl ?_
      refine g_alen (t0 := 4) (n := 8) (ty := .int) C dX8_isAgent_15 (Nat.le_of_ble_eq_true rfl) rfl rfl (Or.inr ⟨rfl, rfl⟩) ?_
      refine g_icmp_ge C dX8_isAgent_16 ia1 (by decide) rfl (tgt := 23) (fun c3 => ?_) (fun c3 => ?_)
      · have h := ifT c3 h
        refine g_iconst C dX8_isAgent_23 ?_
        exact g_zretU C dX8_isAgent_24 hr hlk h (Or.inl rfl)
      · have h := ifF c3 h
        refine g_iconst C dX8_isAgent_19 ?_
        refine g_goto C dX8_isAgent_20 rfl (tgt := 24) ?_
        exact g_zretU C dX8_isAgent_24 hr hlk h (Or.inr rfl)
theorem dX8_placeOf_0 : decode cX8_placeOf 0 = .ok (.aload_n 0, 1) := by decide +kernel
theorem dX8_placeOf_1 : decode cX8_placeOf 1 = .ok (.iload_n 1, 1) := by decide +kernel
theorem dX8_placeOf_2 : decode cX8_placeOf 2 = .ok (.invokevirtual 108, 3) := by decide +kernel
theorem dX8_placeOf_5 : decode cX8_placeOf 5 = .ok (.ifCond .eq 36, 3) := by decide +kernel
theorem dX8_placeOf_8 : decode cX8_placeOf 8 = .ok (.aload_n 0, 1) := by decide +kernel
theorem dX8_placeOf_9 : decode cX8_placeOf 9 = .ok (.getfield 77, 3) := by decide +kernel
theorem dX8_placeOf_12 : decode cX8_placeOf 12 = .ok (.ifCond .lt 29, 3) := by decide +kernel
theorem dX8_placeOf_15 : decode cX8_placeOf 15 = .ok (.aload_n 0, 1) := by decide +kernel
theorem dX8_placeOf_16 : decode cX8_placeOf 16 = .ok (.getfield 77, 3) := by decide +kernel
theorem dX8_placeOf_19 : decode cX8_placeOf 19 = .ok (.bipush 96, 2) := by decide +kernel
theorem dX8_placeOf_21 : decode cX8_placeOf 21 = .ok (.if_icmp .ge 20, 3) := by decide +kernel
theorem dX8_placeOf_24 : decode cX8_placeOf 24 = .ok (.aload_n 0, 1) := by decide +kernel
theorem dX8_placeOf_25 : decode cX8_placeOf 25 = .ok (.getfield 41, 3) := by decide +kernel
theorem dX8_placeOf_28 : decode cX8_placeOf 28 = .ok (.iload_n 1, 1) := by decide +kernel
theorem dX8_placeOf_29 : decode cX8_placeOf 29 = .ok (.aaload, 1) := by decide +kernel
theorem dX8_placeOf_30 : decode cX8_placeOf 30 = .ok (.getfield 112, 3) := by decide +kernel
theorem dX8_placeOf_33 : decode cX8_placeOf 33 = .ok (.aload_n 0, 1) := by decide +kernel
theorem dX8_placeOf_34 : decode cX8_placeOf 34 = .ok (.getfield 77, 3) := by decide +kernel
theorem dX8_placeOf_37 : decode cX8_placeOf 37 = .ok (.iaload, 1) := by decide +kernel
theorem dX8_placeOf_38 : decode cX8_placeOf 38 = .ok (.goto 4, 3) := by decide +kernel
theorem dX8_placeOf_41 : decode cX8_placeOf 41 = .ok (.iconst (-1), 1) := by decide +kernel
theorem dX8_placeOf_42 : decode cX8_placeOf 42 = .ok (.ireturn, 1) := by decide +kernel
abbrev rm_X8_placeOf : Room := { frames := 1, cells := 0, slots := 0, locals := 21 }
set_option maxRecDepth 100000 in
set_option maxHeartbeats 4000000 in
theorem ct_X8_placeOf {w : Wd} {l : Launch} {a1 : Int} {σ : St} {y : Int} (ia1 : InI a1) (h : m_X8_placeOf a1 σ = some y) : Ct w l yX8_placeOf (Cond.code yX8_placeOf cX8_placeOf 2 (some .int) :: TB) rm_X8_placeOf [rv w 129, iv a1] σ (some (iv y)) (InI y) σ := by
  refine Ct.of2 [some (rv w 129), some (iv a1)] 0 rfl pn_RX8 (Nat.le_of_ble_eq_true rfl) ?_
  intro p e s m args below meth c C hr hlk
  unfold m_X8_placeOf at h
  refine g_aload_n C dX8_placeOf_0 rfl ?_
  refine g_iload_n C dX8_placeOf_1 rfl ?_
  obtain ⟨x1, qx1, h⟩ := bnd h
  refine g_callV1 (As := [iv a1]) C dX8_placeOf_2 mi_X8_isAgent ml_8_108 (ct_X8_isAgent ia1 qx1) rfl rfl ⟨rfl, rfl⟩ ⟨Nat.le_of_ble_eq_true rfl, Nat.le_of_ble_eq_true rfl⟩ ⟨Nat.zero_le _, Nat.zero_le _⟩ rfl (Nat.le_of_ble_eq_true rfl) (fun ix1 => ?_)
  refine g_if_eq C dX8_placeOf_5 (zI ix1) rfl (tgt := 41) (fun c2 => ?_) (fun c2 => ?_)
  · have h := ifT c2 h
    refine g_iconst C dX8_placeOf_41 ?_
    exact g_iretU C dX8_placeOf_42 hr hlk h (by decide)
  · have h := ifF c2 h
    refine g_aload_n C dX8_placeOf_8 rfl ?_
    refine g_getI (j := 12) C dX8_placeOf_9 rfl (Nat.le_of_ble_eq_true rfl) (Nat.le_of_ble_eq_true rfl) fl_8_77 rfl rfl (fun i3 => ?_)
    refine g_if_lt C dX8_placeOf_12 i3 rfl (tgt := 41) (fun c4 => ?_) (fun c4 => ?_)
    · have h := ifT c4 h
      refine g_iconst C dX8_placeOf_41 ?_
      exact g_iretU C dX8_placeOf_42 hr hlk h (by decide)
    · have h := ifF c4 h
      refine g_aload_n C dX8_placeOf_15 rfl ?_
      refine g_getI (j := 12) C dX8_placeOf_16 rfl (Nat.le_of_ble_eq_true rfl) (Nat.le_of_ble_eq_true rfl) fl_8_77 rfl rfl (fun i5 => ?_)
      refine g_bipush C dX8_placeOf_19 rfl ?_
      refine g_icmp_ge C dX8_placeOf_21 i5 (by decide) rfl (tgt := 41) (fun c6 => ?_) (fun c6 => ?_)
      · have h := ifT c6 h
        refine g_iconst C dX8_placeOf_41 ?_
        exact g_iretU C dX8_placeOf_42 hr hlk h (by decide)
      · have h := ifF c6 h
        refine g_aload_n C dX8_placeOf_24 rfl ?_
        refine g_getR (j := 10) C dX8_placeOf_25 rfl (Nat.le_of_ble_eq_true rfl) (Nat.le_of_ble_eq_true rfl) fl_8_41 rfl rfl (r := 38) rfl ?_
        refine g_iload_n C dX8_placeOf_28 rfl ?_
        obtain ⟨k7, qk7, h⟩ := bnd h
        refine g_aald C dX8_placeOf_29 rfl rfl qk7 ia1 ?_
        refine g_getR (j := 13) C dX8_placeOf_30 (rrB_38 qk7) (Nat.le_of_ble_eq_true rfl) (Nat.le_of_ble_eq_true rfl) fl_8_112 rfl rfl (r := (k7 + 4)) (shR_0_13 (rrB_38 qk7)) ?_
        refine g_aload_n C dX8_placeOf_33 rfl ?_
        refine g_getI (j := 12) C dX8_placeOf_34 rfl (Nat.le_of_ble_eq_true rfl) (Nat.le_of_ble_eq_true rfl) fl_8_77 rfl rfl (fun i8 => ?_)
        obtain ⟨x9, qx9, h⟩ := bnd h
        refine g_iald C dX8_placeOf_37 (shT_0_13 (rrB_38 qk7)) (shL_0_13 (rrB_38 qk7)) qx9 i8 (fun ix9 => ?_)
        refine g_goto C dX8_placeOf_38 rfl (tgt := 42) ?_
        exact g_iretU C dX8_placeOf_42 hr hlk h ix9
theorem dX8_see_0 : decode cX8_see 0 = .ok (.aload_n 0, 1) := by decide +kernel
theorem dX8_see_1 : decode cX8_see 1 = .ok (.iload_n 1, 1) := by decide +kernel
theorem dX8_see_2 : decode cX8_see 2 = .ok (.invokevirtual 99, 3) := by decide +kernel
theorem dX8_see_5 : decode cX8_see 5 = .ok (.istore_n 2, 1) := by decide +kernel
theorem dX8_see_6 : decode cX8_see 6 = .ok (.iload_n 2, 1) := by decide +kernel
theorem dX8_see_7 : decode cX8_see 7 = .ok (.iconst (-1), 1) := by decide +kernel
theorem dX8_see_8 : decode cX8_see 8 = .ok (.if_icmp .eq 64, 3) := by decide +kernel
theorem dX8_see_11 : decode cX8_see 11 = .ok (.aload_n 0, 1) := by decide +kernel
theorem dX8_see_12 : decode cX8_see 12 = .ok (.getfield 37, 3) := by decide +kernel
theorem dX8_see_15 : decode cX8_see 15 = .ok (.aload_n 0, 1) := by decide +kernel
theorem dX8_see_16 : decode cX8_see 16 = .ok (.getfield 77, 3) := by decide +kernel
theorem dX8_see_19 : decode cX8_see 19 = .ok (.iload_n 2, 1) := by decide +kernel
theorem dX8_see_20 : decode cX8_see 20 = .ok (.invokevirtual 102, 3) := by decide +kernel
theorem dX8_see_23 : decode cX8_see 23 = .ok (.ifCond .eq 49, 3) := by decide +kernel
theorem dX8_see_26 : decode cX8_see 26 = .ok (.aload_n 0, 1) := by decide +kernel
theorem dX8_see_27 : decode cX8_see 27 = .ok (.getfield 93, 3) := by decide +kernel
theorem dX8_see_30 : decode cX8_see 30 = .ok (.aload_n 0, 1) := by decide +kernel
theorem dX8_see_31 : decode cX8_see 31 = .ok (.getfield 23, 3) := by decide +kernel
theorem dX8_see_34 : decode cX8_see 34 = .ok (.arraylength, 1) := by decide +kernel
theorem dX8_see_35 : decode cX8_see 35 = .ok (.if_icmp .ge 37, 3) := by decide +kernel
theorem dX8_see_38 : decode cX8_see 38 = .ok (.aload_n 0, 1) := by decide +kernel
theorem dX8_see_39 : decode cX8_see 39 = .ok (.getfield 23, 3) := by decide +kernel
theorem dX8_see_42 : decode cX8_see 42 = .ok (.aload_n 0, 1) := by decide +kernel
theorem dX8_see_43 : decode cX8_see 43 = .ok (.getfield 93, 3) := by decide +kernel
theorem dX8_see_46 : decode cX8_see 46 = .ok (.sipush 1000, 3) := by decide +kernel
theorem dX8_see_49 : decode cX8_see 49 = .ok (.aload_n 0, 1) := by decide +kernel
theorem dX8_see_50 : decode cX8_see 50 = .ok (.getfield 77, 3) := by decide +kernel
theorem dX8_see_53 : decode cX8_see 53 = .ok (.imul, 1) := by decide +kernel
theorem dX8_see_54 : decode cX8_see 54 = .ok (.bipush 10, 2) := by decide +kernel
theorem dX8_see_56 : decode cX8_see 56 = .ok (.iload_n 1, 1) := by decide +kernel
theorem dX8_see_57 : decode cX8_see 57 = .ok (.imul, 1) := by decide +kernel
theorem dX8_see_58 : decode cX8_see 58 = .ok (.iadd, 1) := by decide +kernel
theorem dX8_see_59 : decode cX8_see 59 = .ok (.iload_n 2, 1) := by decide +kernel
theorem dX8_see_60 : decode cX8_see 60 = .ok (.iadd, 1) := by decide +kernel
theorem dX8_see_61 : decode cX8_see 61 = .ok (.iastore, 1) := by decide +kernel
theorem dX8_see_62 : decode cX8_see 62 = .ok (.aload_n 0, 1) := by decide +kernel
theorem dX8_see_63 : decode cX8_see 63 = .ok (.dup, 1) := by decide +kernel
theorem dX8_see_64 : decode cX8_see 64 = .ok (.getfield 93, 3) := by decide +kernel
theorem dX8_see_67 : decode cX8_see 67 = .ok (.iconst 1, 1) := by decide +kernel
theorem dX8_see_68 : decode cX8_see 68 = .ok (.iadd, 1) := by decide +kernel
theorem dX8_see_69 : decode cX8_see 69 = .ok (.putfield 93, 3) := by decide +kernel
theorem dX8_see_72 : decode cX8_see 72 = .ok (.return_, 1) := by decide +kernel
abbrev rm_X8_see : Room := { frames := 2, cells := 0, slots := 0, locals := 42 }
set_option maxRecDepth 100000 in
set_option maxHeartbeats 4000000 in
theorem ct_X8_see {w : Wd} {l : Launch} {a1 : Int} {σ : St} {σ' : St} (ia1 : InI a1) (h : m_X8_see a1 σ = some σ') : Ct w l yX8_see (Cond.code yX8_see cX8_see 3 none :: TB) rm_X8_see [rv w 129, iv a1] σ none True σ' := by
  refine Ct.of2 [some (rv w 129), some (iv a1), none] 1 rfl pn_RX8 (Nat.le_of_ble_eq_true rfl) ?_
  intro p e s m args below meth c C hr hlk
  unfold m_X8_see at h
  refine g_aload_n C dX8_see_0 rfl ?_
  refine g_iload_n C dX8_see_1 rfl ?_
  obtain ⟨x1, qx1, h⟩ := bnd h
  refine g_callV1 (As := [iv a1]) C dX8_see_2 mi_X8_placeOf ml_8_99 (ct_X8_placeOf ia1 qx1) rfl rfl ⟨rfl, rfl⟩ ⟨Nat.le_of_ble_eq_true rfl, Nat.le_of_ble_eq_true rfl⟩ ⟨Nat.zero_le _, Nat.zero_le _⟩ rfl (Nat.le_of_ble_eq_true rfl) (fun ix1 => ?_)
  refine g_istore_n (L1 := [some (rv w 129), some (iv a1), some (iv x1)]) C dX8_see_5 rfl (Nat.le_of_ble_eq_true rfl) rfl ?_
  refine g_iload_n C dX8_see_6 rfl ?_
  refine g_iconst C dX8_see_7 ?_
  refine g_icmp_eq C dX8_see_8 ix1 (by decide) rfl (tgt := 72) (fun c2 => ?_) (fun c2 => ?_)
  · have h := ifT c2 h
    exact g_vretP C dX8_see_72 hr hlk h
  · have h := ifF c2 h
    refine g_aload_n C dX8_see_11 rfl ?_
    refine g_getR (j := 9) C dX8_see_12 rfl (Nat.le_of_ble_eq_true rfl) (Nat.le_of_ble_eq_true rfl) fl_8_37 rfl rfl (r := 30) rfl ?_
    refine g_aload_n C dX8_see_15 rfl ?_
    refine g_getI (j := 12) C dX8_see_16 rfl (Nat.le_of_ble_eq_true rfl) (Nat.le_of_ble_eq_true rfl) fl_8_77 rfl rfl (fun i3 => ?_)
    refine g_iload_n C dX8_see_19 rfl ?_
    obtain ⟨x4, qx4, h⟩ := bnd h
    refine g_callV1 (As := [iv (σ 129 12), iv x1]) C dX8_see_20 mi_X1_isWatched ml_8_102 (ct_X1_isWatched i3 ix1 qx4) rfl rfl ⟨rfl, rfl⟩ ⟨Nat.le_of_ble_eq_true rfl, Nat.le_of_ble_eq_true rfl⟩ ⟨Nat.zero_le _, Nat.zero_le _⟩ rfl (Nat.le_of_ble_eq_true rfl) (fun ix4 => ?_)
    refine g_if_eq C dX8_see_23 (zI ix4) rfl (tgt := 72) (fun c5 => ?_) (fun c5 => ?_)
    · have h := ifT c5 h
      exact g_vretP C dX8_see_72 hr hlk h
    · have h := ifF c5 h
      refine g_aload_n C dX8_see_26 rfl ?_
      refine g_getI (j := 6) C dX8_see_27 rfl (Nat.le_of_ble_eq_true rfl) (Nat.le_of_ble_eq_true rfl) fl_8_93 rfl rfl (fun i6 => ?_)
      refine g_aload_n C dX8_see_30 rfl ?_
      refine g_getR (j := 5) C dX8_see_31 rfl (Nat.le_of_ble_eq_true rfl) (Nat.le_of_ble_eq_true rfl) fl_8_23 rfl rfl (r := 141) rfl ?_
      refine g_alen (t0 := 0) (n := 768) (ty := .int) C dX8_see_34 (Nat.le_of_ble_eq_true rfl) rfl rfl (Or.inl ⟨rfl, rfl⟩) ?_
      refine g_icmp_ge C dX8_see_35 i6 (by decide) rfl (tgt := 72) (fun c7 => ?_) (fun c7 => ?_)
      · have h := ifT c7 h
        exact g_vretP C dX8_see_72 hr hlk h
      · have h := ifF c7 h
        refine g_aload_n C dX8_see_38 rfl ?_
        refine g_getR (j := 5) C dX8_see_39 rfl (Nat.le_of_ble_eq_true rfl) (Nat.le_of_ble_eq_true rfl) fl_8_23 rfl rfl (r := 141) rfl ?_
        refine g_aload_n C dX8_see_42 rfl ?_
        refine g_getI (j := 6) C dX8_see_43 rfl (Nat.le_of_ble_eq_true rfl) (Nat.le_of_ble_eq_true rfl) fl_8_93 rfl rfl (fun i8 => ?_)
        refine g_sipush C dX8_see_46 rfl ?_
        refine g_aload_n C dX8_see_49 rfl ?_
        refine g_getI (j := 12) C dX8_see_50 rfl (Nat.le_of_ble_eq_true rfl) (Nat.le_of_ble_eq_true rfl) fl_8_77 rfl rfl (fun i9 => ?_)
        refine g_imul C dX8_see_53 ?_
        refine g_bipush C dX8_see_54 rfl ?_
        refine g_iload_n C dX8_see_56 rfl ?_
        refine g_imul C dX8_see_57 ?_
        refine g_iadd C dX8_see_58 ?_
        refine g_iload_n C dX8_see_59 rfl ?_
        refine g_iadd C dX8_see_60 ?_
        obtain ⟨σ10, qσ10, h⟩ := bnd h
        refine g_iast C dX8_see_61 rfl rfl qσ10 i8 (iwr _) ?_
        refine g_aload_n C dX8_see_62 rfl ?_
        refine g_dup C dX8_see_63 rfl ?_
        refine g_getI (j := 6) C dX8_see_64 rfl (Nat.le_of_ble_eq_true rfl) (Nat.le_of_ble_eq_true rfl) fl_8_93 rfl rfl (fun i11 => ?_)
        refine g_iconst C dX8_see_67 ?_
        refine g_iadd C dX8_see_68 ?_
        obtain ⟨σ12, qσ12, h⟩ := bnd h
        refine g_putI (j := 6) C dX8_see_69 rfl (Nat.le_of_ble_eq_true rfl) (Nat.le_of_ble_eq_true rfl) fl_8_93 rfl rfl rfl rfl qσ12 (iwr _) ?_
        exact g_vretP C dX8_see_72 hr hlk h
theorem dX8_setOut_0 : decode cX8_setOut 0 = .ok (.aload_n 0, 1) := by decide +kernel
theorem dX8_setOut_1 : decode cX8_setOut 1 = .ok (.getfield 29, 3) := by decide +kernel
theorem dX8_setOut_4 : decode cX8_setOut 4 = .ok (.aload_n 1, 1) := by decide +kernel
theorem dX8_setOut_5 : decode cX8_setOut 5 = .ok (.getfield 121, 3) := by decide +kernel
theorem dX8_setOut_8 : decode cX8_setOut 8 = .ok (.aload_n 1, 1) := by decide +kernel
theorem dX8_setOut_9 : decode cX8_setOut 9 = .ok (.getfield 118, 3) := by decide +kernel
theorem dX8_setOut_12 : decode cX8_setOut 12 = .ok (.invokevirtual 148, 3) := by decide +kernel
theorem dX8_setOut_15 : decode cX8_setOut 15 = .ok (.istore_n 2, 1) := by decide +kernel
theorem dX8_setOut_16 : decode cX8_setOut 16 = .ok (.iload_n 2, 1) := by decide +kernel
theorem dX8_setOut_17 : decode cX8_setOut 17 = .ok (.iconst (-1), 1) := by decide +kernel
theorem dX8_setOut_18 : decode cX8_setOut 18 = .ok (.if_icmp .ne 9, 3) := by decide +kernel
theorem dX8_setOut_21 : decode cX8_setOut 21 = .ok (.aload_n 1, 1) := by decide +kernel
theorem dX8_setOut_22 : decode cX8_setOut 22 = .ok (.iconst (-1), 1) := by decide +kernel
theorem dX8_setOut_23 : decode cX8_setOut 23 = .ok (.putfield 118, 3) := by decide +kernel
theorem dX8_setOut_26 : decode cX8_setOut 26 = .ok (.return_, 1) := by decide +kernel
theorem dX8_setOut_27 : decode cX8_setOut 27 = .ok (.aload_n 1, 1) := by decide +kernel
theorem dX8_setOut_28 : decode cX8_setOut 28 = .ok (.iload_n 2, 1) := by decide +kernel
theorem dX8_setOut_29 : decode cX8_setOut 29 = .ok (.putfield 115, 3) := by decide +kernel
theorem dX8_setOut_32 : decode cX8_setOut 32 = .ok (.aload_n 1, 1) := by decide +kernel
theorem dX8_setOut_33 : decode cX8_setOut 33 = .ok (.aload_n 0, 1) := by decide +kernel
theorem dX8_setOut_34 : decode cX8_setOut 34 = .ok (.getfield 77, 3) := by decide +kernel
theorem dX8_setOut_37 : decode cX8_setOut 37 = .ok (.aload_n 0, 1) := by decide +kernel
theorem dX8_setOut_38 : decode cX8_setOut 38 = .ok (.getfield 29, 3) := by decide +kernel
theorem dX8_setOut_41 : decode cX8_setOut 41 = .ok (.aload_n 1, 1) := by decide +kernel
theorem dX8_setOut_42 : decode cX8_setOut 42 = .ok (.getfield 121, 3) := by decide +kernel
theorem dX8_setOut_45 : decode cX8_setOut 45 = .ok (.iload_n 2, 1) := by decide +kernel
theorem dX8_setOut_46 : decode cX8_setOut 46 = .ok (.invokevirtual 153, 3) := by decide +kernel
theorem dX8_setOut_49 : decode cX8_setOut 49 = .ok (.iadd, 1) := by decide +kernel
theorem dX8_setOut_50 : decode cX8_setOut 50 = .ok (.putfield 156, 3) := by decide +kernel
theorem dX8_setOut_53 : decode cX8_setOut 53 = .ok (.return_, 1) := by decide +kernel
abbrev rm_X8_setOut : Room := { frames := 2, cells := 0, slots := 0, locals := 49 }
set_option maxRecDepth 100000 in
set_option maxHeartbeats 4000000 in
theorem ct_X8_setOut {w : Wd} {l : Launch} {a1 : Nat} {σ : St} {σ' : St} (ta1 : tg a1 = 0) (h : m_X8_setOut a1 σ = some σ') : Ct w l yX8_setOut (Cond.code yX8_setOut cX8_setOut 3 none :: TB) rm_X8_setOut [rv w 129, rv w a1] σ none True σ' := by
  refine Ct.of2 [some (rv w 129), some (rv w a1), none] 1 rfl pn_RX8 (Nat.le_of_ble_eq_true rfl) ?_
  intro p e s m args below meth c C hr hlk
  unfold m_X8_setOut at h
  refine g_aload_n C dX8_setOut_0 rfl ?_
  refine g_getR (j := 7) C dX8_setOut_1 rfl (Nat.le_of_ble_eq_true rfl) (Nat.le_of_ble_eq_true rfl) fl_8_29 rfl rfl (r := 1) rfl ?_
  refine g_aload_n C dX8_setOut_4 rfl ?_
  refine g_getI (j := 9) C dX8_setOut_5 ta1 (Nat.le_of_ble_eq_true rfl) (Nat.le_of_ble_eq_true rfl) fl_8_121 rfl rfl (fun i1 => ?_)
  refine g_aload_n C dX8_setOut_8 rfl ?_
  refine g_getI (j := 12) C dX8_setOut_9 ta1 (Nat.le_of_ble_eq_true rfl) (Nat.le_of_ble_eq_true rfl) fl_8_118 rfl rfl (fun i2 => ?_)
  obtain ⟨x3, qx3, h⟩ := bnd h
  refine g_callV1 (As := [iv (σ a1 9), iv (σ a1 12)]) C dX8_setOut_12 mi_X10_nextSpot ml_8_148 (ct_X10_nextSpot i1 i2 qx3) rfl rfl ⟨rfl, rfl⟩ ⟨Nat.le_of_ble_eq_true rfl, Nat.le_of_ble_eq_true rfl⟩ ⟨Nat.zero_le _, Nat.zero_le _⟩ rfl (Nat.le_of_ble_eq_true rfl) (fun ix3 => ?_)
  refine g_istore_n (L1 := [some (rv w 129), some (rv w a1), some (iv x3)]) C dX8_setOut_15 rfl (Nat.le_of_ble_eq_true rfl) rfl ?_
  refine g_iload_n C dX8_setOut_16 rfl ?_
  refine g_iconst C dX8_setOut_17 ?_
  refine g_icmp_ne C dX8_setOut_18 ix3 (by decide) rfl (tgt := 27) (fun c4 => ?_) (fun c4 => ?_)
  · have h := ifF c4 h
    refine g_aload_n C dX8_setOut_27 rfl ?_
    refine g_iload_n C dX8_setOut_28 rfl ?_
    obtain ⟨σ5, qσ5, h⟩ := bnd h
    refine g_putI (j := 10) C dX8_setOut_29 ta1 (Nat.le_of_ble_eq_true rfl) (Nat.le_of_ble_eq_true rfl) fl_8_115 rfl rfl rfl rfl qσ5 ix3 ?_
    refine g_aload_n C dX8_setOut_32 rfl ?_
    refine g_aload_n C dX8_setOut_33 rfl ?_
    refine g_getI (j := 12) C dX8_setOut_34 rfl (Nat.le_of_ble_eq_true rfl) (Nat.le_of_ble_eq_true rfl) fl_8_77 rfl rfl (fun i6 => ?_)
    refine g_aload_n C dX8_setOut_37 rfl ?_
    refine g_getR (j := 7) C dX8_setOut_38 rfl (Nat.le_of_ble_eq_true rfl) (Nat.le_of_ble_eq_true rfl) fl_8_29 rfl rfl (r := 1) rfl ?_
    refine g_aload_n C dX8_setOut_41 rfl ?_
    refine g_getI (j := 9) C dX8_setOut_42 ta1 (Nat.le_of_ble_eq_true rfl) (Nat.le_of_ble_eq_true rfl) fl_8_121 rfl rfl (fun i7 => ?_)
    refine g_iload_n C dX8_setOut_45 rfl ?_
    obtain ⟨x8, qx8, h⟩ := bnd h
    refine g_callV1 (As := [iv (σ5 a1 9), iv x3]) C dX8_setOut_46 mi_X10_lengthBetween ml_8_153 (ct_X10_lengthBetween i7 ix3 qx8) rfl rfl ⟨rfl, rfl⟩ ⟨Nat.le_of_ble_eq_true rfl, Nat.le_of_ble_eq_true rfl⟩ ⟨Nat.zero_le _, Nat.zero_le _⟩ rfl (Nat.le_of_ble_eq_true rfl) (fun ix8 => ?_)
    refine g_iadd C dX8_setOut_49 ?_
    obtain ⟨σ9, qσ9, h⟩ := bnd h
    refine g_putI (j := 11) C dX8_setOut_50 ta1 (Nat.le_of_ble_eq_true rfl) (Nat.le_of_ble_eq_true rfl) fl_8_156 rfl rfl rfl rfl qσ9 (iwr _) ?_
    exact g_vretP C dX8_setOut_53 hr hlk h
  · have h := ifT c4 h
    refine g_aload_n C dX8_setOut_21 rfl ?_
    refine g_iconst C dX8_setOut_22 ?_
    obtain ⟨σ10, qσ10, h⟩ := bnd h
    refine g_putI (j := 12) C dX8_setOut_23 ta1 (Nat.le_of_ble_eq_true rfl) (Nat.le_of_ble_eq_true rfl) fl_8_118 rfl rfl rfl rfl qσ10 (by decide) ?_
    exact g_vretP C dX8_setOut_26 hr hlk h
theorem dX8_beginFirstDeeds_0 : decode cX8_beginFirstDeeds 0 = .ok (.aload_n 0, 1) := by decide +kernel
theorem dX8_beginFirstDeeds_1 : decode cX8_beginFirstDeeds 1 = .ok (.getfield 178, 3) := by decide +kernel
theorem dX8_beginFirstDeeds_4 : decode cX8_beginFirstDeeds 4 = .ok (.bipush 15, 2) := by decide +kernel
theorem dX8_beginFirstDeeds_6 : decode cX8_beginFirstDeeds 6 = .ok (.iload_n 1, 1) := by decide +kernel
theorem dX8_beginFirstDeeds_7 : decode cX8_beginFirstDeeds 7 = .ok (.invokevirtual 182, 3) := by decide +kernel
theorem dX8_beginFirstDeeds_10 : decode cX8_beginFirstDeeds 10 = .ok (.aload_n 0, 1) := by decide +kernel
theorem dX8_beginFirstDeeds_11 : decode cX8_beginFirstDeeds 11 = .ok (.dup, 1) := by decide +kernel
theorem dX8_beginFirstDeeds_12 : decode cX8_beginFirstDeeds 12 = .ok (.getfield 172, 3) := by decide +kernel
theorem dX8_beginFirstDeeds_15 : decode cX8_beginFirstDeeds 15 = .ok (.iconst 1, 1) := by decide +kernel
theorem dX8_beginFirstDeeds_16 : decode cX8_beginFirstDeeds 16 = .ok (.iadd, 1) := by decide +kernel
theorem dX8_beginFirstDeeds_17 : decode cX8_beginFirstDeeds 17 = .ok (.putfield 172, 3) := by decide +kernel
theorem dX8_beginFirstDeeds_20 : decode cX8_beginFirstDeeds 20 = .ok (.return_, 1) := by decide +kernel
abbrev rm_X8_beginFirstDeeds : Room := { frames := 1, cells := 0, slots := 0, locals := 22 }
set_option maxRecDepth 100000 in
set_option maxHeartbeats 4000000 in
theorem ct_X8_beginFirstDeeds {w : Wd} {l : Launch} {a1 : Nat} {a2 : Int} {σ : St} {σ' : St} (ta1 : tg a1 = 0) (ia2 : InI a2) (h : m_X8_beginFirstDeeds a1 a2 σ = some σ') : Ct w l yX8_beginFirstDeeds (Cond.code yX8_beginFirstDeeds cX8_beginFirstDeeds 2 none :: TB) rm_X8_beginFirstDeeds [rv w a1, iv a2] σ none True σ' := by
  refine Ct.of2 [some (rv w a1), some (iv a2)] 0 rfl pn_RX8 (Nat.le_of_ble_eq_true rfl) ?_
  intro p e s m args below meth c C hr hlk
  unfold m_X8_beginFirstDeeds at h
  refine g_aload_n C dX8_beginFirstDeeds_0 rfl ?_
  refine g_getR (j := 3) C dX8_beginFirstDeeds_1 ta1 (Nat.le_of_ble_eq_true rfl) (Nat.le_of_ble_eq_true rfl) fl_8_178 rfl rfl (r := (a1 + 1)) (shR_0_3 ta1) ?_
  refine g_bipush C dX8_beginFirstDeeds_4 rfl ?_
  refine g_iload_n C dX8_beginFirstDeeds_6 rfl ?_
  obtain ⟨σ1, qσ1, h⟩ := bnd h
  refine g_callV0 (As := [iv 15, iv a2]) C dX8_beginFirstDeeds_7 mi_X3_push ml_8_182 (ct_X3_push (shT_0_3 ta1) (by decide) ia2 qσ1) (shT_0_3 ta1) rfl ⟨rfl, rfl⟩ ⟨Nat.le_of_ble_eq_true rfl, Nat.le_of_ble_eq_true rfl⟩ ⟨Nat.zero_le _, Nat.zero_le _⟩ rfl (Nat.le_of_ble_eq_true rfl) (fun _ => ?_)
  refine g_aload_n C dX8_beginFirstDeeds_10 rfl ?_
  refine g_dup C dX8_beginFirstDeeds_11 rfl ?_
  refine g_getI (j := 4) C dX8_beginFirstDeeds_12 ta1 (Nat.le_of_ble_eq_true rfl) (Nat.le_of_ble_eq_true rfl) fl_8_172 rfl rfl (fun i2 => ?_)
  refine g_iconst C dX8_beginFirstDeeds_15 ?_
  refine g_iadd C dX8_beginFirstDeeds_16 ?_
  obtain ⟨σ3, qσ3, h⟩ := bnd h
  refine g_putI (j := 4) C dX8_beginFirstDeeds_17 ta1 (Nat.le_of_ble_eq_true rfl) (Nat.le_of_ble_eq_true rfl) fl_8_172 rfl rfl rfl rfl qσ3 (iwr _) ?_
  exact g_vretP C dX8_beginFirstDeeds_20 hr hlk h
theorem dX8_targetOf_0 : decode cX8_targetOf 0 = .ok (.aload_n 0, 1) := by decide +kernel
theorem dX8_targetOf_1 : decode cX8_targetOf 1 = .ok (.getfield 33, 3) := by decide +kernel
theorem dX8_targetOf_4 : decode cX8_targetOf 4 = .ok (.iload_n 1, 1) := by decide +kernel
theorem dX8_targetOf_5 : decode cX8_targetOf 5 = .ok (.invokevirtual 188, 3) := by decide +kernel
theorem dX8_targetOf_8 : decode cX8_targetOf 8 = .ok (.ifCond .eq 15, 3) := by decide +kernel
theorem dX8_targetOf_11 : decode cX8_targetOf 11 = .ok (.aload_n 0, 1) := by decide +kernel
theorem dX8_targetOf_12 : decode cX8_targetOf 12 = .ok (.getfield 33, 3) := by decide +kernel
theorem dX8_targetOf_15 : decode cX8_targetOf 15 = .ok (.getfield 191, 3) := by decide +kernel
theorem dX8_targetOf_18 : decode cX8_targetOf 18 = .ok (.iload_n 1, 1) := by decide +kernel
theorem dX8_targetOf_19 : decode cX8_targetOf 19 = .ok (.iaload, 1) := by decide +kernel
theorem dX8_targetOf_20 : decode cX8_targetOf 20 = .ok (.goto 4, 3) := by decide +kernel
theorem dX8_targetOf_23 : decode cX8_targetOf 23 = .ok (.iconst (-1), 1) := by decide +kernel
theorem dX8_targetOf_24 : decode cX8_targetOf 24 = .ok (.ireturn, 1) := by decide +kernel
abbrev rm_X8_targetOf : Room := { frames := 1, cells := 0, slots := 0, locals := 21 }
set_option maxRecDepth 100000 in
set_option maxHeartbeats 4000000 in
theorem ct_X8_targetOf {w : Wd} {l : Launch} {a1 : Int} {σ : St} {y : Int} (ia1 : InI a1) (h : m_X8_targetOf a1 σ = some y) : Ct w l yX8_targetOf (Cond.code yX8_targetOf cX8_targetOf 2 (some .int) :: TB) rm_X8_targetOf [rv w 129, iv a1] σ (some (iv y)) (InI y) σ := by
  refine Ct.of2 [some (rv w 129), some (iv a1)] 0 rfl pn_RX8 (Nat.le_of_ble_eq_true rfl) ?_
  intro p e s m args below meth c C hr hlk
  unfold m_X8_targetOf at h
  refine g_aload_n C dX8_targetOf_0 rfl ?_
  refine g_getR (j := 8) C dX8_targetOf_1 rfl (Nat.le_of_ble_eq_true rfl) (Nat.le_of_ble_eq_true rfl) fl_8_33 rfl rfl (r := 22) rfl ?_
  refine g_iload_n C dX8_targetOf_4 rfl ?_
  obtain ⟨x1, qx1, h⟩ := bnd h
  refine g_callV1 (As := [iv a1]) C dX8_targetOf_5 mi_X5_isStep ml_8_188 (ct_X5_isStep rfl ia1 qx1) rfl rfl ⟨rfl, rfl⟩ ⟨Nat.le_of_ble_eq_true rfl, Nat.le_of_ble_eq_true rfl⟩ ⟨Nat.zero_le _, Nat.zero_le _⟩ rfl (Nat.le_of_ble_eq_true rfl) (fun ix1 => ?_)
  refine g_if_eq C dX8_targetOf_8 (zI ix1) rfl (tgt := 23) (fun c2 => ?_) (fun c2 => ?_)
  · have h := ifT c2 h
    refine g_iconst C dX8_targetOf_23 ?_
    exact g_iretU C dX8_targetOf_24 hr hlk h (by decide)
  · have h := ifF c2 h
    refine g_aload_n C dX8_targetOf_11 rfl ?_
    refine g_getR (j := 8) C dX8_targetOf_12 rfl (Nat.le_of_ble_eq_true rfl) (Nat.le_of_ble_eq_true rfl) fl_8_33 rfl rfl (r := 22) rfl ?_
    refine g_getR (j := 4) C dX8_targetOf_15 rfl (Nat.le_of_ble_eq_true rfl) (Nat.le_of_ble_eq_true rfl) fl_8_191 rfl rfl (r := 27) rfl ?_
    refine g_iload_n C dX8_targetOf_18 rfl ?_
    obtain ⟨x3, qx3, h⟩ := bnd h
    refine g_iald C dX8_targetOf_19 rfl rfl qx3 ia1 (fun ix3 => ?_)
    refine g_goto C dX8_targetOf_20 rfl (tgt := 24) ?_
    exact g_iretU C dX8_targetOf_24 hr hlk h ix3
theorem dX8_isFree_0 : decode cX8_isFree 0 = .ok (.aload_n 1, 1) := by decide +kernel
theorem dX8_isFree_1 : decode cX8_isFree 1 = .ok (.getfield 159, 3) := by decide +kernel
theorem dX8_isFree_4 : decode cX8_isFree 4 = .ok (.iconst (-1), 1) := by decide +kernel
theorem dX8_isFree_5 : decode cX8_isFree 5 = .ok (.if_icmp .eq 19, 3) := by decide +kernel
theorem dX8_isFree_8 : decode cX8_isFree 8 = .ok (.aload_n 1, 1) := by decide +kernel
theorem dX8_isFree_9 : decode cX8_isFree 9 = .ok (.aload_n 1, 1) := by decide +kernel
theorem dX8_isFree_10 : decode cX8_isFree 10 = .ok (.getfield 159, 3) := by decide +kernel
theorem dX8_isFree_13 : decode cX8_isFree 13 = .ok (.invokestatic 162, 3) := by decide +kernel
theorem dX8_isFree_16 : decode cX8_isFree 16 = .ok (.aload_n 1, 1) := by decide +kernel
theorem dX8_isFree_17 : decode cX8_isFree 17 = .ok (.iconst (-1), 1) := by decide +kernel
theorem dX8_isFree_18 : decode cX8_isFree 18 = .ok (.putfield 159, 3) := by decide +kernel
theorem dX8_isFree_21 : decode cX8_isFree 21 = .ok (.goto 41, 3) := by decide +kernel
theorem dX8_isFree_24 : decode cX8_isFree 24 = .ok (.aload_n 1, 1) := by decide +kernel
theorem dX8_isFree_25 : decode cX8_isFree 25 = .ok (.getfield 166, 3) := by decide +kernel
theorem dX8_isFree_28 : decode cX8_isFree 28 = .ok (.iconst (-1), 1) := by decide +kernel
theorem dX8_isFree_29 : decode cX8_isFree 29 = .ok (.if_icmp .eq 33, 3) := by decide +kernel
theorem dX8_isFree_32 : decode cX8_isFree 32 = .ok (.aload_n 0, 1) := by decide +kernel
theorem dX8_isFree_33 : decode cX8_isFree 33 = .ok (.getfield 77, 3) := by decide +kernel
theorem dX8_isFree_36 : decode cX8_isFree 36 = .ok (.aload_n 1, 1) := by decide +kernel
theorem dX8_isFree_37 : decode cX8_isFree 37 = .ok (.getfield 169, 3) := by decide +kernel
theorem dX8_isFree_40 : decode cX8_isFree 40 = .ok (.if_icmp .ge 5, 3) := by decide +kernel
theorem dX8_isFree_43 : decode cX8_isFree 43 = .ok (.iconst 0, 1) := by decide +kernel
theorem dX8_isFree_44 : decode cX8_isFree 44 = .ok (.ireturn, 1) := by decide +kernel
theorem dX8_isFree_45 : decode cX8_isFree 45 = .ok (.aload_n 1, 1) := by decide +kernel
theorem dX8_isFree_46 : decode cX8_isFree 46 = .ok (.iconst (-1), 1) := by decide +kernel
theorem dX8_isFree_47 : decode cX8_isFree 47 = .ok (.putfield 166, 3) := by decide +kernel
theorem dX8_isFree_50 : decode cX8_isFree 50 = .ok (.aload_n 1, 1) := by decide +kernel
theorem dX8_isFree_51 : decode cX8_isFree 51 = .ok (.aload_n 0, 1) := by decide +kernel
theorem dX8_isFree_52 : decode cX8_isFree 52 = .ok (.aload_n 1, 1) := by decide +kernel
theorem dX8_isFree_53 : decode cX8_isFree 53 = .ok (.getfield 172, 3) := by decide +kernel
theorem dX8_isFree_56 : decode cX8_isFree 56 = .ok (.invokevirtual 175, 3) := by decide +kernel
theorem dX8_isFree_59 : decode cX8_isFree 59 = .ok (.putfield 172, 3) := by decide +kernel
theorem dX8_isFree_62 : decode cX8_isFree 62 = .ok (.iconst 1, 1) := by decide +kernel
theorem dX8_isFree_63 : decode cX8_isFree 63 = .ok (.ireturn, 1) := by decide +kernel
abbrev rm_X8_isFree : Room := { frames := 2, cells := 0, slots := 0, locals := 43 }
set_option maxRecDepth 100000 in
set_option maxHeartbeats 4000000 in
theorem ct_X8_isFree {w : Wd} {l : Launch} {a1 : Nat} {σ : St} {y : Int} {σ' : St} (ta1 : tg a1 = 0) (h : m_X8_isFree a1 σ = some (y, σ')) : Ct w l yX8_isFree (Cond.code yX8_isFree cX8_isFree 2 (some .boolean) :: TB) rm_X8_isFree [rv w 129, rv w a1] σ (some (iv y)) (InZ y) σ' := by
  refine Ct.of2 [some (rv w 129), some (rv w a1)] 0 rfl pn_RX8 (Nat.le_of_ble_eq_true rfl) ?_
  intro p e s m args below meth c C hr hlk
  unfold m_X8_isFree at h
  refine g_aload_n C dX8_isFree_0 rfl ?_
  refine g_getI (j := 8) C dX8_isFree_1 ta1 (Nat.le_of_ble_eq_true rfl) (Nat.le_of_ble_eq_true rfl) fl_8_159 rfl rfl (fun i1 => ?_)
  refine g_iconst C dX8_isFree_4 ?_
  refine g_icmp_eq C dX8_isFree_5 i1 (by decide) rfl (tgt := 24) (fun c2 => ?_) (fun c2 => ?_)
  · have h := ifT c2 h
    refine g_aload_n C dX8_isFree_24 rfl ?_
    refine g_getI (j := 6) C dX8_isFree_25 ta1 (Nat.le_of_ble_eq_true rfl) (Nat.le_of_ble_eq_true rfl) fl_8_166 rfl rfl (fun i3 => ?_)
    refine g_iconst C dX8_isFree_28 ?_
    refine g_icmp_eq C dX8_isFree_29 i3 (by decide) rfl (tgt := 62) (fun c4 => ?_) (fun c4 => ?_)
    · have h := ifT c4 h
      refine g_iconst C dX8_isFree_62 ?_
      exact g_zretP C dX8_isFree_63 hr hlk h (Or.inr rfl)
    · have h := ifF c4 h
      refine g_aload_n C dX8_isFree_32 rfl ?_
      refine g_getI (j := 12) C dX8_isFree_33 rfl (Nat.le_of_ble_eq_true rfl) (Nat.le_of_ble_eq_true rfl) fl_8_77 rfl rfl (fun i5 => ?_)
      refine g_aload_n C dX8_isFree_36 rfl ?_
      refine g_getI (j := 7) C dX8_isFree_37 ta1 (Nat.le_of_ble_eq_true rfl) (Nat.le_of_ble_eq_true rfl) fl_8_169 rfl rfl (fun i6 => ?_)
      refine g_icmp_ge C dX8_isFree_40 i5 i6 rfl (tgt := 45) (fun c7 => ?_) (fun c7 => ?_)
      · have h := ifT c7 h
        refine g_aload_n C dX8_isFree_45 rfl ?_
        refine g_iconst C dX8_isFree_46 ?_
        obtain ⟨σ8, qσ8, h⟩ := bnd h
        refine g_putI (j := 6) C dX8_isFree_47 ta1 (Nat.le_of_ble_eq_true rfl) (Nat.le_of_ble_eq_true rfl) fl_8_166 rfl rfl rfl rfl qσ8 (by decide) ?_
        refine g_aload_n C dX8_isFree_50 rfl ?_
        refine g_aload_n C dX8_isFree_51 rfl ?_
        refine g_aload_n C dX8_isFree_52 rfl ?_
        refine g_getI (j := 4) C dX8_isFree_53 ta1 (Nat.le_of_ble_eq_true rfl) (Nat.le_of_ble_eq_true rfl) fl_8_172 rfl rfl (fun i9 => ?_)
        obtain ⟨x10, qx10, h⟩ := bnd h
        refine g_callV1 (As := [iv (σ8 a1 4)]) C dX8_isFree_56 mi_X8_targetOf ml_8_175 (ct_X8_targetOf i9 qx10) rfl rfl ⟨rfl, rfl⟩ ⟨Nat.le_of_ble_eq_true rfl, Nat.le_of_ble_eq_true rfl⟩ ⟨Nat.zero_le _, Nat.zero_le _⟩ rfl (Nat.le_of_ble_eq_true rfl) (fun ix10 => ?_)
        obtain ⟨σ11, qσ11, h⟩ := bnd h
        refine g_putI (j := 4) C dX8_isFree_59 ta1 (Nat.le_of_ble_eq_true rfl) (Nat.le_of_ble_eq_true rfl) fl_8_172 rfl rfl rfl rfl qσ11 ix10 ?_
        refine g_iconst C dX8_isFree_62 ?_
        exact g_zretP C dX8_isFree_63 hr hlk h (Or.inr rfl)
      · have h := ifF c7 h
        refine g_iconst C dX8_isFree_43 ?_
        exact g_zretP C dX8_isFree_44 hr hlk h (Or.inl rfl)
  · have h := ifF c2 h
    refine g_aload_n C dX8_isFree_8 rfl ?_
    refine g_aload_n C dX8_isFree_9 rfl ?_
    refine g_getI (j := 8) C dX8_isFree_10 ta1 (Nat.le_of_ble_eq_true rfl) (Nat.le_of_ble_eq_true rfl) fl_8_159 rfl rfl (fun i12 => ?_)
    obtain ⟨σ13, qσ13, h⟩ := bnd h
    refine g_callS0 (As := [rv w a1, iv (σ a1 8)]) C dX8_isFree_13 mi_X8_beginFirstDeeds ml_8_162 (ct_X8_beginFirstDeeds ta1 i12 qσ13) rfl ⟨rfl, rfl⟩ ⟨Nat.le_of_ble_eq_true rfl, Nat.le_of_ble_eq_true rfl⟩ ⟨Nat.zero_le _, Nat.zero_le _⟩ rfl (Nat.le_of_ble_eq_true rfl) (fun _ => ?_)
    refine g_aload_n C dX8_isFree_16 rfl ?_
    refine g_iconst C dX8_isFree_17 ?_
    obtain ⟨σ14, qσ14, h⟩ := bnd h
    refine g_putI (j := 8) C dX8_isFree_18 ta1 (Nat.le_of_ble_eq_true rfl) (Nat.le_of_ble_eq_true rfl) fl_8_159 rfl rfl rfl rfl qσ14 (by decide) ?_
    refine g_goto C dX8_isFree_21 rfl (tgt := 62) ?_
    refine g_iconst C dX8_isFree_62 ?_
    exact g_zretP C dX8_isFree_63 hr hlk h (Or.inr rfl)
theorem dX8_passesEnd_0 : decode cX8_passesEnd 0 = .ok (.aload_n 0, 1) := by decide +kernel
theorem dX8_passesEnd_1 : decode cX8_passesEnd 1 = .ok (.getfield 33, 3) := by decide +kernel
theorem dX8_passesEnd_4 : decode cX8_passesEnd 4 = .ok (.aload_n 1, 1) := by decide +kernel
theorem dX8_passesEnd_5 : decode cX8_passesEnd 5 = .ok (.getfield 172, 3) := by decide +kernel
theorem dX8_passesEnd_8 : decode cX8_passesEnd 8 = .ok (.invokevirtual 188, 3) := by decide +kernel
theorem dX8_passesEnd_11 : decode cX8_passesEnd 11 = .ok (.ifCond .eq 18, 3) := by decide +kernel
theorem dX8_passesEnd_14 : decode cX8_passesEnd 14 = .ok (.aload_n 0, 1) := by decide +kernel
theorem dX8_passesEnd_15 : decode cX8_passesEnd 15 = .ok (.getfield 33, 3) := by decide +kernel
theorem dX8_passesEnd_18 : decode cX8_passesEnd 18 = .ok (.getfield 197, 3) := by decide +kernel
theorem dX8_passesEnd_21 : decode cX8_passesEnd 21 = .ok (.aload_n 1, 1) := by decide +kernel
theorem dX8_passesEnd_22 : decode cX8_passesEnd 22 = .ok (.getfield 172, 3) := by decide +kernel
theorem dX8_passesEnd_25 : decode cX8_passesEnd 25 = .ok (.iaload, 1) := by decide +kernel
theorem dX8_passesEnd_26 : decode cX8_passesEnd 26 = .ok (.goto 4, 3) := by decide +kernel
theorem dX8_passesEnd_29 : decode cX8_passesEnd 29 = .ok (.iconst (-1), 1) := by decide +kernel
theorem dX8_passesEnd_30 : decode cX8_passesEnd 30 = .ok (.istore_n 2, 1) := by decide +kernel
theorem dX8_passesEnd_31 : decode cX8_passesEnd 31 = .ok (.iload_n 2, 1) := by decide +kernel
theorem dX8_passesEnd_32 : decode cX8_passesEnd 32 = .ok (.lookupswitch 164 #[(-1, 154), (31, 52), (32, 106), (33, 84), (34, 120)], 52) := by decide +kernel
theorem dX8_passesEnd_84 : decode cX8_passesEnd 84 = .ok (.aload_n 1, 1) := by decide +kernel
theorem dX8_passesEnd_85 : decode cX8_passesEnd 85 = .ok (.getfield 178, 3) := by decide +kernel
theorem dX8_passesEnd_88 : decode cX8_passesEnd 88 = .ok (.invokevirtual 200, 3) := by decide +kernel
theorem dX8_passesEnd_91 : decode cX8_passesEnd 91 = .ok (.ifCond .le 5, 3) := by decide +kernel
theorem dX8_passesEnd_94 : decode cX8_passesEnd 94 = .ok (.iconst 0, 1) := by decide +kernel
theorem dX8_passesEnd_95 : decode cX8_passesEnd 95 = .ok (.ireturn, 1) := by decide +kernel
theorem dX8_passesEnd_96 : decode cX8_passesEnd 96 = .ok (.aload_n 1, 1) := by decide +kernel
theorem dX8_passesEnd_97 : decode cX8_passesEnd 97 = .ok (.getfield 178, 3) := by decide +kernel
theorem dX8_passesEnd_100 : decode cX8_passesEnd 100 = .ok (.invokevirtual 204, 3) := by decide +kernel
theorem dX8_passesEnd_103 : decode cX8_passesEnd 103 = .ok (.pop, 1) := by decide +kernel
theorem dX8_passesEnd_104 : decode cX8_passesEnd 104 = .ok (.aload_n 1, 1) := by decide +kernel
theorem dX8_passesEnd_105 : decode cX8_passesEnd 105 = .ok (.dup, 1) := by decide +kernel
theorem dX8_passesEnd_106 : decode cX8_passesEnd 106 = .ok (.getfield 172, 3) := by decide +kernel
theorem dX8_passesEnd_109 : decode cX8_passesEnd 109 = .ok (.iconst 1, 1) := by decide +kernel
theorem dX8_passesEnd_110 : decode cX8_passesEnd 110 = .ok (.iadd, 1) := by decide +kernel
theorem dX8_passesEnd_111 : decode cX8_passesEnd 111 = .ok (.putfield 172, 3) := by decide +kernel
theorem dX8_passesEnd_114 : decode cX8_passesEnd 114 = .ok (.iconst 1, 1) := by decide +kernel
theorem dX8_passesEnd_115 : decode cX8_passesEnd 115 = .ok (.ireturn, 1) := by decide +kernel
theorem dX8_passesEnd_116 : decode cX8_passesEnd 116 = .ok (.aload_n 1, 1) := by decide +kernel
theorem dX8_passesEnd_117 : decode cX8_passesEnd 117 = .ok (.getfield 178, 3) := by decide +kernel
theorem dX8_passesEnd_120 : decode cX8_passesEnd 120 = .ok (.invokevirtual 204, 3) := by decide +kernel
theorem dX8_passesEnd_123 : decode cX8_passesEnd 123 = .ok (.pop, 1) := by decide +kernel
theorem dX8_passesEnd_124 : decode cX8_passesEnd 124 = .ok (.aload_n 1, 1) := by decide +kernel
theorem dX8_passesEnd_125 : decode cX8_passesEnd 125 = .ok (.aload_n 0, 1) := by decide +kernel
theorem dX8_passesEnd_126 : decode cX8_passesEnd 126 = .ok (.aload_n 1, 1) := by decide +kernel
theorem dX8_passesEnd_127 : decode cX8_passesEnd 127 = .ok (.getfield 172, 3) := by decide +kernel
theorem dX8_passesEnd_130 : decode cX8_passesEnd 130 = .ok (.invokevirtual 175, 3) := by decide +kernel
theorem dX8_passesEnd_133 : decode cX8_passesEnd 133 = .ok (.putfield 172, 3) := by decide +kernel
theorem dX8_passesEnd_136 : decode cX8_passesEnd 136 = .ok (.iconst 1, 1) := by decide +kernel
theorem dX8_passesEnd_137 : decode cX8_passesEnd 137 = .ok (.ireturn, 1) := by decide +kernel
theorem dX8_passesEnd_138 : decode cX8_passesEnd 138 = .ok (.aload_n 1, 1) := by decide +kernel
theorem dX8_passesEnd_139 : decode cX8_passesEnd 139 = .ok (.aload_n 0, 1) := by decide +kernel
theorem dX8_passesEnd_140 : decode cX8_passesEnd 140 = .ok (.aload_n 1, 1) := by decide +kernel
theorem dX8_passesEnd_141 : decode cX8_passesEnd 141 = .ok (.getfield 172, 3) := by decide +kernel
theorem dX8_passesEnd_144 : decode cX8_passesEnd 144 = .ok (.invokevirtual 175, 3) := by decide +kernel
theorem dX8_passesEnd_147 : decode cX8_passesEnd 147 = .ok (.putfield 172, 3) := by decide +kernel
theorem dX8_passesEnd_150 : decode cX8_passesEnd 150 = .ok (.iconst 1, 1) := by decide +kernel
theorem dX8_passesEnd_151 : decode cX8_passesEnd 151 = .ok (.ireturn, 1) := by decide +kernel
theorem dX8_passesEnd_152 : decode cX8_passesEnd 152 = .ok (.aload_n 1, 1) := by decide +kernel
theorem dX8_passesEnd_153 : decode cX8_passesEnd 153 = .ok (.getfield 178, 3) := by decide +kernel
theorem dX8_passesEnd_156 : decode cX8_passesEnd 156 = .ok (.invokevirtual 207, 3) := by decide +kernel
theorem dX8_passesEnd_159 : decode cX8_passesEnd 159 = .ok (.ifCond .eq 14, 3) := by decide +kernel
theorem dX8_passesEnd_162 : decode cX8_passesEnd 162 = .ok (.aload_n 1, 1) := by decide +kernel
theorem dX8_passesEnd_163 : decode cX8_passesEnd 163 = .ok (.aload_n 0, 1) := by decide +kernel
theorem dX8_passesEnd_164 : decode cX8_passesEnd 164 = .ok (.getfield 77, 3) := by decide +kernel
theorem dX8_passesEnd_167 : decode cX8_passesEnd 167 = .ok (.putfield 128, 3) := by decide +kernel
theorem dX8_passesEnd_170 : decode cX8_passesEnd 170 = .ok (.goto 14, 3) := by decide +kernel
theorem dX8_passesEnd_173 : decode cX8_passesEnd 173 = .ok (.aload_n 1, 1) := by decide +kernel
theorem dX8_passesEnd_174 : decode cX8_passesEnd 174 = .ok (.aload_n 1, 1) := by decide +kernel
theorem dX8_passesEnd_175 : decode cX8_passesEnd 175 = .ok (.getfield 178, 3) := by decide +kernel
theorem dX8_passesEnd_178 : decode cX8_passesEnd 178 = .ok (.invokevirtual 204, 3) := by decide +kernel
theorem dX8_passesEnd_181 : decode cX8_passesEnd 181 = .ok (.putfield 172, 3) := by decide +kernel
theorem dX8_passesEnd_184 : decode cX8_passesEnd 184 = .ok (.iconst 1, 1) := by decide +kernel
theorem dX8_passesEnd_185 : decode cX8_passesEnd 185 = .ok (.ireturn, 1) := by decide +kernel
theorem dX8_passesEnd_186 : decode cX8_passesEnd 186 = .ok (.aload_n 1, 1) := by decide +kernel
theorem dX8_passesEnd_187 : decode cX8_passesEnd 187 = .ok (.aload_n 0, 1) := by decide +kernel
theorem dX8_passesEnd_188 : decode cX8_passesEnd 188 = .ok (.getfield 77, 3) := by decide +kernel
theorem dX8_passesEnd_191 : decode cX8_passesEnd 191 = .ok (.putfield 128, 3) := by decide +kernel
theorem dX8_passesEnd_194 : decode cX8_passesEnd 194 = .ok (.iconst 1, 1) := by decide +kernel
theorem dX8_passesEnd_195 : decode cX8_passesEnd 195 = .ok (.ireturn, 1) := by decide +kernel
theorem dX8_passesEnd_196 : decode cX8_passesEnd 196 = .ok (.iconst 0, 1) := by decide +kernel
theorem dX8_passesEnd_197 : decode cX8_passesEnd 197 = .ok (.ireturn, 1) := by decide +kernel
abbrev rm_X8_passesEnd : Room := { frames := 2, cells := 0, slots := 0, locals := 42 }
set_option maxRecDepth 100000 in
set_option maxHeartbeats 4000000 in
theorem ct_X8_passesEnd {w : Wd} {l : Launch} {a1 : Nat} {σ : St} {y : Int} {σ' : St} (ta1 : tg a1 = 0) (h : m_X8_passesEnd a1 σ = some (y, σ')) : Ct w l yX8_passesEnd (Cond.code yX8_passesEnd cX8_passesEnd 3 (some .boolean) :: TB) rm_X8_passesEnd [rv w 129, rv w a1] σ (some (iv y)) (InZ y) σ' := by
  refine Ct.of2 [some (rv w 129), some (rv w a1), none] 1 rfl pn_RX8 (Nat.le_of_ble_eq_true rfl) ?_
  intro p e s m args below meth c C hr hlk
  unfold m_X8_passesEnd at h
  refine g_aload_n C dX8_passesEnd_0 rfl ?_
  refine g_getR (j := 8) C dX8_passesEnd_1 rfl (Nat.le_of_ble_eq_true rfl) (Nat.le_of_ble_eq_true rfl) fl_8_33 rfl rfl (r := 22) rfl ?_
  refine g_aload_n C dX8_passesEnd_4 rfl ?_
  refine g_getI (j := 4) C dX8_passesEnd_5 ta1 (Nat.le_of_ble_eq_true rfl) (Nat.le_of_ble_eq_true rfl) fl_8_172 rfl rfl (fun i1 => ?_)
  obtain ⟨x2, qx2, h⟩ := bnd h
  refine g_callV1 (As := [iv (σ a1 4)]) C dX8_passesEnd_8 mi_X5_isStep ml_8_188 (ct_X5_isStep rfl i1 qx2) rfl rfl ⟨rfl, rfl⟩ ⟨Nat.le_of_ble_eq_true rfl, Nat.le_of_ble_eq_true rfl⟩ ⟨Nat.zero_le _, Nat.zero_le _⟩ rfl (Nat.le_of_ble_eq_true rfl) (fun ix2 => ?_)
  have hJ30_35 : ∀ (x6 : Int) , InI x6 → m_X8_passesEnd_J30 σ a1 x6 = some (y, σ') → GM w p l e rm_X8_passesEnd s m args below meth c (some (iv y)) (InZ y) σ' 3 30 [some (rv w 129), some (rv w a1), none] [iv x6] σ := by
    intro x6 ix6 h
    unfold m_X8_passesEnd_J30 at h
    refine g_istore_n (L1 := [some (rv w 129), some (rv w a1), some (iv x6)]) C dX8_passesEnd_30 rfl (Nat.le_of_ble_eq_true rfl) rfl ?_
    refine g_iload_n C dX8_passesEnd_31 rfl ?_
    by_cases c7 : x6 = (-1)
    · have h := ifT c7 h
      refine g_look C dX8_passesEnd_32 ix6 rfl (by rw [c7] <;> rfl) rfl (tgt := 186) ?_
      refine g_aload_n C dX8_passesEnd_186 rfl ?_
      refine g_aload_n C dX8_passesEnd_187 rfl ?_
      refine g_getI (j := 12) C dX8_passesEnd_188 rfl (Nat.le_of_ble_eq_true rfl) (Nat.le_of_ble_eq_true rfl) fl_8_77 rfl rfl (fun i8 => ?_)
      obtain ⟨σ9, qσ9, h⟩ := bnd h
      refine g_putI (j := 18) C dX8_passesEnd_191 ta1 (Nat.le_of_ble_eq_true rfl) (Nat.le_of_ble_eq_true rfl) fl_8_128 rfl rfl rfl rfl qσ9 i8 ?_
      refine g_iconst C dX8_passesEnd_194 ?_
      exact g_zretP C dX8_passesEnd_195 hr hlk h (Or.inr rfl)
    have h := ifF c7 h
    by_cases c10 : x6 = 31
    · have h := ifT c10 h
      refine g_look C dX8_passesEnd_32 ix6 rfl (by rw [c10] <;> rfl) rfl (tgt := 84) ?_
      refine g_aload_n C dX8_passesEnd_84 rfl ?_
      refine g_getR (j := 3) C dX8_passesEnd_85 ta1 (Nat.le_of_ble_eq_true rfl) (Nat.le_of_ble_eq_true rfl) fl_8_178 rfl rfl (r := (a1 + 1)) (shR_0_3 ta1) ?_
      obtain ⟨x11, qx11, h⟩ := bnd h
      refine g_callV1 (As := []) C dX8_passesEnd_88 mi_X3_top ml_8_200 (ct_X3_top (shT_0_3 ta1) qx11) (shT_0_3 ta1) rfl ⟨rfl, rfl⟩ ⟨Nat.le_of_ble_eq_true rfl, Nat.le_of_ble_eq_true rfl⟩ ⟨Nat.zero_le _, Nat.zero_le _⟩ rfl (Nat.le_of_ble_eq_true rfl) (fun ix11 => ?_)
      refine g_if_le C dX8_passesEnd_91 ix11 rfl (tgt := 96) (fun c12 => ?_) (fun c12 => ?_)
      · have h := ifT c12 h
        refine g_aload_n C dX8_passesEnd_96 rfl ?_
        refine g_getR (j := 3) C dX8_passesEnd_97 ta1 (Nat.le_of_ble_eq_true rfl) (Nat.le_of_ble_eq_true rfl) fl_8_178 rfl rfl (r := (a1 + 1)) (shR_0_3 ta1) ?_
        obtain ⟨⟨x13, σ14⟩, qx13, h⟩ := bnd h
        refine g_callV1 (As := []) C dX8_passesEnd_100 mi_X3_pop ml_8_204 (ct_X3_pop (shT_0_3 ta1) qx13) (shT_0_3 ta1) rfl ⟨rfl, rfl⟩ ⟨Nat.le_of_ble_eq_true rfl, Nat.le_of_ble_eq_true rfl⟩ ⟨Nat.zero_le _, Nat.zero_le _⟩ rfl (Nat.le_of_ble_eq_true rfl) (fun ix13 => ?_)
        refine g_pop C dX8_passesEnd_103 rfl ?_
        refine g_aload_n C dX8_passesEnd_104 rfl ?_
        refine g_dup C dX8_passesEnd_105 rfl ?_
        refine g_getI (j := 4) C dX8_passesEnd_106 ta1 (Nat.le_of_ble_eq_true rfl) (Nat.le_of_ble_eq_true rfl) fl_8_172 rfl rfl (fun i15 => ?_)
        refine g_iconst C dX8_passesEnd_109 ?_
        refine g_iadd C dX8_passesEnd_110 ?_
        obtain ⟨σ16, qσ16, h⟩ := bnd h
        refine g_putI (j := 4) C dX8_passesEnd_111 ta1 (Nat.le_of_ble_eq_true rfl) (Nat.le_of_ble_eq_true rfl) fl_8_172 rfl rfl rfl rfl qσ16 (iwr _) ?_
        refine g_iconst C dX8_passesEnd_114 ?_
        exact g_zretP C dX8_passesEnd_115 hr hlk h (Or.inr rfl)
      · have h := ifF c12 h
        refine g_iconst C dX8_passesEnd_94 ?_
        exact g_zretP C dX8_passesEnd_95 hr hlk h (Or.inl rfl)
    have h := ifF c10 h
    by_cases c17 : x6 = 32
    · have h := ifT c17 h
      refine g_look C dX8_passesEnd_32 ix6 rfl (by rw [c17] <;> rfl) rfl (tgt := 138) ?_
      refine g_aload_n C dX8_passesEnd_138 rfl ?_
      refine g_aload_n C dX8_passesEnd_139 rfl ?_
      refine g_aload_n C dX8_passesEnd_140 rfl ?_
      refine g_getI (j := 4) C dX8_passesEnd_141 ta1 (Nat.le_of_ble_eq_true rfl) (Nat.le_of_ble_eq_true rfl) fl_8_172 rfl rfl (fun i18 => ?_)
      obtain ⟨x19, qx19, h⟩ := bnd h
      refine g_callV1 (As := [iv (σ a1 4)]) C dX8_passesEnd_144 mi_X8_targetOf ml_8_175 (ct_X8_targetOf i18 qx19) rfl rfl ⟨rfl, rfl⟩ ⟨Nat.le_of_ble_eq_true rfl, Nat.le_of_ble_eq_true rfl⟩ ⟨Nat.zero_le _, Nat.zero_le _⟩ rfl (Nat.le_of_ble_eq_true rfl) (fun ix19 => ?_)
      obtain ⟨σ20, qσ20, h⟩ := bnd h
      refine g_putI (j := 4) C dX8_passesEnd_147 ta1 (Nat.le_of_ble_eq_true rfl) (Nat.le_of_ble_eq_true rfl) fl_8_172 rfl rfl rfl rfl qσ20 ix19 ?_
      refine g_iconst C dX8_passesEnd_150 ?_
      exact g_zretP C dX8_passesEnd_151 hr hlk h (Or.inr rfl)
    have h := ifF c17 h
    by_cases c21 : x6 = 33
    · have h := ifT c21 h
      refine g_look C dX8_passesEnd_32 ix6 rfl (by rw [c21] <;> rfl) rfl (tgt := 116) ?_
      refine g_aload_n C dX8_passesEnd_116 rfl ?_
      refine g_getR (j := 3) C dX8_passesEnd_117 ta1 (Nat.le_of_ble_eq_true rfl) (Nat.le_of_ble_eq_true rfl) fl_8_178 rfl rfl (r := (a1 + 1)) (shR_0_3 ta1) ?_
      obtain ⟨⟨x22, σ23⟩, qx22, h⟩ := bnd h
      refine g_callV1 (As := []) C dX8_passesEnd_120 mi_X3_pop ml_8_204 (ct_X3_pop (shT_0_3 ta1) qx22) (shT_0_3 ta1) rfl ⟨rfl, rfl⟩ ⟨Nat.le_of_ble_eq_true rfl, Nat.le_of_ble_eq_true rfl⟩ ⟨Nat.zero_le _, Nat.zero_le _⟩ rfl (Nat.le_of_ble_eq_true rfl) (fun ix22 => ?_)
      refine g_pop C dX8_passesEnd_123 rfl ?_
      refine g_aload_n C dX8_passesEnd_124 rfl ?_
      refine g_aload_n C dX8_passesEnd_125 rfl ?_
      refine g_aload_n C dX8_passesEnd_126 rfl ?_
      refine g_getI (j := 4) C dX8_passesEnd_127 ta1 (Nat.le_of_ble_eq_true rfl) (Nat.le_of_ble_eq_true rfl) fl_8_172 rfl rfl (fun i24 => ?_)
      obtain ⟨x25, qx25, h⟩ := bnd h
      refine g_callV1 (As := [iv (σ23 a1 4)]) C dX8_passesEnd_130 mi_X8_targetOf ml_8_175 (ct_X8_targetOf i24 qx25) rfl rfl ⟨rfl, rfl⟩ ⟨Nat.le_of_ble_eq_true rfl, Nat.le_of_ble_eq_true rfl⟩ ⟨Nat.zero_le _, Nat.zero_le _⟩ rfl (Nat.le_of_ble_eq_true rfl) (fun ix25 => ?_)
      obtain ⟨σ26, qσ26, h⟩ := bnd h
      refine g_putI (j := 4) C dX8_passesEnd_133 ta1 (Nat.le_of_ble_eq_true rfl) (Nat.le_of_ble_eq_true rfl) fl_8_172 rfl rfl rfl rfl qσ26 ix25 ?_
      refine g_iconst C dX8_passesEnd_136 ?_
      exact g_zretP C dX8_passesEnd_137 hr hlk h (Or.inr rfl)
    have h := ifF c21 h
    by_cases c27 : x6 = 34
    · have h := ifT c27 h
      refine g_look C dX8_passesEnd_32 ix6 rfl (by rw [c27] <;> rfl) rfl (tgt := 152) ?_
      refine g_aload_n C dX8_passesEnd_152 rfl ?_
      refine g_getR (j := 3) C dX8_passesEnd_153 ta1 (Nat.le_of_ble_eq_true rfl) (Nat.le_of_ble_eq_true rfl) fl_8_178 rfl rfl (r := (a1 + 1)) (shR_0_3 ta1) ?_
      obtain ⟨x28, qx28, h⟩ := bnd h
      refine g_callV1 (As := []) C dX8_passesEnd_156 mi_X3_isEmpty ml_8_207 (ct_X3_isEmpty (shT_0_3 ta1) qx28) (shT_0_3 ta1) rfl ⟨rfl, rfl⟩ ⟨Nat.le_of_ble_eq_true rfl, Nat.le_of_ble_eq_true rfl⟩ ⟨Nat.zero_le _, Nat.zero_le _⟩ rfl (Nat.le_of_ble_eq_true rfl) (fun ix28 => ?_)
      refine g_if_eq C dX8_passesEnd_159 (zI ix28) rfl (tgt := 173) (fun c29 => ?_) (fun c29 => ?_)
      · have h := ifT c29 h
        refine g_aload_n C dX8_passesEnd_173 rfl ?_
        refine g_aload_n C dX8_passesEnd_174 rfl ?_
        refine g_getR (j := 3) C dX8_passesEnd_175 ta1 (Nat.le_of_ble_eq_true rfl) (Nat.le_of_ble_eq_true rfl) fl_8_178 rfl rfl (r := (a1 + 1)) (shR_0_3 ta1) ?_
        obtain ⟨⟨x30, σ31⟩, qx30, h⟩ := bnd h
        refine g_callV1 (As := []) C dX8_passesEnd_178 mi_X3_pop ml_8_204 (ct_X3_pop (shT_0_3 ta1) qx30) (shT_0_3 ta1) rfl ⟨rfl, rfl⟩ ⟨Nat.le_of_ble_eq_true rfl, Nat.le_of_ble_eq_true rfl⟩ ⟨Nat.zero_le _, Nat.zero_le _⟩ rfl (Nat.le_of_ble_eq_true rfl) (fun ix30 => ?_)
        obtain ⟨σ32, qσ32, h⟩ := bnd h
        refine g_putI (j := 4) C dX8_passesEnd_181 ta1 (Nat.le_of_ble_eq_true rfl) (Nat.le_of_ble_eq_true rfl) fl_8_172 rfl rfl rfl rfl qσ32 ix30 ?_
        refine g_iconst C dX8_passesEnd_184 ?_
        exact g_zretP C dX8_passesEnd_185 hr hlk h (Or.inr rfl)
      · have h := ifF c29 h
        refine g_aload_n C dX8_passesEnd_162 rfl ?_
        refine g_aload_n C dX8_passesEnd_163 rfl ?_
        refine g_getI (j := 12) C dX8_passesEnd_164 rfl (Nat.le_of_ble_eq_true rfl) (Nat.le_of_ble_eq_true rfl) fl_8_77 rfl rfl (fun i33 => ?_)
        obtain ⟨σ34, qσ34, h⟩ := bnd h
        refine g_putI (j := 18) C dX8_passesEnd_167 ta1 (Nat.le_of_ble_eq_true rfl) (Nat.le_of_ble_eq_true rfl) fl_8_128 rfl rfl rfl rfl qσ34 i33 ?_
        refine g_goto C dX8_passesEnd_170 rfl (tgt := 184) ?_
        refine g_iconst C dX8_passesEnd_184 ?_
        exact g_zretP C dX8_passesEnd_185 hr hlk h (Or.inr rfl)
    have h := ifF c27 h
    refine g_look (off := 164) C dX8_passesEnd_32 ix6 rfl (by simp [Op.lookupswitch.offset, Ne.symm c7, Ne.symm c10, Ne.symm c17, Ne.symm c21, Ne.symm c27]) rfl (tgt := 196) ?_
    refine g_iconst C dX8_passesEnd_196 ?_
    exact g_zretP C dX8_passesEnd_197 hr hlk h (Or.inl rfl)
  refine g_if_eq C dX8_passesEnd_11 (zI ix2) rfl (tgt := 29) (fun c3 => ?_) (fun c3 => ?_)
  · have h := ifT c3 h
    refine g_iconst C dX8_passesEnd_29 ?_
    exact hJ30_35 (-1) (by decide) h
  · have h := ifF c3 h
    refine g_aload_n C dX8_passesEnd_14 rfl ?_
    refine g_getR (j := 8) C dX8_passesEnd_15 rfl (Nat.le_of_ble_eq_true rfl) (Nat.le_of_ble_eq_true rfl) fl_8_33 rfl rfl (r := 22) rfl ?_
    refine g_getR (j := 0) C dX8_passesEnd_18 rfl (Nat.le_of_ble_eq_true rfl) (Nat.le_of_ble_eq_true rfl) fl_8_197 rfl rfl (r := 23) rfl ?_
    refine g_aload_n C dX8_passesEnd_21 rfl ?_
    refine g_getI (j := 4) C dX8_passesEnd_22 ta1 (Nat.le_of_ble_eq_true rfl) (Nat.le_of_ble_eq_true rfl) fl_8_172 rfl rfl (fun i4 => ?_)
    obtain ⟨x5, qx5, h⟩ := bnd h
    refine g_iald C dX8_passesEnd_25 rfl rfl qx5 i4 (fun ix5 => ?_)
    refine g_goto C dX8_passesEnd_26 rfl (tgt := 30) ?_
    exact hJ30_35 x5 ix5 h
theorem dX8_isOver_0 : decode cX8_isOver 0 = .ok (.iconst 0, 1) := by decide +kernel
theorem dX8_isOver_1 : decode cX8_isOver 1 = .ok (.istore_n 2, 1) := by decide +kernel
theorem dX8_isOver_2 : decode cX8_isOver 2 = .ok (.iload_n 2, 1) := by decide +kernel
theorem dX8_isOver_3 : decode cX8_isOver 3 = .ok (.sipush 1000, 3) := by decide +kernel
theorem dX8_isOver_6 : decode cX8_isOver 6 = .ok (.if_icmp .ge 27, 3) := by decide +kernel
theorem dX8_isOver_9 : decode cX8_isOver 9 = .ok (.aload_n 1, 1) := by decide +kernel
theorem dX8_isOver_10 : decode cX8_isOver 10 = .ok (.getfield 128, 3) := by decide +kernel
theorem dX8_isOver_13 : decode cX8_isOver 13 = .ok (.iconst (-1), 1) := by decide +kernel
theorem dX8_isOver_14 : decode cX8_isOver 14 = .ok (.if_icmp .ne 19, 3) := by decide +kernel
theorem dX8_isOver_17 : decode cX8_isOver 17 = .ok (.aload_n 0, 1) := by decide +kernel
theorem dX8_isOver_18 : decode cX8_isOver 18 = .ok (.aload_n 1, 1) := by decide +kernel
theorem dX8_isOver_19 : decode cX8_isOver 19 = .ok (.invokevirtual 194, 3) := by decide +kernel
theorem dX8_isOver_22 : decode cX8_isOver 22 = .ok (.ifCond .ne 5, 3) := by decide +kernel
theorem dX8_isOver_25 : decode cX8_isOver 25 = .ok (.iconst 0, 1) := by decide +kernel
theorem dX8_isOver_26 : decode cX8_isOver 26 = .ok (.ireturn, 1) := by decide +kernel
theorem dX8_isOver_27 : decode cX8_isOver 27 = .ok (.iinc 2 1, 3) := by decide +kernel
theorem dX8_isOver_30 : decode cX8_isOver 30 = .ok (.goto (-28), 3) := by decide +kernel
theorem dX8_isOver_33 : decode cX8_isOver 33 = .ok (.iconst 1, 1) := by decide +kernel
theorem dX8_isOver_34 : decode cX8_isOver 34 = .ok (.ireturn, 1) := by decide +kernel
abbrev rm_X8_isOver : Room := { frames := 3, cells := 0, slots := 0, locals := 64 }
set_option maxRecDepth 100000 in
set_option maxHeartbeats 4000000 in
theorem ct_X8_isOver {w : Wd} {l : Launch} {a1 : Nat} {σ : St} {y : Int} {σ' : St} (ta1 : tg a1 = 0) (h : m_X8_isOver a1 σ = some (y, σ')) : Ct w l yX8_isOver (Cond.code yX8_isOver cX8_isOver 3 (some .boolean) :: TB) rm_X8_isOver [rv w 129, rv w a1] σ (some (iv y)) (InZ y) σ' := by
  refine Ct.of2 [some (rv w 129), some (rv w a1), none] 1 rfl pn_RX8 (Nat.le_of_ble_eq_true rfl) ?_
  intro p e s m args below meth c C hr hlk
  unfold m_X8_isOver at h
  refine g_iconst C dX8_isOver_0 ?_
  refine g_istore_n (L1 := [some (rv w 129), some (rv w a1), some (iv 0)]) C dX8_isOver_1 rfl (Nat.le_of_ble_eq_true rfl) rfl ?_
  obtain ⟨b1, hb1, hF1⟩ := bnd h
  have hX1 : ∀ (σ10 : St) , Sum.inl σ10 = b1 → GM w p l e rm_X8_isOver s m args below meth c (some (iv y)) (InZ y) σ' 3 33 [none, none, none] [] σ10 := by
    intro σ10 q
    subst q
    have h := hF1
    refine g_iconst C dX8_isOver_33 ?_
    exact g_zretP C dX8_isOver_34 hr hlk h (Or.inr rfl)
  have hL1 : ∀ (n : Nat) (x2 : Int) (σ3 : St) , InI x2 → lpN (fun a => m_X8_isOver_L2 a1 a.1 a.2) n (x2, σ3) = some b1 → GM w p l e rm_X8_isOver s m args below meth c (some (iv y)) (InZ y) σ' 3 2 [some (rv w 129), some (rv w a1), some (iv x2)] [] σ3 := by
    intro n
    induction n with
    | zero => intro x2 σ3 ix2 q; cases q
    | succ n ih1 =>
      intro x2 σ3 ix2 q
      obtain ⟨o1, h, hk1⟩ := lp_step q
      replace h : m_X8_isOver_L2 a1 x2 σ3 = some o1 := h
      unfold m_X8_isOver_L2 at h
      refine g_iload_n C dX8_isOver_2 rfl ?_
      refine g_sipush C dX8_isOver_3 rfl ?_
      refine g_icmp_ge C dX8_isOver_6 ix2 (by decide) rfl (tgt := 33) (fun c4 => ?_) (fun c4 => ?_)
      · have h := ifT c4 h
        refine g_mask [false, false, false] ?_
        obtain rfl := Option.some.inj h
        exact hX1 σ3 (lpR hk1).symm
      · have h := ifF c4 h
        refine g_aload_n C dX8_isOver_9 rfl ?_
        refine g_getI (j := 18) C dX8_isOver_10 ta1 (Nat.le_of_ble_eq_true rfl) (Nat.le_of_ble_eq_true rfl) fl_8_128 rfl rfl (fun i5 => ?_)
        refine g_iconst C dX8_isOver_13 ?_
        refine g_icmp_ne C dX8_isOver_14 i5 (by decide) rfl (tgt := 33) (fun c6 => ?_) (fun c6 => ?_)
        · have h := ifF c6 h
          refine g_mask [false, false, false] ?_
          obtain rfl := Option.some.inj h
          exact hX1 σ3 (lpR hk1).symm
        · have h := ifT c6 h
          refine g_aload_n C dX8_isOver_17 rfl ?_
          refine g_aload_n C dX8_isOver_18 rfl ?_
          obtain ⟨⟨x7, σ8⟩, qx7, h⟩ := bnd h
          refine g_callV1 (As := [rv w a1]) C dX8_isOver_19 mi_X8_passesEnd ml_8_194 (ct_X8_passesEnd ta1 qx7) rfl rfl ⟨rfl, rfl⟩ ⟨Nat.le_of_ble_eq_true rfl, Nat.le_of_ble_eq_true rfl⟩ ⟨Nat.zero_le _, Nat.zero_le _⟩ rfl (Nat.le_of_ble_eq_true rfl) (fun ix7 => ?_)
          refine g_if_ne C dX8_isOver_22 (zI ix7) rfl (tgt := 27) (fun c9 => ?_) (fun c9 => ?_)
          · have h := ifF c9 h
            refine g_iinc (L1 := [some (rv w 129), some (rv w a1), some (iv (wr (x2 + 1)))]) C dX8_isOver_27 rfl rfl (Nat.le_of_ble_eq_true rfl) rfl ?_
            refine g_goto C dX8_isOver_30 rfl (tgt := 2) ?_
            obtain rfl := Option.some.inj h
            exact ih1 _ _ (iwr _) (lpL hk1)
          · have h := ifT c9 h
            refine g_iconst C dX8_isOver_25 ?_
            obtain rfl := Option.some.inj h
            have e1 := (lpR hk1).symm
            subst e1
            have h := hF1
            exact g_zretP C dX8_isOver_26 hr hlk h (Or.inl rfl)
  exact hL1 FU _ _ (by decide) hb1
theorem dX8_goTo_0 : decode cX8_goTo 0 = .ok (.iload_n 2, 1) := by decide +kernel
theorem dX8_goTo_1 : decode cX8_goTo 1 = .ok (.aload_n 1, 1) := by decide +kernel
theorem dX8_goTo_2 : decode cX8_goTo 2 = .ok (.getfield 121, 3) := by decide +kernel
theorem dX8_goTo_5 : decode cX8_goTo 5 = .ok (.if_icmp .eq 19, 3) := by decide +kernel
theorem dX8_goTo_8 : decode cX8_goTo 8 = .ok (.aload_n 0, 1) := by decide +kernel
theorem dX8_goTo_9 : decode cX8_goTo 9 = .ok (.getfield 29, 3) := by decide +kernel
theorem dX8_goTo_12 : decode cX8_goTo 12 = .ok (.aload_n 1, 1) := by decide +kernel
theorem dX8_goTo_13 : decode cX8_goTo 13 = .ok (.getfield 121, 3) := by decide +kernel
theorem dX8_goTo_16 : decode cX8_goTo 16 = .ok (.iload_n 2, 1) := by decide +kernel
theorem dX8_goTo_17 : decode cX8_goTo 17 = .ok (.invokevirtual 153, 3) := by decide +kernel
theorem dX8_goTo_20 : decode cX8_goTo 20 = .ok (.iconst (-1), 1) := by decide +kernel
theorem dX8_goTo_21 : decode cX8_goTo 21 = .ok (.if_icmp .ne 5, 3) := by decide +kernel
theorem dX8_goTo_24 : decode cX8_goTo 24 = .ok (.iconst 0, 1) := by decide +kernel
theorem dX8_goTo_25 : decode cX8_goTo 25 = .ok (.ireturn, 1) := by decide +kernel
theorem dX8_goTo_26 : decode cX8_goTo 26 = .ok (.aload_n 1, 1) := by decide +kernel
theorem dX8_goTo_27 : decode cX8_goTo 27 = .ok (.iload_n 2, 1) := by decide +kernel
theorem dX8_goTo_28 : decode cX8_goTo 28 = .ok (.putfield 118, 3) := by decide +kernel
theorem dX8_goTo_31 : decode cX8_goTo 31 = .ok (.aload_n 0, 1) := by decide +kernel
theorem dX8_goTo_32 : decode cX8_goTo 32 = .ok (.aload_n 1, 1) := by decide +kernel
theorem dX8_goTo_33 : decode cX8_goTo 33 = .ok (.invokevirtual 124, 3) := by decide +kernel
theorem dX8_goTo_36 : decode cX8_goTo 36 = .ok (.aload_n 1, 1) := by decide +kernel
theorem dX8_goTo_37 : decode cX8_goTo 37 = .ok (.getfield 115, 3) := by decide +kernel
theorem dX8_goTo_40 : decode cX8_goTo 40 = .ok (.iconst (-1), 1) := by decide +kernel
theorem dX8_goTo_41 : decode cX8_goTo 41 = .ok (.if_icmp .eq 7, 3) := by decide +kernel
theorem dX8_goTo_44 : decode cX8_goTo 44 = .ok (.iconst 1, 1) := by decide +kernel
theorem dX8_goTo_45 : decode cX8_goTo 45 = .ok (.goto 4, 3) := by decide +kernel
theorem dX8_goTo_48 : decode cX8_goTo 48 = .ok (.iconst 0, 1) := by decide +kernel
theorem dX8_goTo_49 : decode cX8_goTo 49 = .ok (.ireturn, 1) := by decide +kernel
abbrev rm_X8_goTo : Room := { frames := 3, cells := 0, slots := 0, locals := 71 }
set_option maxRecDepth 100000 in
set_option maxHeartbeats 4000000 in
theorem ct_X8_goTo {w : Wd} {l : Launch} {a1 : Nat} {a2 : Int} {σ : St} {y : Int} {σ' : St} (ta1 : tg a1 = 0) (ia2 : InI a2) (h : m_X8_goTo a1 a2 σ = some (y, σ')) : Ct w l yX8_goTo (Cond.code yX8_goTo cX8_goTo 3 (some .boolean) :: TB) rm_X8_goTo [rv w 129, rv w a1, iv a2] σ (some (iv y)) (InZ y) σ' := by
  refine Ct.of2 [some (rv w 129), some (rv w a1), some (iv a2)] 0 rfl pn_RX8 (Nat.le_of_ble_eq_true rfl) ?_
  intro p e s m args below meth c C hr hlk
  unfold m_X8_goTo at h
  refine g_iload_n C dX8_goTo_0 rfl ?_
  refine g_aload_n C dX8_goTo_1 rfl ?_
  refine g_getI (j := 9) C dX8_goTo_2 ta1 (Nat.le_of_ble_eq_true rfl) (Nat.le_of_ble_eq_true rfl) fl_8_121 rfl rfl (fun i1 => ?_)
  refine g_icmp_eq C dX8_goTo_5 ia2 i1 rfl (tgt := 24) (fun c2 => ?_) (fun c2 => ?_)
  · have h := ifT c2 h
    refine g_iconst C dX8_goTo_24 ?_
    exact g_zretP C dX8_goTo_25 hr hlk h (Or.inl rfl)
  · have h := ifF c2 h
    refine g_aload_n C dX8_goTo_8 rfl ?_
    refine g_getR (j := 7) C dX8_goTo_9 rfl (Nat.le_of_ble_eq_true rfl) (Nat.le_of_ble_eq_true rfl) fl_8_29 rfl rfl (r := 1) rfl ?_
    refine g_aload_n C dX8_goTo_12 rfl ?_
    refine g_getI (j := 9) C dX8_goTo_13 ta1 (Nat.le_of_ble_eq_true rfl) (Nat.le_of_ble_eq_true rfl) fl_8_121 rfl rfl (fun i3 => ?_)
    refine g_iload_n C dX8_goTo_16 rfl ?_
    obtain ⟨x4, qx4, h⟩ := bnd h
    refine g_callV1 (As := [iv (σ a1 9), iv a2]) C dX8_goTo_17 mi_X10_lengthBetween ml_8_153 (ct_X10_lengthBetween i3 ia2 qx4) rfl rfl ⟨rfl, rfl⟩ ⟨Nat.le_of_ble_eq_true rfl, Nat.le_of_ble_eq_true rfl⟩ ⟨Nat.zero_le _, Nat.zero_le _⟩ rfl (Nat.le_of_ble_eq_true rfl) (fun ix4 => ?_)
    refine g_iconst C dX8_goTo_20 ?_
    refine g_icmp_ne C dX8_goTo_21 ix4 (by decide) rfl (tgt := 26) (fun c5 => ?_) (fun c5 => ?_)
    · have h := ifF c5 h
      refine g_aload_n C dX8_goTo_26 rfl ?_
      refine g_iload_n C dX8_goTo_27 rfl ?_
      obtain ⟨σ6, qσ6, h⟩ := bnd h
      refine g_putI (j := 12) C dX8_goTo_28 ta1 (Nat.le_of_ble_eq_true rfl) (Nat.le_of_ble_eq_true rfl) fl_8_118 rfl rfl rfl rfl qσ6 ia2 ?_
      refine g_aload_n C dX8_goTo_31 rfl ?_
      refine g_aload_n C dX8_goTo_32 rfl ?_
      obtain ⟨σ7, qσ7, h⟩ := bnd h
      refine g_callV0 (As := [rv w a1]) C dX8_goTo_33 mi_X8_setOut ml_8_124 (ct_X8_setOut ta1 qσ7) rfl rfl ⟨rfl, rfl⟩ ⟨Nat.le_of_ble_eq_true rfl, Nat.le_of_ble_eq_true rfl⟩ ⟨Nat.zero_le _, Nat.zero_le _⟩ rfl (Nat.le_of_ble_eq_true rfl) (fun _ => ?_)
      refine g_aload_n C dX8_goTo_36 rfl ?_
      refine g_getI (j := 10) C dX8_goTo_37 ta1 (Nat.le_of_ble_eq_true rfl) (Nat.le_of_ble_eq_true rfl) fl_8_115 rfl rfl (fun i8 => ?_)
      refine g_iconst C dX8_goTo_40 ?_
      refine g_icmp_eq C dX8_goTo_41 i8 (by decide) rfl (tgt := 48) (fun c9 => ?_) (fun c9 => ?_)
      · have h := ifT c9 h
        refine g_iconst C dX8_goTo_48 ?_
        exact g_zretP C dX8_goTo_49 hr hlk h (Or.inl rfl)
      · have h := ifF c9 h
        refine g_iconst C dX8_goTo_44 ?_
        refine g_goto C dX8_goTo_45 rfl (tgt := 49) ?_
        exact g_zretP C dX8_goTo_49 hr hlk h (Or.inr rfl)
    · have h := ifT c5 h
      refine g_iconst C dX8_goTo_24 ?_
      exact g_zretP C dX8_goTo_25 hr hlk h (Or.inl rfl)
theorem dX8_noteMeeting_0 : decode cX8_noteMeeting 0 = .ok (.aload_n 0, 1) := by decide +kernel
theorem dX8_noteMeeting_1 : decode cX8_noteMeeting 1 = .ok (.iload_n 1, 1) := by decide +kernel
theorem dX8_noteMeeting_2 : decode cX8_noteMeeting 2 = .ok (.invokevirtual 108, 3) := by decide +kernel
theorem dX8_noteMeeting_5 : decode cX8_noteMeeting 5 = .ok (.ifCond .eq 47, 3) := by decide +kernel
theorem dX8_noteMeeting_8 : decode cX8_noteMeeting 8 = .ok (.aload_n 0, 1) := by decide +kernel
theorem dX8_noteMeeting_9 : decode cX8_noteMeeting 9 = .ok (.iload_n 2, 1) := by decide +kernel
theorem dX8_noteMeeting_10 : decode cX8_noteMeeting 10 = .ok (.invokevirtual 108, 3) := by decide +kernel
theorem dX8_noteMeeting_13 : decode cX8_noteMeeting 13 = .ok (.ifCond .eq 39, 3) := by decide +kernel
theorem dX8_noteMeeting_16 : decode cX8_noteMeeting 16 = .ok (.aload_n 0, 1) := by decide +kernel
theorem dX8_noteMeeting_17 : decode cX8_noteMeeting 17 = .ok (.getfield 20, 3) := by decide +kernel
theorem dX8_noteMeeting_20 : decode cX8_noteMeeting 20 = .ok (.iload_n 1, 1) := by decide +kernel
theorem dX8_noteMeeting_21 : decode cX8_noteMeeting 21 = .ok (.aaload, 1) := by decide +kernel
theorem dX8_noteMeeting_22 : decode cX8_noteMeeting 22 = .ok (.iload_n 2, 1) := by decide +kernel
theorem dX8_noteMeeting_23 : decode cX8_noteMeeting 23 = .ok (.iaload, 1) := by decide +kernel
theorem dX8_noteMeeting_24 : decode cX8_noteMeeting 24 = .ok (.iconst (-1), 1) := by decide +kernel
theorem dX8_noteMeeting_25 : decode cX8_noteMeeting 25 = .ok (.if_icmp .ne 27, 3) := by decide +kernel
theorem dX8_noteMeeting_28 : decode cX8_noteMeeting 28 = .ok (.aload_n 0, 1) := by decide +kernel
theorem dX8_noteMeeting_29 : decode cX8_noteMeeting 29 = .ok (.getfield 20, 3) := by decide +kernel
theorem dX8_noteMeeting_32 : decode cX8_noteMeeting 32 = .ok (.iload_n 1, 1) := by decide +kernel
theorem dX8_noteMeeting_33 : decode cX8_noteMeeting 33 = .ok (.aaload, 1) := by decide +kernel
theorem dX8_noteMeeting_34 : decode cX8_noteMeeting 34 = .ok (.iload_n 2, 1) := by decide +kernel
theorem dX8_noteMeeting_35 : decode cX8_noteMeeting 35 = .ok (.aload_n 0, 1) := by decide +kernel
theorem dX8_noteMeeting_36 : decode cX8_noteMeeting 36 = .ok (.getfield 77, 3) := by decide +kernel
theorem dX8_noteMeeting_39 : decode cX8_noteMeeting 39 = .ok (.iastore, 1) := by decide +kernel
theorem dX8_noteMeeting_40 : decode cX8_noteMeeting 40 = .ok (.aload_n 0, 1) := by decide +kernel
theorem dX8_noteMeeting_41 : decode cX8_noteMeeting 41 = .ok (.getfield 20, 3) := by decide +kernel
theorem dX8_noteMeeting_44 : decode cX8_noteMeeting 44 = .ok (.iload_n 2, 1) := by decide +kernel
theorem dX8_noteMeeting_45 : decode cX8_noteMeeting 45 = .ok (.aaload, 1) := by decide +kernel
theorem dX8_noteMeeting_46 : decode cX8_noteMeeting 46 = .ok (.iload_n 1, 1) := by decide +kernel
theorem dX8_noteMeeting_47 : decode cX8_noteMeeting 47 = .ok (.aload_n 0, 1) := by decide +kernel
theorem dX8_noteMeeting_48 : decode cX8_noteMeeting 48 = .ok (.getfield 77, 3) := by decide +kernel
theorem dX8_noteMeeting_51 : decode cX8_noteMeeting 51 = .ok (.iastore, 1) := by decide +kernel
theorem dX8_noteMeeting_52 : decode cX8_noteMeeting 52 = .ok (.return_, 1) := by decide +kernel
abbrev rm_X8_noteMeeting : Room := { frames := 1, cells := 0, slots := 0, locals := 21 }
set_option maxRecDepth 100000 in
set_option maxHeartbeats 4000000 in
theorem ct_X8_noteMeeting {w : Wd} {l : Launch} {a1 : Int} {a2 : Int} {σ : St} {σ' : St} (ia1 : InI a1) (ia2 : InI a2) (h : m_X8_noteMeeting a1 a2 σ = some σ') : Ct w l yX8_noteMeeting (Cond.code yX8_noteMeeting cX8_noteMeeting 3 none :: TB) rm_X8_noteMeeting [rv w 129, iv a1, iv a2] σ none True σ' := by
  refine Ct.of2 [some (rv w 129), some (iv a1), some (iv a2)] 0 rfl pn_RX8 (Nat.le_of_ble_eq_true rfl) ?_
  intro p e s m args below meth c C hr hlk
  unfold m_X8_noteMeeting at h
  refine g_aload_n C dX8_noteMeeting_0 rfl ?_
  refine g_iload_n C dX8_noteMeeting_1 rfl ?_
  obtain ⟨x1, qx1, h⟩ := bnd h
  refine g_callV1 (As := [iv a1]) C dX8_noteMeeting_2 mi_X8_isAgent ml_8_108 (ct_X8_isAgent ia1 qx1) rfl rfl ⟨rfl, rfl⟩ ⟨Nat.le_of_ble_eq_true rfl, Nat.le_of_ble_eq_true rfl⟩ ⟨Nat.zero_le _, Nat.zero_le _⟩ rfl (Nat.le_of_ble_eq_true rfl) (fun ix1 => ?_)
  refine g_if_eq C dX8_noteMeeting_5 (zI ix1) rfl (tgt := 52) (fun c2 => ?_) (fun c2 => ?_)
  · have h := ifT c2 h
    exact g_vretP C dX8_noteMeeting_52 hr hlk h
  · have h := ifF c2 h
    refine g_aload_n C dX8_noteMeeting_8 rfl ?_
    refine g_iload_n C dX8_noteMeeting_9 rfl ?_
    obtain ⟨x3, qx3, h⟩ := bnd h
    refine g_callV1 (As := [iv a2]) C dX8_noteMeeting_10 mi_X8_isAgent ml_8_108 (ct_X8_isAgent ia2 qx3) rfl rfl ⟨rfl, rfl⟩ ⟨Nat.le_of_ble_eq_true rfl, Nat.le_of_ble_eq_true rfl⟩ ⟨Nat.zero_le _, Nat.zero_le _⟩ rfl (Nat.le_of_ble_eq_true rfl) (fun ix3 => ?_)
    refine g_if_eq C dX8_noteMeeting_13 (zI ix3) rfl (tgt := 52) (fun c4 => ?_) (fun c4 => ?_)
    · have h := ifT c4 h
      exact g_vretP C dX8_noteMeeting_52 hr hlk h
    · have h := ifF c4 h
      refine g_aload_n C dX8_noteMeeting_16 rfl ?_
      refine g_getR (j := 4) C dX8_noteMeeting_17 rfl (Nat.le_of_ble_eq_true rfl) (Nat.le_of_ble_eq_true rfl) fl_8_20 rfl rfl (r := 132) rfl ?_
      refine g_iload_n C dX8_noteMeeting_20 rfl ?_
      obtain ⟨k5, qk5, h⟩ := bnd h
      refine g_aalI C dX8_noteMeeting_21 rfl rfl qk5 ia1 ?_
      refine g_iload_n C dX8_noteMeeting_22 rfl ?_
      obtain ⟨x6, qx6, h⟩ := bnd h
      refine g_iald C dX8_noteMeeting_23 (rrB_132 qk5).1 (rrB_132 qk5).2 qx6 ia2 (fun ix6 => ?_)
      refine g_iconst C dX8_noteMeeting_24 ?_
      refine g_icmp_ne C dX8_noteMeeting_25 ix6 (by decide) rfl (tgt := 52) (fun c7 => ?_) (fun c7 => ?_)
      · have h := ifF c7 h
        exact g_vretP C dX8_noteMeeting_52 hr hlk h
      · have h := ifT c7 h
        refine g_aload_n C dX8_noteMeeting_28 rfl ?_
        refine g_getR (j := 4) C dX8_noteMeeting_29 rfl (Nat.le_of_ble_eq_true rfl) (Nat.le_of_ble_eq_true rfl) fl_8_20 rfl rfl (r := 132) rfl ?_
        refine g_iload_n C dX8_noteMeeting_32 rfl ?_
        obtain ⟨k8, qk8, h⟩ := bnd h
        refine g_aalI C dX8_noteMeeting_33 rfl rfl qk8 ia1 ?_
        refine g_iload_n C dX8_noteMeeting_34 rfl ?_
        refine g_aload_n C dX8_noteMeeting_35 rfl ?_
        refine g_getI (j := 12) C dX8_noteMeeting_36 rfl (Nat.le_of_ble_eq_true rfl) (Nat.le_of_ble_eq_true rfl) fl_8_77 rfl rfl (fun i9 => ?_)
        obtain ⟨σ10, qσ10, h⟩ := bnd h
        refine g_iast C dX8_noteMeeting_39 (rrB_132 qk8).1 (rrB_132 qk8).2 qσ10 ia2 i9 ?_
        refine g_aload_n C dX8_noteMeeting_40 rfl ?_
        refine g_getR (j := 4) C dX8_noteMeeting_41 rfl (Nat.le_of_ble_eq_true rfl) (Nat.le_of_ble_eq_true rfl) fl_8_20 rfl rfl (r := 132) rfl ?_
        refine g_iload_n C dX8_noteMeeting_44 rfl ?_
        obtain ⟨k11, qk11, h⟩ := bnd h
        refine g_aalI C dX8_noteMeeting_45 rfl rfl qk11 ia2 ?_
        refine g_iload_n C dX8_noteMeeting_46 rfl ?_
        refine g_aload_n C dX8_noteMeeting_47 rfl ?_
        refine g_getI (j := 12) C dX8_noteMeeting_48 rfl (Nat.le_of_ble_eq_true rfl) (Nat.le_of_ble_eq_true rfl) fl_8_77 rfl rfl (fun i12 => ?_)
        obtain ⟨σ13, qσ13, h⟩ := bnd h
        refine g_iast C dX8_noteMeeting_51 (rrB_132 qk11).1 (rrB_132 qk11).2 qσ13 ia1 i12 ?_
        exact g_vretP C dX8_noteMeeting_52 hr hlk h
theorem dX8_waitsToMeet_0 : decode cX8_waitsToMeet 0 = .ok (.iload_n 3, 1) := by decide +kernel
theorem dX8_waitsToMeet_1 : decode cX8_waitsToMeet 1 = .ok (.iload_n 1, 1) := by decide +kernel
theorem dX8_waitsToMeet_2 : decode cX8_waitsToMeet 2 = .ok (.if_icmp .eq 69, 3) := by decide +kernel
theorem dX8_waitsToMeet_5 : decode cX8_waitsToMeet 5 = .ok (.aload_n 0, 1) := by decide +kernel
theorem dX8_waitsToMeet_6 : decode cX8_waitsToMeet 6 = .ok (.iload_n 3, 1) := by decide +kernel
theorem dX8_waitsToMeet_7 : decode cX8_waitsToMeet 7 = .ok (.invokevirtual 108, 3) := by decide +kernel
theorem dX8_waitsToMeet_10 : decode cX8_waitsToMeet 10 = .ok (.ifCond .eq 61, 3) := by decide +kernel
theorem dX8_waitsToMeet_13 : decode cX8_waitsToMeet 13 = .ok (.aload_n 0, 1) := by decide +kernel
theorem dX8_waitsToMeet_14 : decode cX8_waitsToMeet 14 = .ok (.getfield 41, 3) := by decide +kernel
theorem dX8_waitsToMeet_17 : decode cX8_waitsToMeet 17 = .ok (.iload_n 3, 1) := by decide +kernel
theorem dX8_waitsToMeet_18 : decode cX8_waitsToMeet 18 = .ok (.aaload, 1) := by decide +kernel
theorem dX8_waitsToMeet_19 : decode cX8_waitsToMeet 19 = .ok (.getfield 166, 3) := by decide +kernel
theorem dX8_waitsToMeet_22 : decode cX8_waitsToMeet 22 = .ok (.iload_n 1, 1) := by decide +kernel
theorem dX8_waitsToMeet_23 : decode cX8_waitsToMeet 23 = .ok (.if_icmp .ne 48, 3) := by decide +kernel
theorem dX8_waitsToMeet_26 : decode cX8_waitsToMeet 26 = .ok (.aload_n 0, 1) := by decide +kernel
theorem dX8_waitsToMeet_27 : decode cX8_waitsToMeet 27 = .ok (.iload_n 3, 1) := by decide +kernel
theorem dX8_waitsToMeet_28 : decode cX8_waitsToMeet 28 = .ok (.invokevirtual 99, 3) := by decide +kernel
theorem dX8_waitsToMeet_31 : decode cX8_waitsToMeet 31 = .ok (.aload_n 2, 1) := by decide +kernel
theorem dX8_waitsToMeet_32 : decode cX8_waitsToMeet 32 = .ok (.getfield 121, 3) := by decide +kernel
theorem dX8_waitsToMeet_35 : decode cX8_waitsToMeet 35 = .ok (.if_icmp .ne 36, 3) := by decide +kernel
theorem dX8_waitsToMeet_38 : decode cX8_waitsToMeet 38 = .ok (.aload_n 0, 1) := by decide +kernel
theorem dX8_waitsToMeet_39 : decode cX8_waitsToMeet 39 = .ok (.getfield 41, 3) := by decide +kernel
theorem dX8_waitsToMeet_42 : decode cX8_waitsToMeet 42 = .ok (.iload_n 3, 1) := by decide +kernel
theorem dX8_waitsToMeet_43 : decode cX8_waitsToMeet 43 = .ok (.aaload, 1) := by decide +kernel
theorem dX8_waitsToMeet_44 : decode cX8_waitsToMeet 44 = .ok (.iconst (-1), 1) := by decide +kernel
theorem dX8_waitsToMeet_45 : decode cX8_waitsToMeet 45 = .ok (.putfield 166, 3) := by decide +kernel
theorem dX8_waitsToMeet_48 : decode cX8_waitsToMeet 48 = .ok (.aload_n 0, 1) := by decide +kernel
theorem dX8_waitsToMeet_49 : decode cX8_waitsToMeet 49 = .ok (.getfield 41, 3) := by decide +kernel
theorem dX8_waitsToMeet_52 : decode cX8_waitsToMeet 52 = .ok (.iload_n 3, 1) := by decide +kernel
theorem dX8_waitsToMeet_53 : decode cX8_waitsToMeet 53 = .ok (.aaload, 1) := by decide +kernel
theorem dX8_waitsToMeet_54 : decode cX8_waitsToMeet 54 = .ok (.iload_n 1, 1) := by decide +kernel
theorem dX8_waitsToMeet_55 : decode cX8_waitsToMeet 55 = .ok (.putfield 159, 3) := by decide +kernel
theorem dX8_waitsToMeet_58 : decode cX8_waitsToMeet 58 = .ok (.aload_n 0, 1) := by decide +kernel
theorem dX8_waitsToMeet_59 : decode cX8_waitsToMeet 59 = .ok (.iload_n 1, 1) := by decide +kernel
theorem dX8_waitsToMeet_60 : decode cX8_waitsToMeet 60 = .ok (.iload_n 3, 1) := by decide +kernel
theorem dX8_waitsToMeet_61 : decode cX8_waitsToMeet 61 = .ok (.invokevirtual 243, 3) := by decide +kernel
theorem dX8_waitsToMeet_64 : decode cX8_waitsToMeet 64 = .ok (.aload_n 2, 1) := by decide +kernel
theorem dX8_waitsToMeet_65 : decode cX8_waitsToMeet 65 = .ok (.iload_n 3, 1) := by decide +kernel
theorem dX8_waitsToMeet_66 : decode cX8_waitsToMeet 66 = .ok (.invokestatic 162, 3) := by decide +kernel
theorem dX8_waitsToMeet_69 : decode cX8_waitsToMeet 69 = .ok (.iconst 0, 1) := by decide +kernel
theorem dX8_waitsToMeet_70 : decode cX8_waitsToMeet 70 = .ok (.ireturn, 1) := by decide +kernel
theorem dX8_waitsToMeet_71 : decode cX8_waitsToMeet 71 = .ok (.iload 4, 2) := by decide +kernel
theorem dX8_waitsToMeet_73 : decode cX8_waitsToMeet 73 = .ok (.ifCond .gt 17, 3) := by decide +kernel
theorem dX8_waitsToMeet_76 : decode cX8_waitsToMeet 76 = .ok (.aload_n 2, 1) := by decide +kernel
theorem dX8_waitsToMeet_77 : decode cX8_waitsToMeet 77 = .ok (.aload_n 0, 1) := by decide +kernel
theorem dX8_waitsToMeet_78 : decode cX8_waitsToMeet 78 = .ok (.aload_n 2, 1) := by decide +kernel
theorem dX8_waitsToMeet_79 : decode cX8_waitsToMeet 79 = .ok (.getfield 172, 3) := by decide +kernel
theorem dX8_waitsToMeet_82 : decode cX8_waitsToMeet 82 = .ok (.invokevirtual 175, 3) := by decide +kernel
theorem dX8_waitsToMeet_85 : decode cX8_waitsToMeet 85 = .ok (.putfield 172, 3) := by decide +kernel
theorem dX8_waitsToMeet_88 : decode cX8_waitsToMeet 88 = .ok (.iconst 0, 1) := by decide +kernel
theorem dX8_waitsToMeet_89 : decode cX8_waitsToMeet 89 = .ok (.ireturn, 1) := by decide +kernel
theorem dX8_waitsToMeet_90 : decode cX8_waitsToMeet 90 = .ok (.aload_n 2, 1) := by decide +kernel
theorem dX8_waitsToMeet_91 : decode cX8_waitsToMeet 91 = .ok (.iload_n 3, 1) := by decide +kernel
theorem dX8_waitsToMeet_92 : decode cX8_waitsToMeet 92 = .ok (.putfield 166, 3) := by decide +kernel
theorem dX8_waitsToMeet_95 : decode cX8_waitsToMeet 95 = .ok (.aload_n 2, 1) := by decide +kernel
theorem dX8_waitsToMeet_96 : decode cX8_waitsToMeet 96 = .ok (.aload_n 0, 1) := by decide +kernel
theorem dX8_waitsToMeet_97 : decode cX8_waitsToMeet 97 = .ok (.getfield 77, 3) := by decide +kernel
theorem dX8_waitsToMeet_100 : decode cX8_waitsToMeet 100 = .ok (.iload 4, 2) := by decide +kernel
theorem dX8_waitsToMeet_102 : decode cX8_waitsToMeet 102 = .ok (.iadd, 1) := by decide +kernel
theorem dX8_waitsToMeet_103 : decode cX8_waitsToMeet 103 = .ok (.putfield 169, 3) := by decide +kernel
theorem dX8_waitsToMeet_106 : decode cX8_waitsToMeet 106 = .ok (.iconst 1, 1) := by decide +kernel
theorem dX8_waitsToMeet_107 : decode cX8_waitsToMeet 107 = .ok (.ireturn, 1) := by decide +kernel
abbrev rm_X8_waitsToMeet : Room := { frames := 2, cells := 0, slots := 0, locals := 43 }
set_option maxRecDepth 100000 in
set_option maxHeartbeats 4000000 in
theorem ct_X8_waitsToMeet {w : Wd} {l : Launch} {a1 : Int} {a2 : Nat} {a3 : Int} {a4 : Int} {σ : St} {y : Int} {σ' : St} (ia1 : InI a1) (ta2 : tg a2 = 0) (ia3 : InI a3) (ia4 : InI a4) (h : m_X8_waitsToMeet a1 a2 a3 a4 σ = some (y, σ')) : Ct w l yX8_waitsToMeet (Cond.code yX8_waitsToMeet cX8_waitsToMeet 5 (some .boolean) :: TB) rm_X8_waitsToMeet [rv w 129, iv a1, rv w a2, iv a3, iv a4] σ (some (iv y)) (InZ y) σ' := by
  refine Ct.of2 [some (rv w 129), some (iv a1), some (rv w a2), some (iv a3), some (iv a4)] 0 rfl pn_RX8 (Nat.le_of_ble_eq_true rfl) ?_
  intro p e s m args below meth c C hr hlk
  unfold m_X8_waitsToMeet at h
  refine g_iload_n C dX8_waitsToMeet_0 rfl ?_
  refine g_iload_n C dX8_waitsToMeet_1 rfl ?_
  have hJ71_23 : m_X8_waitsToMeet_J71 a4 σ a2 a3 = some (y, σ') → GM w p l e rm_X8_waitsToMeet s m args below meth c (some (iv y)) (InZ y) σ' 5 71 [some (rv w 129), none, some (rv w a2), some (iv a3), some (iv a4)] [] σ := by
    intro h
    unfold m_X8_waitsToMeet_J71 at h
    refine g_iload C dX8_waitsToMeet_71 rfl ?_
    refine g_if_gt C dX8_waitsToMeet_73 ia4 rfl (tgt := 90) (fun c16 => ?_) (fun c16 => ?_)
    · have h := ifT c16 h
      refine g_aload_n C dX8_waitsToMeet_90 rfl ?_
      refine g_iload_n C dX8_waitsToMeet_91 rfl ?_
      obtain ⟨σ17, qσ17, h⟩ := bnd h
      refine g_putI (j := 6) C dX8_waitsToMeet_92 ta2 (Nat.le_of_ble_eq_true rfl) (Nat.le_of_ble_eq_true rfl) fl_8_166 rfl rfl rfl rfl qσ17 ia3 ?_
      refine g_aload_n C dX8_waitsToMeet_95 rfl ?_
      refine g_aload_n C dX8_waitsToMeet_96 rfl ?_
      refine g_getI (j := 12) C dX8_waitsToMeet_97 rfl (Nat.le_of_ble_eq_true rfl) (Nat.le_of_ble_eq_true rfl) fl_8_77 rfl rfl (fun i18 => ?_)
      refine g_iload C dX8_waitsToMeet_100 rfl ?_
      refine g_iadd C dX8_waitsToMeet_102 ?_
      obtain ⟨σ19, qσ19, h⟩ := bnd h
      refine g_putI (j := 7) C dX8_waitsToMeet_103 ta2 (Nat.le_of_ble_eq_true rfl) (Nat.le_of_ble_eq_true rfl) fl_8_169 rfl rfl rfl rfl qσ19 (iwr _) ?_
      refine g_iconst C dX8_waitsToMeet_106 ?_
      exact g_zretP C dX8_waitsToMeet_107 hr hlk h (Or.inr rfl)
    · have h := ifF c16 h
      refine g_aload_n C dX8_waitsToMeet_76 rfl ?_
      refine g_aload_n C dX8_waitsToMeet_77 rfl ?_
      refine g_aload_n C dX8_waitsToMeet_78 rfl ?_
      refine g_getI (j := 4) C dX8_waitsToMeet_79 ta2 (Nat.le_of_ble_eq_true rfl) (Nat.le_of_ble_eq_true rfl) fl_8_172 rfl rfl (fun i20 => ?_)
      obtain ⟨x21, qx21, h⟩ := bnd h
      refine g_callV1 (As := [iv (σ a2 4)]) C dX8_waitsToMeet_82 mi_X8_targetOf ml_8_175 (ct_X8_targetOf i20 qx21) rfl rfl ⟨rfl, rfl⟩ ⟨Nat.le_of_ble_eq_true rfl, Nat.le_of_ble_eq_true rfl⟩ ⟨Nat.zero_le _, Nat.zero_le _⟩ rfl (Nat.le_of_ble_eq_true rfl) (fun ix21 => ?_)
      obtain ⟨σ22, qσ22, h⟩ := bnd h
      refine g_putI (j := 4) C dX8_waitsToMeet_85 ta2 (Nat.le_of_ble_eq_true rfl) (Nat.le_of_ble_eq_true rfl) fl_8_172 rfl rfl rfl rfl qσ22 ix21 ?_
      refine g_iconst C dX8_waitsToMeet_88 ?_
      exact g_zretP C dX8_waitsToMeet_89 hr hlk h (Or.inl rfl)
  refine g_icmp_eq C dX8_waitsToMeet_2 ia3 ia1 rfl (tgt := 71) (fun c1 => ?_) (fun c1 => ?_)
  · have h := ifT c1 h
    refine g_mask [true, false, true, true, true] ?_
    exact hJ71_23  h
  · have h := ifF c1 h
    refine g_aload_n C dX8_waitsToMeet_5 rfl ?_
    refine g_iload_n C dX8_waitsToMeet_6 rfl ?_
    obtain ⟨x2, qx2, h⟩ := bnd h
    refine g_callV1 (As := [iv a3]) C dX8_waitsToMeet_7 mi_X8_isAgent ml_8_108 (ct_X8_isAgent ia3 qx2) rfl rfl ⟨rfl, rfl⟩ ⟨Nat.le_of_ble_eq_true rfl, Nat.le_of_ble_eq_true rfl⟩ ⟨Nat.zero_le _, Nat.zero_le _⟩ rfl (Nat.le_of_ble_eq_true rfl) (fun ix2 => ?_)
    refine g_if_eq C dX8_waitsToMeet_10 (zI ix2) rfl (tgt := 71) (fun c3 => ?_) (fun c3 => ?_)
    · have h := ifT c3 h
      refine g_mask [true, false, true, true, true] ?_
      exact hJ71_23  h
    · have h := ifF c3 h
      refine g_aload_n C dX8_waitsToMeet_13 rfl ?_
      refine g_getR (j := 10) C dX8_waitsToMeet_14 rfl (Nat.le_of_ble_eq_true rfl) (Nat.le_of_ble_eq_true rfl) fl_8_41 rfl rfl (r := 38) rfl ?_
      refine g_iload_n C dX8_waitsToMeet_17 rfl ?_
      obtain ⟨k4, qk4, h⟩ := bnd h
      refine g_aald C dX8_waitsToMeet_18 rfl rfl qk4 ia3 ?_
      refine g_getI (j := 6) C dX8_waitsToMeet_19 (rrB_38 qk4) (Nat.le_of_ble_eq_true rfl) (Nat.le_of_ble_eq_true rfl) fl_8_166 rfl rfl (fun i5 => ?_)
      refine g_iload_n C dX8_waitsToMeet_22 rfl ?_
      refine g_icmp_ne C dX8_waitsToMeet_23 i5 ia1 rfl (tgt := 71) (fun c6 => ?_) (fun c6 => ?_)
      · have h := ifF c6 h
        refine g_mask [true, false, true, true, true] ?_
        exact hJ71_23  h
      · have h := ifT c6 h
        refine g_aload_n C dX8_waitsToMeet_26 rfl ?_
        refine g_iload_n C dX8_waitsToMeet_27 rfl ?_
        obtain ⟨x7, qx7, h⟩ := bnd h
        refine g_callV1 (As := [iv a3]) C dX8_waitsToMeet_28 mi_X8_placeOf ml_8_99 (ct_X8_placeOf ia3 qx7) rfl rfl ⟨rfl, rfl⟩ ⟨Nat.le_of_ble_eq_true rfl, Nat.le_of_ble_eq_true rfl⟩ ⟨Nat.zero_le _, Nat.zero_le _⟩ rfl (Nat.le_of_ble_eq_true rfl) (fun ix7 => ?_)
        refine g_aload_n C dX8_waitsToMeet_31 rfl ?_
        refine g_getI (j := 9) C dX8_waitsToMeet_32 ta2 (Nat.le_of_ble_eq_true rfl) (Nat.le_of_ble_eq_true rfl) fl_8_121 rfl rfl (fun i8 => ?_)
        refine g_icmp_ne C dX8_waitsToMeet_35 ix7 i8 rfl (tgt := 71) (fun c9 => ?_) (fun c9 => ?_)
        · have h := ifF c9 h
          refine g_mask [true, false, true, true, true] ?_
          exact hJ71_23  h
        · have h := ifT c9 h
          refine g_aload_n C dX8_waitsToMeet_38 rfl ?_
          refine g_getR (j := 10) C dX8_waitsToMeet_39 rfl (Nat.le_of_ble_eq_true rfl) (Nat.le_of_ble_eq_true rfl) fl_8_41 rfl rfl (r := 38) rfl ?_
          refine g_iload_n C dX8_waitsToMeet_42 rfl ?_
          obtain ⟨k10, qk10, h⟩ := bnd h
          refine g_aald C dX8_waitsToMeet_43 rfl rfl qk10 ia3 ?_
          refine g_iconst C dX8_waitsToMeet_44 ?_
          obtain ⟨σ11, qσ11, h⟩ := bnd h
          refine g_putI (j := 6) C dX8_waitsToMeet_45 (rrB_38 qk10) (Nat.le_of_ble_eq_true rfl) (Nat.le_of_ble_eq_true rfl) fl_8_166 rfl rfl rfl rfl qσ11 (by decide) ?_
          refine g_aload_n C dX8_waitsToMeet_48 rfl ?_
          refine g_getR (j := 10) C dX8_waitsToMeet_49 rfl (Nat.le_of_ble_eq_true rfl) (Nat.le_of_ble_eq_true rfl) fl_8_41 rfl rfl (r := 38) rfl ?_
          refine g_iload_n C dX8_waitsToMeet_52 rfl ?_
          obtain ⟨k12, qk12, h⟩ := bnd h
          refine g_aald C dX8_waitsToMeet_53 rfl rfl qk12 ia3 ?_
          refine g_iload_n C dX8_waitsToMeet_54 rfl ?_
          obtain ⟨σ13, qσ13, h⟩ := bnd h
          refine g_putI (j := 8) C dX8_waitsToMeet_55 (rrB_38 qk12) (Nat.le_of_ble_eq_true rfl) (Nat.le_of_ble_eq_true rfl) fl_8_159 rfl rfl rfl rfl qσ13 ia1 ?_
          refine g_aload_n C dX8_waitsToMeet_58 rfl ?_
          refine g_iload_n C dX8_waitsToMeet_59 rfl ?_
          refine g_iload_n C dX8_waitsToMeet_60 rfl ?_
          obtain ⟨σ14, qσ14, h⟩ := bnd h
          refine g_callV0 (As := [iv a1, iv a3]) C dX8_waitsToMeet_61 mi_X8_noteMeeting ml_8_243 (ct_X8_noteMeeting ia1 ia3 qσ14) rfl rfl ⟨rfl, rfl⟩ ⟨Nat.le_of_ble_eq_true rfl, Nat.le_of_ble_eq_true rfl⟩ ⟨Nat.zero_le _, Nat.zero_le _⟩ rfl (Nat.le_of_ble_eq_true rfl) (fun _ => ?_)
          refine g_aload_n C dX8_waitsToMeet_64 rfl ?_
          refine g_iload_n C dX8_waitsToMeet_65 rfl ?_
          obtain ⟨σ15, qσ15, h⟩ := bnd h
          refine g_callS0 (As := [rv w a2, iv a3]) C dX8_waitsToMeet_66 mi_X8_beginFirstDeeds ml_8_162 (ct_X8_beginFirstDeeds ta2 ia3 qσ15) rfl ⟨rfl, rfl⟩ ⟨Nat.le_of_ble_eq_true rfl, Nat.le_of_ble_eq_true rfl⟩ ⟨Nat.zero_le _, Nat.zero_le _⟩ rfl (Nat.le_of_ble_eq_true rfl) (fun _ => ?_)
          refine g_iconst C dX8_waitsToMeet_69 ?_
          exact g_zretP C dX8_waitsToMeet_70 hr hlk h (Or.inl rfl)
theorem dX8_beginLoop_0 : decode cX8_beginLoop 0 = .ok (.iload_n 2, 1) := by decide +kernel
theorem dX8_beginLoop_1 : decode cX8_beginLoop 1 = .ok (.ifCond .gt 18, 3) := by decide +kernel
theorem dX8_beginLoop_4 : decode cX8_beginLoop 4 = .ok (.aload_n 1, 1) := by decide +kernel
theorem dX8_beginLoop_5 : decode cX8_beginLoop 5 = .ok (.aload_n 0, 1) := by decide +kernel
theorem dX8_beginLoop_6 : decode cX8_beginLoop 6 = .ok (.aload_n 1, 1) := by decide +kernel
theorem dX8_beginLoop_7 : decode cX8_beginLoop 7 = .ok (.getfield 172, 3) := by decide +kernel
theorem dX8_beginLoop_10 : decode cX8_beginLoop 10 = .ok (.invokevirtual 175, 3) := by decide +kernel
theorem dX8_beginLoop_13 : decode cX8_beginLoop 13 = .ok (.putfield 172, 3) := by decide +kernel
theorem dX8_beginLoop_16 : decode cX8_beginLoop 16 = .ok (.goto 25, 3) := by decide +kernel
theorem dX8_beginLoop_19 : decode cX8_beginLoop 19 = .ok (.aload_n 1, 1) := by decide +kernel
theorem dX8_beginLoop_20 : decode cX8_beginLoop 20 = .ok (.getfield 178, 3) := by decide +kernel
theorem dX8_beginLoop_23 : decode cX8_beginLoop 23 = .ok (.bipush 13, 2) := by decide +kernel
theorem dX8_beginLoop_25 : decode cX8_beginLoop 25 = .ok (.iload_n 2, 1) := by decide +kernel
theorem dX8_beginLoop_26 : decode cX8_beginLoop 26 = .ok (.iconst 1, 1) := by decide +kernel
theorem dX8_beginLoop_27 : decode cX8_beginLoop 27 = .ok (.isub, 1) := by decide +kernel
theorem dX8_beginLoop_28 : decode cX8_beginLoop 28 = .ok (.invokevirtual 182, 3) := by decide +kernel
theorem dX8_beginLoop_31 : decode cX8_beginLoop 31 = .ok (.aload_n 1, 1) := by decide +kernel
theorem dX8_beginLoop_32 : decode cX8_beginLoop 32 = .ok (.dup, 1) := by decide +kernel
theorem dX8_beginLoop_33 : decode cX8_beginLoop 33 = .ok (.getfield 172, 3) := by decide +kernel
theorem dX8_beginLoop_36 : decode cX8_beginLoop 36 = .ok (.iconst 1, 1) := by decide +kernel
theorem dX8_beginLoop_37 : decode cX8_beginLoop 37 = .ok (.iadd, 1) := by decide +kernel
theorem dX8_beginLoop_38 : decode cX8_beginLoop 38 = .ok (.putfield 172, 3) := by decide +kernel
theorem dX8_beginLoop_41 : decode cX8_beginLoop 41 = .ok (.return_, 1) := by decide +kernel
abbrev rm_X8_beginLoop : Room := { frames := 2, cells := 0, slots := 0, locals := 42 }
set_option maxRecDepth 100000 in
set_option maxHeartbeats 4000000 in
theorem ct_X8_beginLoop {w : Wd} {l : Launch} {a1 : Nat} {a2 : Int} {σ : St} {σ' : St} (ta1 : tg a1 = 0) (ia2 : InI a2) (h : m_X8_beginLoop a1 a2 σ = some σ') : Ct w l yX8_beginLoop (Cond.code yX8_beginLoop cX8_beginLoop 3 none :: TB) rm_X8_beginLoop [rv w 129, rv w a1, iv a2] σ none True σ' := by
  refine Ct.of2 [some (rv w 129), some (rv w a1), some (iv a2)] 0 rfl pn_RX8 (Nat.le_of_ble_eq_true rfl) ?_
  intro p e s m args below meth c C hr hlk
  unfold m_X8_beginLoop at h
  refine g_iload_n C dX8_beginLoop_0 rfl ?_
  refine g_if_gt C dX8_beginLoop_1 ia2 rfl (tgt := 19) (fun c1 => ?_) (fun c1 => ?_)
  · have h := ifT c1 h
    refine g_aload_n C dX8_beginLoop_19 rfl ?_
    refine g_getR (j := 3) C dX8_beginLoop_20 ta1 (Nat.le_of_ble_eq_true rfl) (Nat.le_of_ble_eq_true rfl) fl_8_178 rfl rfl (r := (a1 + 1)) (shR_0_3 ta1) ?_
    refine g_bipush C dX8_beginLoop_23 rfl ?_
    refine g_iload_n C dX8_beginLoop_25 rfl ?_
    refine g_iconst C dX8_beginLoop_26 ?_
    refine g_isub C dX8_beginLoop_27 ?_
    obtain ⟨σ2, qσ2, h⟩ := bnd h
    refine g_callV0 (As := [iv 13, iv (wr (a2 - 1))]) C dX8_beginLoop_28 mi_X3_push ml_8_182 (ct_X3_push (shT_0_3 ta1) (by decide) (iwr _) qσ2) (shT_0_3 ta1) rfl ⟨rfl, rfl⟩ ⟨Nat.le_of_ble_eq_true rfl, Nat.le_of_ble_eq_true rfl⟩ ⟨Nat.zero_le _, Nat.zero_le _⟩ rfl (Nat.le_of_ble_eq_true rfl) (fun _ => ?_)
    refine g_aload_n C dX8_beginLoop_31 rfl ?_
    refine g_dup C dX8_beginLoop_32 rfl ?_
    refine g_getI (j := 4) C dX8_beginLoop_33 ta1 (Nat.le_of_ble_eq_true rfl) (Nat.le_of_ble_eq_true rfl) fl_8_172 rfl rfl (fun i3 => ?_)
    refine g_iconst C dX8_beginLoop_36 ?_
    refine g_iadd C dX8_beginLoop_37 ?_
    obtain ⟨σ4, qσ4, h⟩ := bnd h
    refine g_putI (j := 4) C dX8_beginLoop_38 ta1 (Nat.le_of_ble_eq_true rfl) (Nat.le_of_ble_eq_true rfl) fl_8_172 rfl rfl rfl rfl qσ4 (iwr _) ?_
    exact g_vretP C dX8_beginLoop_41 hr hlk h
  · have h := ifF c1 h
    refine g_aload_n C dX8_beginLoop_4 rfl ?_
    refine g_aload_n C dX8_beginLoop_5 rfl ?_
    refine g_aload_n C dX8_beginLoop_6 rfl ?_
    refine g_getI (j := 4) C dX8_beginLoop_7 ta1 (Nat.le_of_ble_eq_true rfl) (Nat.le_of_ble_eq_true rfl) fl_8_172 rfl rfl (fun i5 => ?_)
    obtain ⟨x6, qx6, h⟩ := bnd h
    refine g_callV1 (As := [iv (σ a1 4)]) C dX8_beginLoop_10 mi_X8_targetOf ml_8_175 (ct_X8_targetOf i5 qx6) rfl rfl ⟨rfl, rfl⟩ ⟨Nat.le_of_ble_eq_true rfl, Nat.le_of_ble_eq_true rfl⟩ ⟨Nat.zero_le _, Nat.zero_le _⟩ rfl (Nat.le_of_ble_eq_true rfl) (fun ix6 => ?_)
    obtain ⟨σ7, qσ7, h⟩ := bnd h
    refine g_putI (j := 4) C dX8_beginLoop_13 ta1 (Nat.le_of_ble_eq_true rfl) (Nat.le_of_ble_eq_true rfl) fl_8_172 rfl rfl rfl rfl qσ7 ix6 ?_
    refine g_goto C dX8_beginLoop_16 rfl (tgt := 41) ?_
    exact g_vretP C dX8_beginLoop_41 hr hlk h
theorem dX8_paperLies_0 : decode cX8_paperLies 0 = .ok (.aload_n 0, 1) := by decide +kernel
theorem dX8_paperLies_1 : decode cX8_paperLies 1 = .ok (.getfield 29, 3) := by decide +kernel
theorem dX8_paperLies_4 : decode cX8_paperLies 4 = .ok (.iload_n 1, 1) := by decide +kernel
theorem dX8_paperLies_5 : decode cX8_paperLies 5 = .ok (.invokevirtual 246, 3) := by decide +kernel
theorem dX8_paperLies_8 : decode cX8_paperLies 8 = .ok (.ifCond .eq 20, 3) := by decide +kernel
theorem dX8_paperLies_11 : decode cX8_paperLies 11 = .ok (.aload_n 0, 1) := by decide +kernel
theorem dX8_paperLies_12 : decode cX8_paperLies 12 = .ok (.getfield 15, 3) := by decide +kernel
theorem dX8_paperLies_15 : decode cX8_paperLies 15 = .ok (.iload_n 1, 1) := by decide +kernel
theorem dX8_paperLies_16 : decode cX8_paperLies 16 = .ok (.iaload, 1) := by decide +kernel
theorem dX8_paperLies_17 : decode cX8_paperLies 17 = .ok (.iload_n 2, 1) := by decide +kernel
theorem dX8_paperLies_18 : decode cX8_paperLies 18 = .ok (.ishr, 1) := by decide +kernel
theorem dX8_paperLies_19 : decode cX8_paperLies 19 = .ok (.iconst 1, 1) := by decide +kernel
theorem dX8_paperLies_20 : decode cX8_paperLies 20 = .ok (.iand, 1) := by decide +kernel
theorem dX8_paperLies_21 : decode cX8_paperLies 21 = .ok (.ifCond .eq 7, 3) := by decide +kernel
theorem dX8_paperLies_24 : decode cX8_paperLies 24 = .ok (.iconst 1, 1) := by decide +kernel
theorem dX8_paperLies_25 : decode cX8_paperLies 25 = .ok (.goto 4, 3) := by decide +kernel
theorem dX8_paperLies_28 : decode cX8_paperLies 28 = .ok (.iconst 0, 1) := by decide +kernel
theorem dX8_paperLies_29 : decode cX8_paperLies 29 = .ok (.ireturn, 1) := by decide +kernel
abbrev rm_X8_paperLies : Room := { frames := 1, cells := 0, slots := 0, locals := 21 }
set_option maxRecDepth 100000 in
set_option maxHeartbeats 4000000 in
theorem ct_X8_paperLies {w : Wd} {l : Launch} {a1 : Int} {a2 : Int} {σ : St} {y : Int} (ia1 : InI a1) (ia2 : InI a2) (h : m_X8_paperLies a1 a2 σ = some y) : Ct w l yX8_paperLies (Cond.code yX8_paperLies cX8_paperLies 3 (some .boolean) :: TB) rm_X8_paperLies [rv w 129, iv a1, iv a2] σ (some (iv y)) (InZ y) σ := by
  refine Ct.of2 [some (rv w 129), some (iv a1), some (iv a2)] 0 rfl pn_RX8 (Nat.le_of_ble_eq_true rfl) ?_
  intro p e s m args below meth c C hr hlk
  unfold m_X8_paperLies at h
  refine g_aload_n C dX8_paperLies_0 rfl ?_
  refine g_getR (j := 7) C dX8_paperLies_1 rfl (Nat.le_of_ble_eq_true rfl) (Nat.le_of_ble_eq_true rfl) fl_8_29 rfl rfl (r := 1) rfl ?_
  refine g_iload_n C dX8_paperLies_4 rfl ?_
  obtain ⟨x1, qx1, h⟩ := bnd h
  refine g_callV1 (As := [iv a1]) C dX8_paperLies_5 mi_X10_hasSpot ml_8_246 (ct_X10_hasSpot ia1 qx1) rfl rfl ⟨rfl, rfl⟩ ⟨Nat.le_of_ble_eq_true rfl, Nat.le_of_ble_eq_true rfl⟩ ⟨Nat.zero_le _, Nat.zero_le _⟩ rfl (Nat.le_of_ble_eq_true rfl) (fun ix1 => ?_)
  refine g_if_eq C dX8_paperLies_8 (zI ix1) rfl (tgt := 28) (fun c2 => ?_) (fun c2 => ?_)
  · have h := ifT c2 h
    refine g_iconst C dX8_paperLies_28 ?_
    exact g_zretU C dX8_paperLies_29 hr hlk h (Or.inl rfl)
  · have h := ifF c2 h
    refine g_aload_n C dX8_paperLies_11 rfl ?_
    refine g_getR (j := 3) C dX8_paperLies_12 rfl (Nat.le_of_ble_eq_true rfl) (Nat.le_of_ble_eq_true rfl) fl_8_15 rfl rfl (r := 131) rfl ?_
    refine g_iload_n C dX8_paperLies_15 rfl ?_
    obtain ⟨x3, qx3, h⟩ := bnd h
    refine g_iald C dX8_paperLies_16 rfl rfl qx3 ia1 (fun ix3 => ?_)
    refine g_iload_n C dX8_paperLies_17 rfl ?_
    refine g_ishr C dX8_paperLies_18 ?_
    refine g_iconst C dX8_paperLies_19 ?_
    refine g_iand C dX8_paperLies_20 ?_
    refine g_if_eq C dX8_paperLies_21 (iand _ _) rfl (tgt := 28) (fun c4 => ?_) (fun c4 => ?_)
    · have h := ifT c4 h
      refine g_iconst C dX8_paperLies_28 ?_
      exact g_zretU C dX8_paperLies_29 hr hlk h (Or.inl rfl)
    · have h := ifF c4 h
      refine g_iconst C dX8_paperLies_24 ?_
      refine g_goto C dX8_paperLies_25 rfl (tgt := 29) ?_
      exact g_zretU C dX8_paperLies_29 hr hlk h (Or.inr rfl)
theorem dX8_testHolds_0 : decode cX8_testHolds 0 = .ok (.iload_n 2, 1) := by decide +kernel
theorem dX8_testHolds_1 : decode cX8_testHolds 1 = .ok (.tableswitch 175 8 24 #[135, 175, 129, 175, 175, 175, 83, 175, 175, 119, 175, 175, 175, 175, 159, 175, 141], 83) := by decide +kernel
theorem dX8_testHolds_84 : decode cX8_testHolds 84 = .ok (.aload_n 0, 1) := by decide +kernel
theorem dX8_testHolds_85 : decode cX8_testHolds 85 = .ok (.getfield 29, 3) := by decide +kernel
theorem dX8_testHolds_88 : decode cX8_testHolds 88 = .ok (.aload_n 1, 1) := by decide +kernel
theorem dX8_testHolds_89 : decode cX8_testHolds 89 = .ok (.getfield 121, 3) := by decide +kernel
theorem dX8_testHolds_92 : decode cX8_testHolds 92 = .ok (.invokevirtual 246, 3) := by decide +kernel
theorem dX8_testHolds_95 : decode cX8_testHolds 95 = .ok (.ifCond .eq 23, 3) := by decide +kernel
theorem dX8_testHolds_98 : decode cX8_testHolds 98 = .ok (.aload_n 0, 1) := by decide +kernel
theorem dX8_testHolds_99 : decode cX8_testHolds 99 = .ok (.getfield 9, 3) := by decide +kernel
theorem dX8_testHolds_102 : decode cX8_testHolds 102 = .ok (.aload_n 1, 1) := by decide +kernel
theorem dX8_testHolds_103 : decode cX8_testHolds 103 = .ok (.getfield 121, 3) := by decide +kernel
theorem dX8_testHolds_106 : decode cX8_testHolds 106 = .ok (.iaload, 1) := by decide +kernel
theorem dX8_testHolds_107 : decode cX8_testHolds 107 = .ok (.iload_n 3, 1) := by decide +kernel
theorem dX8_testHolds_108 : decode cX8_testHolds 108 = .ok (.ishr, 1) := by decide +kernel
theorem dX8_testHolds_109 : decode cX8_testHolds 109 = .ok (.iconst 1, 1) := by decide +kernel
theorem dX8_testHolds_110 : decode cX8_testHolds 110 = .ok (.iand, 1) := by decide +kernel
theorem dX8_testHolds_111 : decode cX8_testHolds 111 = .ok (.ifCond .eq 7, 3) := by decide +kernel
theorem dX8_testHolds_114 : decode cX8_testHolds 114 = .ok (.iconst 1, 1) := by decide +kernel
theorem dX8_testHolds_115 : decode cX8_testHolds 115 = .ok (.goto 4, 3) := by decide +kernel
theorem dX8_testHolds_118 : decode cX8_testHolds 118 = .ok (.iconst 0, 1) := by decide +kernel
theorem dX8_testHolds_119 : decode cX8_testHolds 119 = .ok (.ireturn, 1) := by decide +kernel
theorem dX8_testHolds_120 : decode cX8_testHolds 120 = .ok (.aload_n 0, 1) := by decide +kernel
theorem dX8_testHolds_121 : decode cX8_testHolds 121 = .ok (.aload_n 1, 1) := by decide +kernel
theorem dX8_testHolds_122 : decode cX8_testHolds 122 = .ok (.getfield 121, 3) := by decide +kernel
theorem dX8_testHolds_125 : decode cX8_testHolds 125 = .ok (.iload_n 3, 1) := by decide +kernel
theorem dX8_testHolds_126 : decode cX8_testHolds 126 = .ok (.invokevirtual 249, 3) := by decide +kernel
theorem dX8_testHolds_129 : decode cX8_testHolds 129 = .ok (.ireturn, 1) := by decide +kernel
theorem dX8_testHolds_130 : decode cX8_testHolds 130 = .ok (.aload_n 1, 1) := by decide +kernel
theorem dX8_testHolds_131 : decode cX8_testHolds 131 = .ok (.iload_n 3, 1) := by decide +kernel
theorem dX8_testHolds_132 : decode cX8_testHolds 132 = .ok (.invokevirtual 252, 3) := by decide +kernel
theorem dX8_testHolds_135 : decode cX8_testHolds 135 = .ok (.ireturn, 1) := by decide +kernel
theorem dX8_testHolds_136 : decode cX8_testHolds 136 = .ok (.aload_n 1, 1) := by decide +kernel
theorem dX8_testHolds_137 : decode cX8_testHolds 137 = .ok (.iload_n 3, 1) := by decide +kernel
theorem dX8_testHolds_138 : decode cX8_testHolds 138 = .ok (.invokevirtual 255, 3) := by decide +kernel
theorem dX8_testHolds_141 : decode cX8_testHolds 141 = .ok (.ireturn, 1) := by decide +kernel
theorem dX8_testHolds_142 : decode cX8_testHolds 142 = .ok (.aload_n 0, 1) := by decide +kernel
theorem dX8_testHolds_143 : decode cX8_testHolds 143 = .ok (.iload_n 3, 1) := by decide +kernel
theorem dX8_testHolds_144 : decode cX8_testHolds 144 = .ok (.invokevirtual 99, 3) := by decide +kernel
theorem dX8_testHolds_147 : decode cX8_testHolds 147 = .ok (.aload_n 1, 1) := by decide +kernel
theorem dX8_testHolds_148 : decode cX8_testHolds 148 = .ok (.getfield 121, 3) := by decide +kernel
theorem dX8_testHolds_151 : decode cX8_testHolds 151 = .ok (.if_icmp .ne 7, 3) := by decide +kernel
theorem dX8_testHolds_154 : decode cX8_testHolds 154 = .ok (.iconst 1, 1) := by decide +kernel
theorem dX8_testHolds_155 : decode cX8_testHolds 155 = .ok (.goto 4, 3) := by decide +kernel
theorem dX8_testHolds_158 : decode cX8_testHolds 158 = .ok (.iconst 0, 1) := by decide +kernel
theorem dX8_testHolds_159 : decode cX8_testHolds 159 = .ok (.ireturn, 1) := by decide +kernel
theorem dX8_testHolds_160 : decode cX8_testHolds 160 = .ok (.aload_n 0, 1) := by decide +kernel
theorem dX8_testHolds_161 : decode cX8_testHolds 161 = .ok (.getfield 37, 3) := by decide +kernel
theorem dX8_testHolds_164 : decode cX8_testHolds 164 = .ok (.aload_n 0, 1) := by decide +kernel
theorem dX8_testHolds_165 : decode cX8_testHolds 165 = .ok (.getfield 77, 3) := by decide +kernel
theorem dX8_testHolds_168 : decode cX8_testHolds 168 = .ok (.aload_n 1, 1) := by decide +kernel
theorem dX8_testHolds_169 : decode cX8_testHolds 169 = .ok (.getfield 121, 3) := by decide +kernel
theorem dX8_testHolds_172 : decode cX8_testHolds 172 = .ok (.invokevirtual 102, 3) := by decide +kernel
theorem dX8_testHolds_175 : decode cX8_testHolds 175 = .ok (.ireturn, 1) := by decide +kernel
theorem dX8_testHolds_176 : decode cX8_testHolds 176 = .ok (.aload_n 0, 1) := by decide +kernel
theorem dX8_testHolds_177 : decode cX8_testHolds 177 = .ok (.getfield 77, 3) := by decide +kernel
theorem dX8_testHolds_180 : decode cX8_testHolds 180 = .ok (.iload_n 3, 1) := by decide +kernel
theorem dX8_testHolds_181 : decode cX8_testHolds 181 = .ok (.if_icmp .lt 7, 3) := by decide +kernel
theorem dX8_testHolds_184 : decode cX8_testHolds 184 = .ok (.iconst 1, 1) := by decide +kernel
theorem dX8_testHolds_185 : decode cX8_testHolds 185 = .ok (.goto 4, 3) := by decide +kernel
theorem dX8_testHolds_188 : decode cX8_testHolds 188 = .ok (.iconst 0, 1) := by decide +kernel
theorem dX8_testHolds_189 : decode cX8_testHolds 189 = .ok (.ireturn, 1) := by decide +kernel
abbrev rm_X8_testHolds : Room := { frames := 2, cells := 0, slots := 0, locals := 43 }
set_option maxRecDepth 100000 in
set_option maxHeartbeats 4000000 in
theorem ct_X8_testHolds {w : Wd} {l : Launch} {a1 : Nat} {a2 : Int} {a3 : Int} {σ : St} {y : Int} (ta1 : tg a1 = 0) (ia2 : InI a2) (ia3 : InI a3) (h : m_X8_testHolds a1 a2 a3 σ = some y) : Ct w l yX8_testHolds (Cond.code yX8_testHolds cX8_testHolds 4 (some .boolean) :: TB) rm_X8_testHolds [rv w 129, rv w a1, iv a2, iv a3] σ (some (iv y)) (InZ y) σ := by
  refine Ct.of2 [some (rv w 129), some (rv w a1), some (iv a2), some (iv a3)] 0 rfl pn_RX8 (Nat.le_of_ble_eq_true rfl) ?_
  intro p e s m args below meth c C hr hlk
  unfold m_X8_testHolds at h
  refine g_iload_n C dX8_testHolds_0 rfl ?_
  by_cases c1 : a2 = 8
  · have h := ifT c1 h
    refine g_tabI C dX8_testHolds_1 ia2 (by rw [c1]; decide) (by rw [c1]; decide) (by rw [c1] <;> rfl) rfl (tgt := 136) ?_
    refine g_aload_n C dX8_testHolds_136 rfl ?_
    refine g_iload_n C dX8_testHolds_137 rfl ?_
    obtain ⟨x2, qx2, h⟩ := bnd h
    refine g_callV1 (As := [iv a3]) C dX8_testHolds_138 mi_X0_hasPaper ml_8_255 (ct_X0_hasPaper ta1 ia3 qx2) ta1 rfl ⟨rfl, rfl⟩ ⟨Nat.le_of_ble_eq_true rfl, Nat.le_of_ble_eq_true rfl⟩ ⟨Nat.zero_le _, Nat.zero_le _⟩ rfl (Nat.le_of_ble_eq_true rfl) (fun ix2 => ?_)
    exact g_zretU C dX8_testHolds_141 hr hlk h ix2
  have h := ifF c1 h
  by_cases c3 : a2 = 10
  · have h := ifT c3 h
    refine g_tabI C dX8_testHolds_1 ia2 (by rw [c3]; decide) (by rw [c3]; decide) (by rw [c3] <;> rfl) rfl (tgt := 130) ?_
    refine g_aload_n C dX8_testHolds_130 rfl ?_
    refine g_iload_n C dX8_testHolds_131 rfl ?_
    obtain ⟨x4, qx4, h⟩ := bnd h
    refine g_callV1 (As := [iv a3]) C dX8_testHolds_132 mi_X0_knowsSecret ml_8_252 (ct_X0_knowsSecret ta1 ia3 qx4) ta1 rfl ⟨rfl, rfl⟩ ⟨Nat.le_of_ble_eq_true rfl, Nat.le_of_ble_eq_true rfl⟩ ⟨Nat.zero_le _, Nat.zero_le _⟩ rfl (Nat.le_of_ble_eq_true rfl) (fun ix4 => ?_)
    exact g_zretU C dX8_testHolds_135 hr hlk h ix4
  have h := ifF c3 h
  by_cases c5 : a2 = 14
  · have h := ifT c5 h
    refine g_tabI C dX8_testHolds_1 ia2 (by rw [c5]; decide) (by rw [c5]; decide) (by rw [c5] <;> rfl) rfl (tgt := 84) ?_
    refine g_aload_n C dX8_testHolds_84 rfl ?_
    refine g_getR (j := 7) C dX8_testHolds_85 rfl (Nat.le_of_ble_eq_true rfl) (Nat.le_of_ble_eq_true rfl) fl_8_29 rfl rfl (r := 1) rfl ?_
    refine g_aload_n C dX8_testHolds_88 rfl ?_
    refine g_getI (j := 9) C dX8_testHolds_89 ta1 (Nat.le_of_ble_eq_true rfl) (Nat.le_of_ble_eq_true rfl) fl_8_121 rfl rfl (fun i6 => ?_)
    obtain ⟨x7, qx7, h⟩ := bnd h
    refine g_callV1 (As := [iv (σ a1 9)]) C dX8_testHolds_92 mi_X10_hasSpot ml_8_246 (ct_X10_hasSpot i6 qx7) rfl rfl ⟨rfl, rfl⟩ ⟨Nat.le_of_ble_eq_true rfl, Nat.le_of_ble_eq_true rfl⟩ ⟨Nat.zero_le _, Nat.zero_le _⟩ rfl (Nat.le_of_ble_eq_true rfl) (fun ix7 => ?_)
    refine g_if_eq C dX8_testHolds_95 (zI ix7) rfl (tgt := 118) (fun c8 => ?_) (fun c8 => ?_)
    · have h := ifT c8 h
      refine g_iconst C dX8_testHolds_118 ?_
      exact g_zretU C dX8_testHolds_119 hr hlk h (Or.inl rfl)
    · have h := ifF c8 h
      refine g_aload_n C dX8_testHolds_98 rfl ?_
      refine g_getR (j := 2) C dX8_testHolds_99 rfl (Nat.le_of_ble_eq_true rfl) (Nat.le_of_ble_eq_true rfl) fl_8_9 rfl rfl (r := 130) rfl ?_
      refine g_aload_n C dX8_testHolds_102 rfl ?_
      refine g_getI (j := 9) C dX8_testHolds_103 ta1 (Nat.le_of_ble_eq_true rfl) (Nat.le_of_ble_eq_true rfl) fl_8_121 rfl rfl (fun i9 => ?_)
      obtain ⟨x10, qx10, h⟩ := bnd h
      refine g_iald C dX8_testHolds_106 rfl rfl qx10 i9 (fun ix10 => ?_)
      refine g_iload_n C dX8_testHolds_107 rfl ?_
      refine g_ishr C dX8_testHolds_108 ?_
      refine g_iconst C dX8_testHolds_109 ?_
      refine g_iand C dX8_testHolds_110 ?_
      refine g_if_eq C dX8_testHolds_111 (iand _ _) rfl (tgt := 118) (fun c11 => ?_) (fun c11 => ?_)
      · have h := ifT c11 h
        refine g_iconst C dX8_testHolds_118 ?_
        exact g_zretU C dX8_testHolds_119 hr hlk h (Or.inl rfl)
      · have h := ifF c11 h
        refine g_iconst C dX8_testHolds_114 ?_
        refine g_goto C dX8_testHolds_115 rfl (tgt := 119) ?_
        exact g_zretU C dX8_testHolds_119 hr hlk h (Or.inr rfl)
  have h := ifF c5 h
  by_cases c12 : a2 = 17
  · have h := ifT c12 h
    refine g_tabI C dX8_testHolds_1 ia2 (by rw [c12]; decide) (by rw [c12]; decide) (by rw [c12] <;> rfl) rfl (tgt := 120) ?_
    refine g_aload_n C dX8_testHolds_120 rfl ?_
    refine g_aload_n C dX8_testHolds_121 rfl ?_
    refine g_getI (j := 9) C dX8_testHolds_122 ta1 (Nat.le_of_ble_eq_true rfl) (Nat.le_of_ble_eq_true rfl) fl_8_121 rfl rfl (fun i13 => ?_)
    refine g_iload_n C dX8_testHolds_125 rfl ?_
    obtain ⟨x14, qx14, h⟩ := bnd h
    refine g_callV1 (As := [iv (σ a1 9), iv a3]) C dX8_testHolds_126 mi_X8_paperLies ml_8_249 (ct_X8_paperLies i13 ia3 qx14) rfl rfl ⟨rfl, rfl⟩ ⟨Nat.le_of_ble_eq_true rfl, Nat.le_of_ble_eq_true rfl⟩ ⟨Nat.zero_le _, Nat.zero_le _⟩ rfl (Nat.le_of_ble_eq_true rfl) (fun ix14 => ?_)
    exact g_zretU C dX8_testHolds_129 hr hlk h ix14
  have h := ifF c12 h
  by_cases c15 : a2 = 22
  · have h := ifT c15 h
    refine g_tabI C dX8_testHolds_1 ia2 (by rw [c15]; decide) (by rw [c15]; decide) (by rw [c15] <;> rfl) rfl (tgt := 160) ?_
    refine g_aload_n C dX8_testHolds_160 rfl ?_
    refine g_getR (j := 9) C dX8_testHolds_161 rfl (Nat.le_of_ble_eq_true rfl) (Nat.le_of_ble_eq_true rfl) fl_8_37 rfl rfl (r := 30) rfl ?_
    refine g_aload_n C dX8_testHolds_164 rfl ?_
    refine g_getI (j := 12) C dX8_testHolds_165 rfl (Nat.le_of_ble_eq_true rfl) (Nat.le_of_ble_eq_true rfl) fl_8_77 rfl rfl (fun i16 => ?_)
    refine g_aload_n C dX8_testHolds_168 rfl ?_
    refine g_getI (j := 9) C dX8_testHolds_169 ta1 (Nat.le_of_ble_eq_true rfl) (Nat.le_of_ble_eq_true rfl) fl_8_121 rfl rfl (fun i17 => ?_)
    obtain ⟨x18, qx18, h⟩ := bnd h
    refine g_callV1 (As := [iv (σ 129 12), iv (σ a1 9)]) C dX8_testHolds_172 mi_X1_isWatched ml_8_102 (ct_X1_isWatched i16 i17 qx18) rfl rfl ⟨rfl, rfl⟩ ⟨Nat.le_of_ble_eq_true rfl, Nat.le_of_ble_eq_true rfl⟩ ⟨Nat.zero_le _, Nat.zero_le _⟩ rfl (Nat.le_of_ble_eq_true rfl) (fun ix18 => ?_)
    exact g_zretU C dX8_testHolds_175 hr hlk h ix18
  have h := ifF c15 h
  by_cases c19 : a2 = 24
  · have h := ifT c19 h
    refine g_tabI C dX8_testHolds_1 ia2 (by rw [c19]; decide) (by rw [c19]; decide) (by rw [c19] <;> rfl) rfl (tgt := 142) ?_
    refine g_aload_n C dX8_testHolds_142 rfl ?_
    refine g_iload_n C dX8_testHolds_143 rfl ?_
    obtain ⟨x20, qx20, h⟩ := bnd h
    refine g_callV1 (As := [iv a3]) C dX8_testHolds_144 mi_X8_placeOf ml_8_99 (ct_X8_placeOf ia3 qx20) rfl rfl ⟨rfl, rfl⟩ ⟨Nat.le_of_ble_eq_true rfl, Nat.le_of_ble_eq_true rfl⟩ ⟨Nat.zero_le _, Nat.zero_le _⟩ rfl (Nat.le_of_ble_eq_true rfl) (fun ix20 => ?_)
    refine g_aload_n C dX8_testHolds_147 rfl ?_
    refine g_getI (j := 9) C dX8_testHolds_148 ta1 (Nat.le_of_ble_eq_true rfl) (Nat.le_of_ble_eq_true rfl) fl_8_121 rfl rfl (fun i21 => ?_)
    refine g_icmp_ne C dX8_testHolds_151 ix20 i21 rfl (tgt := 158) (fun c22 => ?_) (fun c22 => ?_)
    · have h := ifF c22 h
      refine g_iconst C dX8_testHolds_158 ?_
      exact g_zretU C dX8_testHolds_159 hr hlk h (Or.inl rfl)
    · have h := ifT c22 h
      refine g_iconst C dX8_testHolds_154 ?_
      refine g_goto C dX8_testHolds_155 rfl (tgt := 159) ?_
      exact g_zretU C dX8_testHolds_159 hr hlk h (Or.inr rfl)
  have h := ifF c19 h
  have hD23 : GM w p l e rm_X8_testHolds s m args below meth c (some (iv y)) (InZ y) σ 4 176 [some (rv w 129), some (rv w a1), some (iv a2), some (iv a3)] [] σ := by
    refine g_aload_n C dX8_testHolds_176 rfl ?_
    refine g_getI (j := 12) C dX8_testHolds_177 rfl (Nat.le_of_ble_eq_true rfl) (Nat.le_of_ble_eq_true rfl) fl_8_77 rfl rfl (fun i24 => ?_)
    refine g_iload_n C dX8_testHolds_180 rfl ?_
    refine g_icmp_lt C dX8_testHolds_181 i24 ia3 rfl (tgt := 188) (fun c25 => ?_) (fun c25 => ?_)
    · have h := ifT c25 h
      refine g_iconst C dX8_testHolds_188 ?_
      exact g_zretU C dX8_testHolds_189 hr hlk h (Or.inl rfl)
    · have h := ifF c25 h
      refine g_iconst C dX8_testHolds_184 ?_
      refine g_goto C dX8_testHolds_185 rfl (tgt := 189) ?_
      exact g_zretU C dX8_testHolds_189 hr hlk h (Or.inr rfl)
  by_cases c26 : a2 = 9
  · exact g_tabI C dX8_testHolds_1 ia2 (by rw [c26]; decide) (by rw [c26]; decide) (by rw [c26] <;> rfl) rfl (tgt := 176) hD23
  by_cases c27 : a2 = 11
  · exact g_tabI C dX8_testHolds_1 ia2 (by rw [c27]; decide) (by rw [c27]; decide) (by rw [c27] <;> rfl) rfl (tgt := 176) hD23
  by_cases c28 : a2 = 12
  · exact g_tabI C dX8_testHolds_1 ia2 (by rw [c28]; decide) (by rw [c28]; decide) (by rw [c28] <;> rfl) rfl (tgt := 176) hD23
  by_cases c29 : a2 = 13
  · exact g_tabI C dX8_testHolds_1 ia2 (by rw [c29]; decide) (by rw [c29]; decide) (by rw [c29] <;> rfl) rfl (tgt := 176) hD23
  by_cases c30 : a2 = 15
  · exact g_tabI C dX8_testHolds_1 ia2 (by rw [c30]; decide) (by rw [c30]; decide) (by rw [c30] <;> rfl) rfl (tgt := 176) hD23
  by_cases c31 : a2 = 16
  · exact g_tabI C dX8_testHolds_1 ia2 (by rw [c31]; decide) (by rw [c31]; decide) (by rw [c31] <;> rfl) rfl (tgt := 176) hD23
  by_cases c32 : a2 = 18
  · exact g_tabI C dX8_testHolds_1 ia2 (by rw [c32]; decide) (by rw [c32]; decide) (by rw [c32] <;> rfl) rfl (tgt := 176) hD23
  by_cases c33 : a2 = 19
  · exact g_tabI C dX8_testHolds_1 ia2 (by rw [c33]; decide) (by rw [c33]; decide) (by rw [c33] <;> rfl) rfl (tgt := 176) hD23
  by_cases c34 : a2 = 20
  · exact g_tabI C dX8_testHolds_1 ia2 (by rw [c34]; decide) (by rw [c34]; decide) (by rw [c34] <;> rfl) rfl (tgt := 176) hD23
  by_cases c35 : a2 = 21
  · exact g_tabI C dX8_testHolds_1 ia2 (by rw [c35]; decide) (by rw [c35]; decide) (by rw [c35] <;> rfl) rfl (tgt := 176) hD23
  by_cases c36 : a2 = 23
  · exact g_tabI C dX8_testHolds_1 ia2 (by rw [c36]; decide) (by rw [c36]; decide) (by rw [c36] <;> rfl) rfl (tgt := 176) hD23
  exact g_tabO C dX8_testHolds_1 ia2 (by omega) rfl (tgt := 176) hD23
theorem dX8_leavePaper_0 : decode cX8_leavePaper 0 = .ok (.aload_n 2, 1) := by decide +kernel
theorem dX8_leavePaper_1 : decode cX8_leavePaper 1 = .ok (.iload_n 3, 1) := by decide +kernel
theorem dX8_leavePaper_2 : decode cX8_leavePaper 2 = .ok (.invokevirtual 255, 3) := by decide +kernel
theorem dX8_leavePaper_5 : decode cX8_leavePaper 5 = .ok (.ifCond .eq 68, 3) := by decide +kernel
theorem dX8_leavePaper_8 : decode cX8_leavePaper 8 = .ok (.iload_n 3, 1) := by decide +kernel
theorem dX8_leavePaper_9 : decode cX8_leavePaper 9 = .ok (.ifCond .lt 64, 3) := by decide +kernel
theorem dX8_leavePaper_12 : decode cX8_leavePaper 12 = .ok (.iload_n 3, 1) := by decide +kernel
theorem dX8_leavePaper_13 : decode cX8_leavePaper 13 = .ok (.bipush 8, 2) := by decide +kernel
theorem dX8_leavePaper_15 : decode cX8_leavePaper 15 = .ok (.if_icmp .ge 58, 3) := by decide +kernel
theorem dX8_leavePaper_18 : decode cX8_leavePaper 18 = .ok (.aload_n 0, 1) := by decide +kernel
theorem dX8_leavePaper_19 : decode cX8_leavePaper 19 = .ok (.getfield 29, 3) := by decide +kernel
theorem dX8_leavePaper_22 : decode cX8_leavePaper 22 = .ok (.aload_n 2, 1) := by decide +kernel
theorem dX8_leavePaper_23 : decode cX8_leavePaper 23 = .ok (.getfield 121, 3) := by decide +kernel
theorem dX8_leavePaper_26 : decode cX8_leavePaper 26 = .ok (.invokevirtual 246, 3) := by decide +kernel
theorem dX8_leavePaper_29 : decode cX8_leavePaper 29 = .ok (.ifCond .eq 44, 3) := by decide +kernel
theorem dX8_leavePaper_32 : decode cX8_leavePaper 32 = .ok (.aload_n 2, 1) := by decide +kernel
theorem dX8_leavePaper_33 : decode cX8_leavePaper 33 = .ok (.dup, 1) := by decide +kernel
theorem dX8_leavePaper_34 : decode cX8_leavePaper 34 = .ok (.getfield 258, 3) := by decide +kernel
theorem dX8_leavePaper_37 : decode cX8_leavePaper 37 = .ok (.iconst 1, 1) := by decide +kernel
theorem dX8_leavePaper_38 : decode cX8_leavePaper 38 = .ok (.iload_n 3, 1) := by decide +kernel
theorem dX8_leavePaper_39 : decode cX8_leavePaper 39 = .ok (.ishl, 1) := by decide +kernel
theorem dX8_leavePaper_40 : decode cX8_leavePaper 40 = .ok (.iconst (-1), 1) := by decide +kernel
theorem dX8_leavePaper_41 : decode cX8_leavePaper 41 = .ok (.ixor, 1) := by decide +kernel
theorem dX8_leavePaper_42 : decode cX8_leavePaper 42 = .ok (.iand, 1) := by decide +kernel
theorem dX8_leavePaper_43 : decode cX8_leavePaper 43 = .ok (.putfield 258, 3) := by decide +kernel
theorem dX8_leavePaper_46 : decode cX8_leavePaper 46 = .ok (.aload_n 0, 1) := by decide +kernel
theorem dX8_leavePaper_47 : decode cX8_leavePaper 47 = .ok (.getfield 15, 3) := by decide +kernel
theorem dX8_leavePaper_50 : decode cX8_leavePaper 50 = .ok (.aload_n 2, 1) := by decide +kernel
theorem dX8_leavePaper_51 : decode cX8_leavePaper 51 = .ok (.getfield 121, 3) := by decide +kernel
theorem dX8_leavePaper_54 : decode cX8_leavePaper 54 = .ok (.dup2, 1) := by decide +kernel
theorem dX8_leavePaper_55 : decode cX8_leavePaper 55 = .ok (.iaload, 1) := by decide +kernel
theorem dX8_leavePaper_56 : decode cX8_leavePaper 56 = .ok (.iconst 1, 1) := by decide +kernel
theorem dX8_leavePaper_57 : decode cX8_leavePaper 57 = .ok (.iload_n 3, 1) := by decide +kernel
theorem dX8_leavePaper_58 : decode cX8_leavePaper 58 = .ok (.ishl, 1) := by decide +kernel
theorem dX8_leavePaper_59 : decode cX8_leavePaper 59 = .ok (.ior, 1) := by decide +kernel
theorem dX8_leavePaper_60 : decode cX8_leavePaper 60 = .ok (.iastore, 1) := by decide +kernel
theorem dX8_leavePaper_61 : decode cX8_leavePaper 61 = .ok (.aload_n 0, 1) := by decide +kernel
theorem dX8_leavePaper_62 : decode cX8_leavePaper 62 = .ok (.getfield 26, 3) := by decide +kernel
theorem dX8_leavePaper_65 : decode cX8_leavePaper 65 = .ok (.aload_n 2, 1) := by decide +kernel
theorem dX8_leavePaper_66 : decode cX8_leavePaper 66 = .ok (.getfield 121, 3) := by decide +kernel
theorem dX8_leavePaper_69 : decode cX8_leavePaper 69 = .ok (.aaload, 1) := by decide +kernel
theorem dX8_leavePaper_70 : decode cX8_leavePaper 70 = .ok (.iload_n 3, 1) := by decide +kernel
theorem dX8_leavePaper_71 : decode cX8_leavePaper 71 = .ok (.iload_n 1, 1) := by decide +kernel
theorem dX8_leavePaper_72 : decode cX8_leavePaper 72 = .ok (.iastore, 1) := by decide +kernel
theorem dX8_leavePaper_73 : decode cX8_leavePaper 73 = .ok (.return_, 1) := by decide +kernel
abbrev rm_X8_leavePaper : Room := { frames := 1, cells := 0, slots := 0, locals := 21 }
set_option maxRecDepth 100000 in
set_option maxHeartbeats 4000000 in
theorem ct_X8_leavePaper {w : Wd} {l : Launch} {a1 : Int} {a2 : Nat} {a3 : Int} {σ : St} {σ' : St} (ia1 : InI a1) (ta2 : tg a2 = 0) (ia3 : InI a3) (h : m_X8_leavePaper a1 a2 a3 σ = some σ') : Ct w l yX8_leavePaper (Cond.code yX8_leavePaper cX8_leavePaper 4 none :: TB) rm_X8_leavePaper [rv w 129, iv a1, rv w a2, iv a3] σ none True σ' := by
  refine Ct.of2 [some (rv w 129), some (iv a1), some (rv w a2), some (iv a3)] 0 rfl pn_RX8 (Nat.le_of_ble_eq_true rfl) ?_
  intro p e s m args below meth c C hr hlk
  unfold m_X8_leavePaper at h
  refine g_aload_n C dX8_leavePaper_0 rfl ?_
  refine g_iload_n C dX8_leavePaper_1 rfl ?_
  obtain ⟨x1, qx1, h⟩ := bnd h
  refine g_callV1 (As := [iv a3]) C dX8_leavePaper_2 mi_X0_hasPaper ml_8_255 (ct_X0_hasPaper ta2 ia3 qx1) ta2 rfl ⟨rfl, rfl⟩ ⟨Nat.le_of_ble_eq_true rfl, Nat.le_of_ble_eq_true rfl⟩ ⟨Nat.zero_le _, Nat.zero_le _⟩ rfl (Nat.le_of_ble_eq_true rfl) (fun ix1 => ?_)
  refine g_if_eq C dX8_leavePaper_5 (zI ix1) rfl (tgt := 73) (fun c2 => ?_) (fun c2 => ?_)
  · have h := ifT c2 h
    exact g_vretP C dX8_leavePaper_73 hr hlk h
  · have h := ifF c2 h
    refine g_iload_n C dX8_leavePaper_8 rfl ?_
    refine g_if_lt C dX8_leavePaper_9 ia3 rfl (tgt := 73) (fun c3 => ?_) (fun c3 => ?_)
    · have h := ifT c3 h
      exact g_vretP C dX8_leavePaper_73 hr hlk h
    · have h := ifF c3 h
      refine g_iload_n C dX8_leavePaper_12 rfl ?_
      refine g_bipush C dX8_leavePaper_13 rfl ?_
      refine g_icmp_ge C dX8_leavePaper_15 ia3 (by decide) rfl (tgt := 73) (fun c4 => ?_) (fun c4 => ?_)
      · have h := ifT c4 h
        exact g_vretP C dX8_leavePaper_73 hr hlk h
      · have h := ifF c4 h
        refine g_aload_n C dX8_leavePaper_18 rfl ?_
        refine g_getR (j := 7) C dX8_leavePaper_19 rfl (Nat.le_of_ble_eq_true rfl) (Nat.le_of_ble_eq_true rfl) fl_8_29 rfl rfl (r := 1) rfl ?_
        refine g_aload_n C dX8_leavePaper_22 rfl ?_
        refine g_getI (j := 9) C dX8_leavePaper_23 ta2 (Nat.le_of_ble_eq_true rfl) (Nat.le_of_ble_eq_true rfl) fl_8_121 rfl rfl (fun i5 => ?_)
        obtain ⟨x6, qx6, h⟩ := bnd h
        refine g_callV1 (As := [iv (σ a2 9)]) C dX8_leavePaper_26 mi_X10_hasSpot ml_8_246 (ct_X10_hasSpot i5 qx6) rfl rfl ⟨rfl, rfl⟩ ⟨Nat.le_of_ble_eq_true rfl, Nat.le_of_ble_eq_true rfl⟩ ⟨Nat.zero_le _, Nat.zero_le _⟩ rfl (Nat.le_of_ble_eq_true rfl) (fun ix6 => ?_)
        refine g_if_eq C dX8_leavePaper_29 (zI ix6) rfl (tgt := 73) (fun c7 => ?_) (fun c7 => ?_)
        · have h := ifT c7 h
          exact g_vretP C dX8_leavePaper_73 hr hlk h
        · have h := ifF c7 h
          refine g_aload_n C dX8_leavePaper_32 rfl ?_
          refine g_dup C dX8_leavePaper_33 rfl ?_
          refine g_getI (j := 16) C dX8_leavePaper_34 ta2 (Nat.le_of_ble_eq_true rfl) (Nat.le_of_ble_eq_true rfl) fl_8_258 rfl rfl (fun i8 => ?_)
          refine g_iconst C dX8_leavePaper_37 ?_
          refine g_iload_n C dX8_leavePaper_38 rfl ?_
          refine g_ishl C dX8_leavePaper_39 ?_
          refine g_iconst C dX8_leavePaper_40 ?_
          refine g_ixor C dX8_leavePaper_41 ?_
          refine g_iand C dX8_leavePaper_42 ?_
          obtain ⟨σ9, qσ9, h⟩ := bnd h
          refine g_putI (j := 16) C dX8_leavePaper_43 ta2 (Nat.le_of_ble_eq_true rfl) (Nat.le_of_ble_eq_true rfl) fl_8_258 rfl rfl rfl rfl qσ9 (iand _ _) ?_
          refine g_aload_n C dX8_leavePaper_46 rfl ?_
          refine g_getR (j := 3) C dX8_leavePaper_47 rfl (Nat.le_of_ble_eq_true rfl) (Nat.le_of_ble_eq_true rfl) fl_8_15 rfl rfl (r := 131) rfl ?_
          refine g_aload_n C dX8_leavePaper_50 rfl ?_
          refine g_getI (j := 9) C dX8_leavePaper_51 ta2 (Nat.le_of_ble_eq_true rfl) (Nat.le_of_ble_eq_true rfl) fl_8_121 rfl rfl (fun i10 => ?_)
          refine g_dup2 C dX8_leavePaper_54 rfl rfl ?_
          obtain ⟨x11, qx11, h⟩ := bnd h
          refine g_iald C dX8_leavePaper_55 rfl rfl qx11 i10 (fun ix11 => ?_)
          refine g_iconst C dX8_leavePaper_56 ?_
          refine g_iload_n C dX8_leavePaper_57 rfl ?_
          refine g_ishl C dX8_leavePaper_58 ?_
          refine g_ior C dX8_leavePaper_59 ?_
          obtain ⟨σ12, qσ12, h⟩ := bnd h
          refine g_iast C dX8_leavePaper_60 rfl rfl qσ12 i10 (ior _ _) ?_
          refine g_aload_n C dX8_leavePaper_61 rfl ?_
          refine g_getR (j := 11) C dX8_leavePaper_62 rfl (Nat.le_of_ble_eq_true rfl) (Nat.le_of_ble_eq_true rfl) fl_8_26 rfl rfl (r := 142) rfl ?_
          refine g_aload_n C dX8_leavePaper_65 rfl ?_
          refine g_getI (j := 9) C dX8_leavePaper_66 ta2 (Nat.le_of_ble_eq_true rfl) (Nat.le_of_ble_eq_true rfl) fl_8_121 rfl rfl (fun i13 => ?_)
          obtain ⟨k14, qk14, h⟩ := bnd h
          refine g_aalI C dX8_leavePaper_69 rfl rfl qk14 i13 ?_
          refine g_iload_n C dX8_leavePaper_70 rfl ?_
          refine g_iload_n C dX8_leavePaper_71 rfl ?_
          obtain ⟨σ15, qσ15, h⟩ := bnd h
          refine g_iast C dX8_leavePaper_72 (rrB_142 qk14).1 (rrB_142 qk14).2 qσ15 ia3 ia1 ?_
          exact g_vretP C dX8_leavePaper_73 hr hlk h
theorem dX8_learn_0 : decode cX8_learn 0 = .ok (.iload_n 2, 1) := by decide +kernel
theorem dX8_learn_1 : decode cX8_learn 1 = .ok (.ifCond .lt 46, 3) := by decide +kernel
theorem dX8_learn_4 : decode cX8_learn 4 = .ok (.iload_n 2, 1) := by decide +kernel
theorem dX8_learn_5 : decode cX8_learn 5 = .ok (.bipush 8, 2) := by decide +kernel
theorem dX8_learn_7 : decode cX8_learn 7 = .ok (.if_icmp .ge 40, 3) := by decide +kernel
theorem dX8_learn_10 : decode cX8_learn 10 = .ok (.aload_n 1, 1) := by decide +kernel
theorem dX8_learn_11 : decode cX8_learn 11 = .ok (.getfield 277, 3) := by decide +kernel
theorem dX8_learn_14 : decode cX8_learn 14 = .ok (.iload_n 2, 1) := by decide +kernel
theorem dX8_learn_15 : decode cX8_learn 15 = .ok (.iaload, 1) := by decide +kernel
theorem dX8_learn_16 : decode cX8_learn 16 = .ok (.iconst (-1), 1) := by decide +kernel
theorem dX8_learn_17 : decode cX8_learn 17 = .ok (.if_icmp .ne 30, 3) := by decide +kernel
theorem dX8_learn_20 : decode cX8_learn 20 = .ok (.aload_n 1, 1) := by decide +kernel
theorem dX8_learn_21 : decode cX8_learn 21 = .ok (.getfield 277, 3) := by decide +kernel
theorem dX8_learn_24 : decode cX8_learn 24 = .ok (.iload_n 2, 1) := by decide +kernel
theorem dX8_learn_25 : decode cX8_learn 25 = .ok (.aload_n 0, 1) := by decide +kernel
theorem dX8_learn_26 : decode cX8_learn 26 = .ok (.getfield 77, 3) := by decide +kernel
theorem dX8_learn_29 : decode cX8_learn 29 = .ok (.iastore, 1) := by decide +kernel
theorem dX8_learn_30 : decode cX8_learn 30 = .ok (.aload_n 1, 1) := by decide +kernel
theorem dX8_learn_31 : decode cX8_learn 31 = .ok (.getfield 280, 3) := by decide +kernel
theorem dX8_learn_34 : decode cX8_learn 34 = .ok (.iload_n 2, 1) := by decide +kernel
theorem dX8_learn_35 : decode cX8_learn 35 = .ok (.iload_n 3, 1) := by decide +kernel
theorem dX8_learn_36 : decode cX8_learn 36 = .ok (.iastore, 1) := by decide +kernel
theorem dX8_learn_37 : decode cX8_learn 37 = .ok (.aload_n 0, 1) := by decide +kernel
theorem dX8_learn_38 : decode cX8_learn 38 = .ok (.dup, 1) := by decide +kernel
theorem dX8_learn_39 : decode cX8_learn 39 = .ok (.getfield 90, 3) := by decide +kernel
theorem dX8_learn_42 : decode cX8_learn 42 = .ok (.iconst 1, 1) := by decide +kernel
theorem dX8_learn_43 : decode cX8_learn 43 = .ok (.iadd, 1) := by decide +kernel
theorem dX8_learn_44 : decode cX8_learn 44 = .ok (.putfield 90, 3) := by decide +kernel
theorem dX8_learn_47 : decode cX8_learn 47 = .ok (.return_, 1) := by decide +kernel
abbrev rm_X8_learn : Room := { frames := 0, cells := 0, slots := 0, locals := 0 }
set_option maxRecDepth 100000 in
set_option maxHeartbeats 4000000 in
theorem ct_X8_learn {w : Wd} {l : Launch} {a1 : Nat} {a2 : Int} {a3 : Int} {σ : St} {σ' : St} (ta1 : tg a1 = 0) (ia2 : InI a2) (ia3 : InI a3) (h : m_X8_learn a1 a2 a3 σ = some σ') : Ct w l yX8_learn (Cond.code yX8_learn cX8_learn 4 none :: TB) rm_X8_learn [rv w 129, rv w a1, iv a2, iv a3] σ none True σ' := by
  refine Ct.of2 [some (rv w 129), some (rv w a1), some (iv a2), some (iv a3)] 0 rfl pn_RX8 (Nat.le_of_ble_eq_true rfl) ?_
  intro p e s m args below meth c C hr hlk
  unfold m_X8_learn at h
  refine g_iload_n C dX8_learn_0 rfl ?_
  refine g_if_lt C dX8_learn_1 ia2 rfl (tgt := 47) (fun c1 => ?_) (fun c1 => ?_)
  · have h := ifT c1 h
    exact g_vretP C dX8_learn_47 hr hlk h
  · have h := ifF c1 h
    refine g_iload_n C dX8_learn_4 rfl ?_
    refine g_bipush C dX8_learn_5 rfl ?_
    refine g_icmp_ge C dX8_learn_7 ia2 (by decide) rfl (tgt := 47) (fun c2 => ?_) (fun c2 => ?_)
    · have h := ifT c2 h
      exact g_vretP C dX8_learn_47 hr hlk h
    · have h := ifF c2 h
      refine g_aload_n C dX8_learn_10 rfl ?_
      refine g_getR (j := 14) C dX8_learn_11 ta1 (Nat.le_of_ble_eq_true rfl) (Nat.le_of_ble_eq_true rfl) fl_8_277 rfl rfl (r := (a1 + 5)) (shR_0_14 ta1) ?_
      refine g_iload_n C dX8_learn_14 rfl ?_
      obtain ⟨x3, qx3, h⟩ := bnd h
      refine g_iald C dX8_learn_15 (shT_0_14 ta1) (shL_0_14 ta1) qx3 ia2 (fun ix3 => ?_)
      refine g_iconst C dX8_learn_16 ?_
      refine g_icmp_ne C dX8_learn_17 ix3 (by decide) rfl (tgt := 47) (fun c4 => ?_) (fun c4 => ?_)
      · have h := ifF c4 h
        exact g_vretP C dX8_learn_47 hr hlk h
      · have h := ifT c4 h
        refine g_aload_n C dX8_learn_20 rfl ?_
        refine g_getR (j := 14) C dX8_learn_21 ta1 (Nat.le_of_ble_eq_true rfl) (Nat.le_of_ble_eq_true rfl) fl_8_277 rfl rfl (r := (a1 + 5)) (shR_0_14 ta1) ?_
        refine g_iload_n C dX8_learn_24 rfl ?_
        refine g_aload_n C dX8_learn_25 rfl ?_
        refine g_getI (j := 12) C dX8_learn_26 rfl (Nat.le_of_ble_eq_true rfl) (Nat.le_of_ble_eq_true rfl) fl_8_77 rfl rfl (fun i5 => ?_)
        obtain ⟨σ6, qσ6, h⟩ := bnd h
        refine g_iast C dX8_learn_29 (shT_0_14 ta1) (shL_0_14 ta1) qσ6 ia2 i5 ?_
        refine g_aload_n C dX8_learn_30 rfl ?_
        refine g_getR (j := 15) C dX8_learn_31 ta1 (Nat.le_of_ble_eq_true rfl) (Nat.le_of_ble_eq_true rfl) fl_8_280 rfl rfl (r := (a1 + 6)) (shR_0_15 ta1) ?_
        refine g_iload_n C dX8_learn_34 rfl ?_
        refine g_iload_n C dX8_learn_35 rfl ?_
        obtain ⟨σ7, qσ7, h⟩ := bnd h
        refine g_iast C dX8_learn_36 (shT_0_15 ta1) (shL_0_15 ta1) qσ7 ia2 ia3 ?_
        refine g_aload_n C dX8_learn_37 rfl ?_
        refine g_dup C dX8_learn_38 rfl ?_
        refine g_getI (j := 13) C dX8_learn_39 rfl (Nat.le_of_ble_eq_true rfl) (Nat.le_of_ble_eq_true rfl) fl_8_90 rfl rfl (fun i8 => ?_)
        refine g_iconst C dX8_learn_42 ?_
        refine g_iadd C dX8_learn_43 ?_
        obtain ⟨σ9, qσ9, h⟩ := bnd h
        refine g_putI (j := 13) C dX8_learn_44 rfl (Nat.le_of_ble_eq_true rfl) (Nat.le_of_ble_eq_true rfl) fl_8_90 rfl rfl rfl rfl qσ9 (iwr _) ?_
        exact g_vretP C dX8_learn_47 hr hlk h
theorem dX8_takePaper_0 : decode cX8_takePaper 0 = .ok (.aload_n 0, 1) := by decide +kernel
theorem dX8_takePaper_1 : decode cX8_takePaper 1 = .ok (.aload_n 1, 1) := by decide +kernel
theorem dX8_takePaper_2 : decode cX8_takePaper 2 = .ok (.getfield 121, 3) := by decide +kernel
theorem dX8_takePaper_5 : decode cX8_takePaper 5 = .ok (.iload_n 2, 1) := by decide +kernel
theorem dX8_takePaper_6 : decode cX8_takePaper 6 = .ok (.invokevirtual 249, 3) := by decide +kernel
theorem dX8_takePaper_9 : decode cX8_takePaper 9 = .ok (.ifCond .eq 59, 3) := by decide +kernel
theorem dX8_takePaper_12 : decode cX8_takePaper 12 = .ok (.iload_n 2, 1) := by decide +kernel
theorem dX8_takePaper_13 : decode cX8_takePaper 13 = .ok (.ifCond .lt 55, 3) := by decide +kernel
theorem dX8_takePaper_16 : decode cX8_takePaper 16 = .ok (.iload_n 2, 1) := by decide +kernel
theorem dX8_takePaper_17 : decode cX8_takePaper 17 = .ok (.bipush 8, 2) := by decide +kernel
theorem dX8_takePaper_19 : decode cX8_takePaper 19 = .ok (.if_icmp .ge 49, 3) := by decide +kernel
theorem dX8_takePaper_22 : decode cX8_takePaper 22 = .ok (.aload_n 0, 1) := by decide +kernel
theorem dX8_takePaper_23 : decode cX8_takePaper 23 = .ok (.getfield 15, 3) := by decide +kernel
theorem dX8_takePaper_26 : decode cX8_takePaper 26 = .ok (.aload_n 1, 1) := by decide +kernel
theorem dX8_takePaper_27 : decode cX8_takePaper 27 = .ok (.getfield 121, 3) := by decide +kernel
theorem dX8_takePaper_30 : decode cX8_takePaper 30 = .ok (.dup2, 1) := by decide +kernel
theorem dX8_takePaper_31 : decode cX8_takePaper 31 = .ok (.iaload, 1) := by decide +kernel
theorem dX8_takePaper_32 : decode cX8_takePaper 32 = .ok (.iconst 1, 1) := by decide +kernel
theorem dX8_takePaper_33 : decode cX8_takePaper 33 = .ok (.iload_n 2, 1) := by decide +kernel
theorem dX8_takePaper_34 : decode cX8_takePaper 34 = .ok (.ishl, 1) := by decide +kernel
theorem dX8_takePaper_35 : decode cX8_takePaper 35 = .ok (.iconst (-1), 1) := by decide +kernel
theorem dX8_takePaper_36 : decode cX8_takePaper 36 = .ok (.ixor, 1) := by decide +kernel
theorem dX8_takePaper_37 : decode cX8_takePaper 37 = .ok (.iand, 1) := by decide +kernel
theorem dX8_takePaper_38 : decode cX8_takePaper 38 = .ok (.iastore, 1) := by decide +kernel
theorem dX8_takePaper_39 : decode cX8_takePaper 39 = .ok (.aload_n 1, 1) := by decide +kernel
theorem dX8_takePaper_40 : decode cX8_takePaper 40 = .ok (.dup, 1) := by decide +kernel
theorem dX8_takePaper_41 : decode cX8_takePaper 41 = .ok (.getfield 258, 3) := by decide +kernel
theorem dX8_takePaper_44 : decode cX8_takePaper 44 = .ok (.iconst 1, 1) := by decide +kernel
theorem dX8_takePaper_45 : decode cX8_takePaper 45 = .ok (.iload_n 2, 1) := by decide +kernel
theorem dX8_takePaper_46 : decode cX8_takePaper 46 = .ok (.ishl, 1) := by decide +kernel
theorem dX8_takePaper_47 : decode cX8_takePaper 47 = .ok (.ior, 1) := by decide +kernel
theorem dX8_takePaper_48 : decode cX8_takePaper 48 = .ok (.putfield 258, 3) := by decide +kernel
theorem dX8_takePaper_51 : decode cX8_takePaper 51 = .ok (.aload_n 0, 1) := by decide +kernel
theorem dX8_takePaper_52 : decode cX8_takePaper 52 = .ok (.aload_n 1, 1) := by decide +kernel
theorem dX8_takePaper_53 : decode cX8_takePaper 53 = .ok (.iload_n 2, 1) := by decide +kernel
theorem dX8_takePaper_54 : decode cX8_takePaper 54 = .ok (.aload_n 0, 1) := by decide +kernel
theorem dX8_takePaper_55 : decode cX8_takePaper 55 = .ok (.getfield 26, 3) := by decide +kernel
theorem dX8_takePaper_58 : decode cX8_takePaper 58 = .ok (.aload_n 1, 1) := by decide +kernel
theorem dX8_takePaper_59 : decode cX8_takePaper 59 = .ok (.getfield 121, 3) := by decide +kernel
theorem dX8_takePaper_62 : decode cX8_takePaper 62 = .ok (.aaload, 1) := by decide +kernel
theorem dX8_takePaper_63 : decode cX8_takePaper 63 = .ok (.iload_n 2, 1) := by decide +kernel
theorem dX8_takePaper_64 : decode cX8_takePaper 64 = .ok (.iaload, 1) := by decide +kernel
theorem dX8_takePaper_65 : decode cX8_takePaper 65 = .ok (.invokevirtual 270, 3) := by decide +kernel
theorem dX8_takePaper_68 : decode cX8_takePaper 68 = .ok (.return_, 1) := by decide +kernel
abbrev rm_X8_takePaper : Room := { frames := 2, cells := 0, slots := 0, locals := 43 }
set_option maxRecDepth 100000 in
set_option maxHeartbeats 4000000 in
theorem ct_X8_takePaper {w : Wd} {l : Launch} {a1 : Nat} {a2 : Int} {σ : St} {σ' : St} (ta1 : tg a1 = 0) (ia2 : InI a2) (h : m_X8_takePaper a1 a2 σ = some σ') : Ct w l yX8_takePaper (Cond.code yX8_takePaper cX8_takePaper 3 none :: TB) rm_X8_takePaper [rv w 129, rv w a1, iv a2] σ none True σ' := by
  refine Ct.of2 [some (rv w 129), some (rv w a1), some (iv a2)] 0 rfl pn_RX8 (Nat.le_of_ble_eq_true rfl) ?_
  intro p e s m args below meth c C hr hlk
  unfold m_X8_takePaper at h
  refine g_aload_n C dX8_takePaper_0 rfl ?_
  refine g_aload_n C dX8_takePaper_1 rfl ?_
  refine g_getI (j := 9) C dX8_takePaper_2 ta1 (Nat.le_of_ble_eq_true rfl) (Nat.le_of_ble_eq_true rfl) fl_8_121 rfl rfl (fun i1 => ?_)
  refine g_iload_n C dX8_takePaper_5 rfl ?_
  obtain ⟨x2, qx2, h⟩ := bnd h
  refine g_callV1 (As := [iv (σ a1 9), iv a2]) C dX8_takePaper_6 mi_X8_paperLies ml_8_249 (ct_X8_paperLies i1 ia2 qx2) rfl rfl ⟨rfl, rfl⟩ ⟨Nat.le_of_ble_eq_true rfl, Nat.le_of_ble_eq_true rfl⟩ ⟨Nat.zero_le _, Nat.zero_le _⟩ rfl (Nat.le_of_ble_eq_true rfl) (fun ix2 => ?_)
  refine g_if_eq C dX8_takePaper_9 (zI ix2) rfl (tgt := 68) (fun c3 => ?_) (fun c3 => ?_)
  · have h := ifT c3 h
    exact g_vretP C dX8_takePaper_68 hr hlk h
  · have h := ifF c3 h
    refine g_iload_n C dX8_takePaper_12 rfl ?_
    refine g_if_lt C dX8_takePaper_13 ia2 rfl (tgt := 68) (fun c4 => ?_) (fun c4 => ?_)
    · have h := ifT c4 h
      exact g_vretP C dX8_takePaper_68 hr hlk h
    · have h := ifF c4 h
      refine g_iload_n C dX8_takePaper_16 rfl ?_
      refine g_bipush C dX8_takePaper_17 rfl ?_
      refine g_icmp_ge C dX8_takePaper_19 ia2 (by decide) rfl (tgt := 68) (fun c5 => ?_) (fun c5 => ?_)
      · have h := ifT c5 h
        exact g_vretP C dX8_takePaper_68 hr hlk h
      · have h := ifF c5 h
        refine g_aload_n C dX8_takePaper_22 rfl ?_
        refine g_getR (j := 3) C dX8_takePaper_23 rfl (Nat.le_of_ble_eq_true rfl) (Nat.le_of_ble_eq_true rfl) fl_8_15 rfl rfl (r := 131) rfl ?_
        refine g_aload_n C dX8_takePaper_26 rfl ?_
        refine g_getI (j := 9) C dX8_takePaper_27 ta1 (Nat.le_of_ble_eq_true rfl) (Nat.le_of_ble_eq_true rfl) fl_8_121 rfl rfl (fun i6 => ?_)
        refine g_dup2 C dX8_takePaper_30 rfl rfl ?_
        obtain ⟨x7, qx7, h⟩ := bnd h
        refine g_iald C dX8_takePaper_31 rfl rfl qx7 i6 (fun ix7 => ?_)
        refine g_iconst C dX8_takePaper_32 ?_
        refine g_iload_n C dX8_takePaper_33 rfl ?_
        refine g_ishl C dX8_takePaper_34 ?_
        refine g_iconst C dX8_takePaper_35 ?_
        refine g_ixor C dX8_takePaper_36 ?_
        refine g_iand C dX8_takePaper_37 ?_
        obtain ⟨σ8, qσ8, h⟩ := bnd h
        refine g_iast C dX8_takePaper_38 rfl rfl qσ8 i6 (iand _ _) ?_
        refine g_aload_n C dX8_takePaper_39 rfl ?_
        refine g_dup C dX8_takePaper_40 rfl ?_
        refine g_getI (j := 16) C dX8_takePaper_41 ta1 (Nat.le_of_ble_eq_true rfl) (Nat.le_of_ble_eq_true rfl) fl_8_258 rfl rfl (fun i9 => ?_)
        refine g_iconst C dX8_takePaper_44 ?_
        refine g_iload_n C dX8_takePaper_45 rfl ?_
        refine g_ishl C dX8_takePaper_46 ?_
        refine g_ior C dX8_takePaper_47 ?_
        obtain ⟨σ10, qσ10, h⟩ := bnd h
        refine g_putI (j := 16) C dX8_takePaper_48 ta1 (Nat.le_of_ble_eq_true rfl) (Nat.le_of_ble_eq_true rfl) fl_8_258 rfl rfl rfl rfl qσ10 (ior _ _) ?_
        refine g_aload_n C dX8_takePaper_51 rfl ?_
        refine g_aload_n C dX8_takePaper_52 rfl ?_
        refine g_iload_n C dX8_takePaper_53 rfl ?_
        refine g_aload_n C dX8_takePaper_54 rfl ?_
        refine g_getR (j := 11) C dX8_takePaper_55 rfl (Nat.le_of_ble_eq_true rfl) (Nat.le_of_ble_eq_true rfl) fl_8_26 rfl rfl (r := 142) rfl ?_
        refine g_aload_n C dX8_takePaper_58 rfl ?_
        refine g_getI (j := 9) C dX8_takePaper_59 ta1 (Nat.le_of_ble_eq_true rfl) (Nat.le_of_ble_eq_true rfl) fl_8_121 rfl rfl (fun i11 => ?_)
        obtain ⟨k12, qk12, h⟩ := bnd h
        refine g_aalI C dX8_takePaper_62 rfl rfl qk12 i11 ?_
        refine g_iload_n C dX8_takePaper_63 rfl ?_
        obtain ⟨x13, qx13, h⟩ := bnd h
        refine g_iald C dX8_takePaper_64 (rrB_142 qk12).1 (rrB_142 qk12).2 qx13 ia2 (fun ix13 => ?_)
        obtain ⟨σ14, qσ14, h⟩ := bnd h
        refine g_callV0 (As := [rv w a1, iv a2, iv x13]) C dX8_takePaper_65 mi_X8_learn ml_8_270 (ct_X8_learn ta1 ia2 ix13 qσ14) rfl rfl ⟨rfl, rfl⟩ ⟨Nat.le_of_ble_eq_true rfl, Nat.le_of_ble_eq_true rfl⟩ ⟨Nat.zero_le _, Nat.zero_le _⟩ rfl (Nat.le_of_ble_eq_true rfl) (fun _ => ?_)
        exact g_vretP C dX8_takePaper_68 hr hlk h
theorem dX8_tellSecret_0 : decode cX8_tellSecret 0 = .ok (.aload_n 2, 1) := by decide +kernel
theorem dX8_tellSecret_1 : decode cX8_tellSecret 1 = .ok (.getfield 178, 3) := by decide +kernel
theorem dX8_tellSecret_4 : decode cX8_tellSecret 4 = .ok (.bipush 15, 2) := by decide +kernel
theorem dX8_tellSecret_6 : decode cX8_tellSecret 6 = .ok (.invokevirtual 274, 3) := by decide +kernel
theorem dX8_tellSecret_9 : decode cX8_tellSecret 9 = .ok (.istore 4, 2) := by decide +kernel
theorem dX8_tellSecret_11 : decode cX8_tellSecret 11 = .ok (.aload_n 0, 1) := by decide +kernel
theorem dX8_tellSecret_12 : decode cX8_tellSecret 12 = .ok (.iload 4, 2) := by decide +kernel
theorem dX8_tellSecret_14 : decode cX8_tellSecret 14 = .ok (.invokevirtual 108, 3) := by decide +kernel
theorem dX8_tellSecret_17 : decode cX8_tellSecret 17 = .ok (.ifCond .eq 37, 3) := by decide +kernel
theorem dX8_tellSecret_20 : decode cX8_tellSecret 20 = .ok (.aload_n 2, 1) := by decide +kernel
theorem dX8_tellSecret_21 : decode cX8_tellSecret 21 = .ok (.iload_n 3, 1) := by decide +kernel
theorem dX8_tellSecret_22 : decode cX8_tellSecret 22 = .ok (.invokevirtual 252, 3) := by decide +kernel
theorem dX8_tellSecret_25 : decode cX8_tellSecret 25 = .ok (.ifCond .eq 29, 3) := by decide +kernel
theorem dX8_tellSecret_28 : decode cX8_tellSecret 28 = .ok (.aload_n 0, 1) := by decide +kernel
theorem dX8_tellSecret_29 : decode cX8_tellSecret 29 = .ok (.iload 4, 2) := by decide +kernel
theorem dX8_tellSecret_31 : decode cX8_tellSecret 31 = .ok (.invokevirtual 99, 3) := by decide +kernel
theorem dX8_tellSecret_34 : decode cX8_tellSecret 34 = .ok (.aload_n 2, 1) := by decide +kernel
theorem dX8_tellSecret_35 : decode cX8_tellSecret 35 = .ok (.getfield 121, 3) := by decide +kernel
theorem dX8_tellSecret_38 : decode cX8_tellSecret 38 = .ok (.if_icmp .ne 16, 3) := by decide +kernel
theorem dX8_tellSecret_41 : decode cX8_tellSecret 41 = .ok (.aload_n 0, 1) := by decide +kernel
theorem dX8_tellSecret_42 : decode cX8_tellSecret 42 = .ok (.aload_n 0, 1) := by decide +kernel
theorem dX8_tellSecret_43 : decode cX8_tellSecret 43 = .ok (.getfield 41, 3) := by decide +kernel
theorem dX8_tellSecret_46 : decode cX8_tellSecret 46 = .ok (.iload 4, 2) := by decide +kernel
theorem dX8_tellSecret_48 : decode cX8_tellSecret 48 = .ok (.aaload, 1) := by decide +kernel
theorem dX8_tellSecret_49 : decode cX8_tellSecret 49 = .ok (.iload_n 3, 1) := by decide +kernel
theorem dX8_tellSecret_50 : decode cX8_tellSecret 50 = .ok (.iload_n 1, 1) := by decide +kernel
theorem dX8_tellSecret_51 : decode cX8_tellSecret 51 = .ok (.invokevirtual 270, 3) := by decide +kernel
theorem dX8_tellSecret_54 : decode cX8_tellSecret 54 = .ok (.return_, 1) := by decide +kernel
abbrev rm_X8_tellSecret : Room := { frames := 2, cells := 0, slots := 0, locals := 43 }
set_option maxRecDepth 100000 in
set_option maxHeartbeats 4000000 in
theorem ct_X8_tellSecret {w : Wd} {l : Launch} {a1 : Int} {a2 : Nat} {a3 : Int} {σ : St} {σ' : St} (ia1 : InI a1) (ta2 : tg a2 = 0) (ia3 : InI a3) (h : m_X8_tellSecret a1 a2 a3 σ = some σ') : Ct w l yX8_tellSecret (Cond.code yX8_tellSecret cX8_tellSecret 5 none :: TB) rm_X8_tellSecret [rv w 129, iv a1, rv w a2, iv a3] σ none True σ' := by
  refine Ct.of2 [some (rv w 129), some (iv a1), some (rv w a2), some (iv a3), none] 1 rfl pn_RX8 (Nat.le_of_ble_eq_true rfl) ?_
  intro p e s m args below meth c C hr hlk
  unfold m_X8_tellSecret at h
  refine g_aload_n C dX8_tellSecret_0 rfl ?_
  refine g_getR (j := 3) C dX8_tellSecret_1 ta2 (Nat.le_of_ble_eq_true rfl) (Nat.le_of_ble_eq_true rfl) fl_8_178 rfl rfl (r := (a2 + 1)) (shR_0_3 ta2) ?_
  refine g_bipush C dX8_tellSecret_4 rfl ?_
  obtain ⟨x1, qx1, h⟩ := bnd h
  refine g_callV1 (As := [iv 15]) C dX8_tellSecret_6 mi_X3_innermost ml_8_274 (ct_X3_innermost (shT_0_3 ta2) (by decide) qx1) (shT_0_3 ta2) rfl ⟨rfl, rfl⟩ ⟨Nat.le_of_ble_eq_true rfl, Nat.le_of_ble_eq_true rfl⟩ ⟨Nat.zero_le _, Nat.zero_le _⟩ rfl (Nat.le_of_ble_eq_true rfl) (fun ix1 => ?_)
  refine g_istore (L1 := [some (rv w 129), some (iv a1), some (rv w a2), some (iv a3), some (iv x1)]) C dX8_tellSecret_9 rfl (Nat.le_of_ble_eq_true rfl) rfl ?_
  refine g_aload_n C dX8_tellSecret_11 rfl ?_
  refine g_iload C dX8_tellSecret_12 rfl ?_
  obtain ⟨x2, qx2, h⟩ := bnd h
  refine g_callV1 (As := [iv x1]) C dX8_tellSecret_14 mi_X8_isAgent ml_8_108 (ct_X8_isAgent ix1 qx2) rfl rfl ⟨rfl, rfl⟩ ⟨Nat.le_of_ble_eq_true rfl, Nat.le_of_ble_eq_true rfl⟩ ⟨Nat.zero_le _, Nat.zero_le _⟩ rfl (Nat.le_of_ble_eq_true rfl) (fun ix2 => ?_)
  refine g_if_eq C dX8_tellSecret_17 (zI ix2) rfl (tgt := 54) (fun c3 => ?_) (fun c3 => ?_)
  · have h := ifT c3 h
    exact g_vretP C dX8_tellSecret_54 hr hlk h
  · have h := ifF c3 h
    refine g_aload_n C dX8_tellSecret_20 rfl ?_
    refine g_iload_n C dX8_tellSecret_21 rfl ?_
    obtain ⟨x4, qx4, h⟩ := bnd h
    refine g_callV1 (As := [iv a3]) C dX8_tellSecret_22 mi_X0_knowsSecret ml_8_252 (ct_X0_knowsSecret ta2 ia3 qx4) ta2 rfl ⟨rfl, rfl⟩ ⟨Nat.le_of_ble_eq_true rfl, Nat.le_of_ble_eq_true rfl⟩ ⟨Nat.zero_le _, Nat.zero_le _⟩ rfl (Nat.le_of_ble_eq_true rfl) (fun ix4 => ?_)
    refine g_if_eq C dX8_tellSecret_25 (zI ix4) rfl (tgt := 54) (fun c5 => ?_) (fun c5 => ?_)
    · have h := ifT c5 h
      exact g_vretP C dX8_tellSecret_54 hr hlk h
    · have h := ifF c5 h
      refine g_aload_n C dX8_tellSecret_28 rfl ?_
      refine g_iload C dX8_tellSecret_29 rfl ?_
      obtain ⟨x6, qx6, h⟩ := bnd h
      refine g_callV1 (As := [iv x1]) C dX8_tellSecret_31 mi_X8_placeOf ml_8_99 (ct_X8_placeOf ix1 qx6) rfl rfl ⟨rfl, rfl⟩ ⟨Nat.le_of_ble_eq_true rfl, Nat.le_of_ble_eq_true rfl⟩ ⟨Nat.zero_le _, Nat.zero_le _⟩ rfl (Nat.le_of_ble_eq_true rfl) (fun ix6 => ?_)
      refine g_aload_n C dX8_tellSecret_34 rfl ?_
      refine g_getI (j := 9) C dX8_tellSecret_35 ta2 (Nat.le_of_ble_eq_true rfl) (Nat.le_of_ble_eq_true rfl) fl_8_121 rfl rfl (fun i7 => ?_)
      refine g_icmp_ne C dX8_tellSecret_38 ix6 i7 rfl (tgt := 54) (fun c8 => ?_) (fun c8 => ?_)
      · have h := ifF c8 h
        exact g_vretP C dX8_tellSecret_54 hr hlk h
      · have h := ifT c8 h
        refine g_aload_n C dX8_tellSecret_41 rfl ?_
        refine g_aload_n C dX8_tellSecret_42 rfl ?_
        refine g_getR (j := 10) C dX8_tellSecret_43 rfl (Nat.le_of_ble_eq_true rfl) (Nat.le_of_ble_eq_true rfl) fl_8_41 rfl rfl (r := 38) rfl ?_
        refine g_iload C dX8_tellSecret_46 rfl ?_
        obtain ⟨k9, qk9, h⟩ := bnd h
        refine g_aald C dX8_tellSecret_48 rfl rfl qk9 ix1 ?_
        refine g_iload_n C dX8_tellSecret_49 rfl ?_
        refine g_iload_n C dX8_tellSecret_50 rfl ?_
        obtain ⟨σ10, qσ10, h⟩ := bnd h
        refine g_callV0 (As := [rv w k9, iv a3, iv a1]) C dX8_tellSecret_51 mi_X8_learn ml_8_270 (ct_X8_learn (rrB_38 qk9) ia3 ia1 qσ10) rfl rfl ⟨rfl, rfl⟩ ⟨Nat.le_of_ble_eq_true rfl, Nat.le_of_ble_eq_true rfl⟩ ⟨Nat.zero_le _, Nat.zero_le _⟩ rfl (Nat.le_of_ble_eq_true rfl) (fun _ => ?_)
        exact g_vretP C dX8_tellSecret_54 hr hlk h
theorem dX8_handle_0 : decode cX8_handle 0 = .ok (.aload_n 0, 1) := by decide +kernel
theorem dX8_handle_1 : decode cX8_handle 1 = .ok (.getfield 29, 3) := by decide +kernel
theorem dX8_handle_4 : decode cX8_handle 4 = .ok (.aload_n 2, 1) := by decide +kernel
theorem dX8_handle_5 : decode cX8_handle 5 = .ok (.getfield 121, 3) := by decide +kernel
theorem dX8_handle_8 : decode cX8_handle 8 = .ok (.invokevirtual 246, 3) := by decide +kernel
theorem dX8_handle_11 : decode cX8_handle 11 = .ok (.ifCond .ne 4, 3) := by decide +kernel
theorem dX8_handle_14 : decode cX8_handle 14 = .ok (.return_, 1) := by decide +kernel
theorem dX8_handle_15 : decode cX8_handle 15 = .ok (.iconst 1, 1) := by decide +kernel
theorem dX8_handle_16 : decode cX8_handle 16 = .ok (.iload 4, 2) := by decide +kernel
theorem dX8_handle_18 : decode cX8_handle 18 = .ok (.ishl, 1) := by decide +kernel
theorem dX8_handle_19 : decode cX8_handle 19 = .ok (.istore 5, 2) := by decide +kernel
theorem dX8_handle_21 : decode cX8_handle 21 = .ok (.iload_n 3, 1) := by decide +kernel
theorem dX8_handle_22 : decode cX8_handle 22 = .ok (.lookupswitch 158 #[(1, 142), (12, 121), (14, 58), (18, 132), (23, 75), (25, 94)], 58) := by decide +kernel
theorem dX8_handle_80 : decode cX8_handle 80 = .ok (.aload_n 0, 1) := by decide +kernel
theorem dX8_handle_81 : decode cX8_handle 81 = .ok (.getfield 9, 3) := by decide +kernel
theorem dX8_handle_84 : decode cX8_handle 84 = .ok (.aload_n 2, 1) := by decide +kernel
theorem dX8_handle_85 : decode cX8_handle 85 = .ok (.getfield 121, 3) := by decide +kernel
theorem dX8_handle_88 : decode cX8_handle 88 = .ok (.dup2, 1) := by decide +kernel
theorem dX8_handle_89 : decode cX8_handle 89 = .ok (.iaload, 1) := by decide +kernel
theorem dX8_handle_90 : decode cX8_handle 90 = .ok (.iload 5, 2) := by decide +kernel
theorem dX8_handle_92 : decode cX8_handle 92 = .ok (.ior, 1) := by decide +kernel
theorem dX8_handle_93 : decode cX8_handle 93 = .ok (.iastore, 1) := by decide +kernel
theorem dX8_handle_94 : decode cX8_handle 94 = .ok (.goto 94, 3) := by decide +kernel
theorem dX8_handle_97 : decode cX8_handle 97 = .ok (.aload_n 0, 1) := by decide +kernel
theorem dX8_handle_98 : decode cX8_handle 98 = .ok (.getfield 9, 3) := by decide +kernel
theorem dX8_handle_101 : decode cX8_handle 101 = .ok (.aload_n 2, 1) := by decide +kernel
theorem dX8_handle_102 : decode cX8_handle 102 = .ok (.getfield 121, 3) := by decide +kernel
theorem dX8_handle_105 : decode cX8_handle 105 = .ok (.dup2, 1) := by decide +kernel
theorem dX8_handle_106 : decode cX8_handle 106 = .ok (.iaload, 1) := by decide +kernel
theorem dX8_handle_107 : decode cX8_handle 107 = .ok (.iload 5, 2) := by decide +kernel
theorem dX8_handle_109 : decode cX8_handle 109 = .ok (.iconst (-1), 1) := by decide +kernel
theorem dX8_handle_110 : decode cX8_handle 110 = .ok (.ixor, 1) := by decide +kernel
theorem dX8_handle_111 : decode cX8_handle 111 = .ok (.iand, 1) := by decide +kernel
theorem dX8_handle_112 : decode cX8_handle 112 = .ok (.iastore, 1) := by decide +kernel
theorem dX8_handle_113 : decode cX8_handle 113 = .ok (.goto 75, 3) := by decide +kernel
theorem dX8_handle_116 : decode cX8_handle 116 = .ok (.aload_n 2, 1) := by decide +kernel
theorem dX8_handle_117 : decode cX8_handle 117 = .ok (.dup, 1) := by decide +kernel
theorem dX8_handle_118 : decode cX8_handle 118 = .ok (.getfield 258, 3) := by decide +kernel
theorem dX8_handle_121 : decode cX8_handle 121 = .ok (.aload_n 2, 1) := by decide +kernel
theorem dX8_handle_122 : decode cX8_handle 122 = .ok (.iload 4, 2) := by decide +kernel
theorem dX8_handle_124 : decode cX8_handle 124 = .ok (.invokevirtual 252, 3) := by decide +kernel
theorem dX8_handle_127 : decode cX8_handle 127 = .ok (.ifCond .eq 8, 3) := by decide +kernel
theorem dX8_handle_130 : decode cX8_handle 130 = .ok (.iload 5, 2) := by decide +kernel
theorem dX8_handle_132 : decode cX8_handle 132 = .ok (.goto 4, 3) := by decide +kernel
theorem dX8_handle_135 : decode cX8_handle 135 = .ok (.iconst 0, 1) := by decide +kernel
theorem dX8_handle_136 : decode cX8_handle 136 = .ok (.ior, 1) := by decide +kernel
theorem dX8_handle_137 : decode cX8_handle 137 = .ok (.putfield 258, 3) := by decide +kernel
theorem dX8_handle_140 : decode cX8_handle 140 = .ok (.goto 48, 3) := by decide +kernel
theorem dX8_handle_143 : decode cX8_handle 143 = .ok (.aload_n 0, 1) := by decide +kernel
theorem dX8_handle_144 : decode cX8_handle 144 = .ok (.iload_n 1, 1) := by decide +kernel
theorem dX8_handle_145 : decode cX8_handle 145 = .ok (.aload_n 2, 1) := by decide +kernel
theorem dX8_handle_146 : decode cX8_handle 146 = .ok (.iload 4, 2) := by decide +kernel
theorem dX8_handle_148 : decode cX8_handle 148 = .ok (.invokevirtual 260, 3) := by decide +kernel
theorem dX8_handle_151 : decode cX8_handle 151 = .ok (.goto 37, 3) := by decide +kernel
theorem dX8_handle_154 : decode cX8_handle 154 = .ok (.aload_n 0, 1) := by decide +kernel
theorem dX8_handle_155 : decode cX8_handle 155 = .ok (.aload_n 2, 1) := by decide +kernel
theorem dX8_handle_156 : decode cX8_handle 156 = .ok (.iload 4, 2) := by decide +kernel
theorem dX8_handle_158 : decode cX8_handle 158 = .ok (.invokevirtual 264, 3) := by decide +kernel
theorem dX8_handle_161 : decode cX8_handle 161 = .ok (.goto 27, 3) := by decide +kernel
theorem dX8_handle_164 : decode cX8_handle 164 = .ok (.aload_n 2, 1) := by decide +kernel
theorem dX8_handle_165 : decode cX8_handle 165 = .ok (.dup, 1) := by decide +kernel
theorem dX8_handle_166 : decode cX8_handle 166 = .ok (.getfield 258, 3) := by decide +kernel
theorem dX8_handle_169 : decode cX8_handle 169 = .ok (.iload 5, 2) := by decide +kernel
theorem dX8_handle_171 : decode cX8_handle 171 = .ok (.iconst (-1), 1) := by decide +kernel
theorem dX8_handle_172 : decode cX8_handle 172 = .ok (.ixor, 1) := by decide +kernel
theorem dX8_handle_173 : decode cX8_handle 173 = .ok (.iand, 1) := by decide +kernel
theorem dX8_handle_174 : decode cX8_handle 174 = .ok (.putfield 258, 3) := by decide +kernel
theorem dX8_handle_177 : decode cX8_handle 177 = .ok (.goto 11, 3) := by decide +kernel
theorem dX8_handle_180 : decode cX8_handle 180 = .ok (.aload_n 0, 1) := by decide +kernel
theorem dX8_handle_181 : decode cX8_handle 181 = .ok (.iload_n 1, 1) := by decide +kernel
theorem dX8_handle_182 : decode cX8_handle 182 = .ok (.aload_n 2, 1) := by decide +kernel
theorem dX8_handle_183 : decode cX8_handle 183 = .ok (.iload 4, 2) := by decide +kernel
theorem dX8_handle_185 : decode cX8_handle 185 = .ok (.invokevirtual 267, 3) := by decide +kernel
theorem dX8_handle_188 : decode cX8_handle 188 = .ok (.return_, 1) := by decide +kernel
abbrev rm_X8_handle : Room := { frames := 3, cells := 0, slots := 0, locals := 67 }
set_option maxRecDepth 100000 in
set_option maxHeartbeats 4000000 in
theorem ct_X8_handle {w : Wd} {l : Launch} {a1 : Int} {a2 : Nat} {a3 : Int} {a4 : Int} {σ : St} {σ' : St} (ia1 : InI a1) (ta2 : tg a2 = 0) (ia3 : InI a3) (ia4 : InI a4) (h : m_X8_handle a1 a2 a3 a4 σ = some σ') : Ct w l yX8_handle (Cond.code yX8_handle cX8_handle 6 none :: TB) rm_X8_handle [rv w 129, iv a1, rv w a2, iv a3, iv a4] σ none True σ' := by
  refine Ct.of2 [some (rv w 129), some (iv a1), some (rv w a2), some (iv a3), some (iv a4), none] 1 rfl pn_RX8 (Nat.le_of_ble_eq_true rfl) ?_
  intro p e s m args below meth c C hr hlk
  unfold m_X8_handle at h
  refine g_aload_n C dX8_handle_0 rfl ?_
  refine g_getR (j := 7) C dX8_handle_1 rfl (Nat.le_of_ble_eq_true rfl) (Nat.le_of_ble_eq_true rfl) fl_8_29 rfl rfl (r := 1) rfl ?_
  refine g_aload_n C dX8_handle_4 rfl ?_
  refine g_getI (j := 9) C dX8_handle_5 ta2 (Nat.le_of_ble_eq_true rfl) (Nat.le_of_ble_eq_true rfl) fl_8_121 rfl rfl (fun i1 => ?_)
  obtain ⟨x2, qx2, h⟩ := bnd h
  refine g_callV1 (As := [iv (σ a2 9)]) C dX8_handle_8 mi_X10_hasSpot ml_8_246 (ct_X10_hasSpot i1 qx2) rfl rfl ⟨rfl, rfl⟩ ⟨Nat.le_of_ble_eq_true rfl, Nat.le_of_ble_eq_true rfl⟩ ⟨Nat.zero_le _, Nat.zero_le _⟩ rfl (Nat.le_of_ble_eq_true rfl) (fun ix2 => ?_)
  refine g_if_ne C dX8_handle_11 (zI ix2) rfl (tgt := 15) (fun c3 => ?_) (fun c3 => ?_)
  · have h := ifF c3 h
    refine g_iconst C dX8_handle_15 ?_
    refine g_iload C dX8_handle_16 rfl ?_
    refine g_ishl C dX8_handle_18 ?_
    obtain ⟨x4, qx4, h⟩ := bnd h
    have qx4 := Option.some.inj qx4
    have ix4 : InI x4 := by rw [← qx4]; exact (ishl _ _)
    refine g_E qx4 ?_
    refine g_istore (L1 := [some (rv w 129), some (iv a1), some (rv w a2), some (iv a3), some (iv a4), some (iv x4)]) C dX8_handle_19 rfl (Nat.le_of_ble_eq_true rfl) rfl ?_
    refine g_iload_n C dX8_handle_21 rfl ?_
    by_cases c5 : a3 = 1
    · have h := ifT c5 h
      refine g_look C dX8_handle_22 ia3 rfl (by rw [c5] <;> rfl) rfl (tgt := 164) ?_
      refine g_aload_n C dX8_handle_164 rfl ?_
      refine g_dup C dX8_handle_165 rfl ?_
      refine g_getI (j := 16) C dX8_handle_166 ta2 (Nat.le_of_ble_eq_true rfl) (Nat.le_of_ble_eq_true rfl) fl_8_258 rfl rfl (fun i6 => ?_)
      refine g_iload C dX8_handle_169 rfl ?_
      refine g_iconst C dX8_handle_171 ?_
      refine g_ixor C dX8_handle_172 ?_
      refine g_iand C dX8_handle_173 ?_
      obtain ⟨σ7, qσ7, h⟩ := bnd h
      refine g_putI (j := 16) C dX8_handle_174 ta2 (Nat.le_of_ble_eq_true rfl) (Nat.le_of_ble_eq_true rfl) fl_8_258 rfl rfl rfl rfl qσ7 (iand _ _) ?_
      refine g_goto C dX8_handle_177 rfl (tgt := 188) ?_
      exact g_vretP C dX8_handle_188 hr hlk h
    have h := ifF c5 h
    by_cases c8 : a3 = 12
    · have h := ifT c8 h
      refine g_look C dX8_handle_22 ia3 rfl (by rw [c8] <;> rfl) rfl (tgt := 143) ?_
      refine g_aload_n C dX8_handle_143 rfl ?_
      refine g_iload_n C dX8_handle_144 rfl ?_
      refine g_aload_n C dX8_handle_145 rfl ?_
      refine g_iload C dX8_handle_146 rfl ?_
      obtain ⟨σ9, qσ9, h⟩ := bnd h
      refine g_callV0 (As := [iv a1, rv w a2, iv a4]) C dX8_handle_148 mi_X8_leavePaper ml_8_260 (ct_X8_leavePaper ia1 ta2 ia4 qσ9) rfl rfl ⟨rfl, rfl⟩ ⟨Nat.le_of_ble_eq_true rfl, Nat.le_of_ble_eq_true rfl⟩ ⟨Nat.zero_le _, Nat.zero_le _⟩ rfl (Nat.le_of_ble_eq_true rfl) (fun _ => ?_)
      refine g_goto C dX8_handle_151 rfl (tgt := 188) ?_
      exact g_vretP C dX8_handle_188 hr hlk h
    have h := ifF c8 h
    by_cases c10 : a3 = 14
    · have h := ifT c10 h
      refine g_look C dX8_handle_22 ia3 rfl (by rw [c10] <;> rfl) rfl (tgt := 80) ?_
      refine g_aload_n C dX8_handle_80 rfl ?_
      refine g_getR (j := 2) C dX8_handle_81 rfl (Nat.le_of_ble_eq_true rfl) (Nat.le_of_ble_eq_true rfl) fl_8_9 rfl rfl (r := 130) rfl ?_
      refine g_aload_n C dX8_handle_84 rfl ?_
      refine g_getI (j := 9) C dX8_handle_85 ta2 (Nat.le_of_ble_eq_true rfl) (Nat.le_of_ble_eq_true rfl) fl_8_121 rfl rfl (fun i11 => ?_)
      refine g_dup2 C dX8_handle_88 rfl rfl ?_
      obtain ⟨x12, qx12, h⟩ := bnd h
      refine g_iald C dX8_handle_89 rfl rfl qx12 i11 (fun ix12 => ?_)
      refine g_iload C dX8_handle_90 rfl ?_
      refine g_ior C dX8_handle_92 ?_
      obtain ⟨σ13, qσ13, h⟩ := bnd h
      refine g_iast C dX8_handle_93 rfl rfl qσ13 i11 (ior _ _) ?_
      refine g_goto C dX8_handle_94 rfl (tgt := 188) ?_
      exact g_vretP C dX8_handle_188 hr hlk h
    have h := ifF c10 h
    by_cases c14 : a3 = 18
    · have h := ifT c14 h
      refine g_look C dX8_handle_22 ia3 rfl (by rw [c14] <;> rfl) rfl (tgt := 154) ?_
      refine g_aload_n C dX8_handle_154 rfl ?_
      refine g_aload_n C dX8_handle_155 rfl ?_
      refine g_iload C dX8_handle_156 rfl ?_
      obtain ⟨σ15, qσ15, h⟩ := bnd h
      refine g_callV0 (As := [rv w a2, iv a4]) C dX8_handle_158 mi_X8_takePaper ml_8_264 (ct_X8_takePaper ta2 ia4 qσ15) rfl rfl ⟨rfl, rfl⟩ ⟨Nat.le_of_ble_eq_true rfl, Nat.le_of_ble_eq_true rfl⟩ ⟨Nat.zero_le _, Nat.zero_le _⟩ rfl (Nat.le_of_ble_eq_true rfl) (fun _ => ?_)
      refine g_goto C dX8_handle_161 rfl (tgt := 188) ?_
      exact g_vretP C dX8_handle_188 hr hlk h
    have h := ifF c14 h
    by_cases c16 : a3 = 23
    · have h := ifT c16 h
      refine g_look C dX8_handle_22 ia3 rfl (by rw [c16] <;> rfl) rfl (tgt := 97) ?_
      refine g_aload_n C dX8_handle_97 rfl ?_
      refine g_getR (j := 2) C dX8_handle_98 rfl (Nat.le_of_ble_eq_true rfl) (Nat.le_of_ble_eq_true rfl) fl_8_9 rfl rfl (r := 130) rfl ?_
      refine g_aload_n C dX8_handle_101 rfl ?_
      refine g_getI (j := 9) C dX8_handle_102 ta2 (Nat.le_of_ble_eq_true rfl) (Nat.le_of_ble_eq_true rfl) fl_8_121 rfl rfl (fun i17 => ?_)
      refine g_dup2 C dX8_handle_105 rfl rfl ?_
      obtain ⟨x18, qx18, h⟩ := bnd h
      refine g_iald C dX8_handle_106 rfl rfl qx18 i17 (fun ix18 => ?_)
      refine g_iload C dX8_handle_107 rfl ?_
      refine g_iconst C dX8_handle_109 ?_
      refine g_ixor C dX8_handle_110 ?_
      refine g_iand C dX8_handle_111 ?_
      obtain ⟨σ19, qσ19, h⟩ := bnd h
      refine g_iast C dX8_handle_112 rfl rfl qσ19 i17 (iand _ _) ?_
      refine g_goto C dX8_handle_113 rfl (tgt := 188) ?_
      exact g_vretP C dX8_handle_188 hr hlk h
    have h := ifF c16 h
    by_cases c20 : a3 = 25
    · have h := ifT c20 h
      refine g_look C dX8_handle_22 ia3 rfl (by rw [c20] <;> rfl) rfl (tgt := 116) ?_
      refine g_aload_n C dX8_handle_116 rfl ?_
      refine g_dup C dX8_handle_117 rfl ?_
      refine g_getI (j := 16) C dX8_handle_118 ta2 (Nat.le_of_ble_eq_true rfl) (Nat.le_of_ble_eq_true rfl) fl_8_258 rfl rfl (fun i21 => ?_)
      refine g_aload_n C dX8_handle_121 rfl ?_
      refine g_iload C dX8_handle_122 rfl ?_
      obtain ⟨x22, qx22, h⟩ := bnd h
      refine g_callV1 (As := [iv a4]) C dX8_handle_124 mi_X0_knowsSecret ml_8_252 (ct_X0_knowsSecret ta2 ia4 qx22) ta2 rfl ⟨rfl, rfl⟩ ⟨Nat.le_of_ble_eq_true rfl, Nat.le_of_ble_eq_true rfl⟩ ⟨Nat.zero_le _, Nat.zero_le _⟩ rfl (Nat.le_of_ble_eq_true rfl) (fun ix22 => ?_)
      refine g_if_eq C dX8_handle_127 (zI ix22) rfl (tgt := 135) (fun c23 => ?_) (fun c23 => ?_)
      · have h := ifT c23 h
        refine g_iconst C dX8_handle_135 ?_
        refine g_ior C dX8_handle_136 ?_
        obtain ⟨σ24, qσ24, h⟩ := bnd h
        refine g_putI (j := 16) C dX8_handle_137 ta2 (Nat.le_of_ble_eq_true rfl) (Nat.le_of_ble_eq_true rfl) fl_8_258 rfl rfl rfl rfl qσ24 (ior _ _) ?_
        refine g_goto C dX8_handle_140 rfl (tgt := 188) ?_
        exact g_vretP C dX8_handle_188 hr hlk h
      · have h := ifF c23 h
        refine g_iload C dX8_handle_130 rfl ?_
        refine g_goto C dX8_handle_132 rfl (tgt := 136) ?_
        refine g_ior C dX8_handle_136 ?_
        obtain ⟨σ25, qσ25, h⟩ := bnd h
        refine g_putI (j := 16) C dX8_handle_137 ta2 (Nat.le_of_ble_eq_true rfl) (Nat.le_of_ble_eq_true rfl) fl_8_258 rfl rfl rfl rfl qσ25 (ior _ _) ?_
        refine g_goto C dX8_handle_140 rfl (tgt := 188) ?_
        exact g_vretP C dX8_handle_188 hr hlk h
    have h := ifF c20 h
    refine g_look (off := 158) C dX8_handle_22 ia3 rfl (by simp [Op.lookupswitch.offset, Ne.symm c5, Ne.symm c8, Ne.symm c10, Ne.symm c14, Ne.symm c16, Ne.symm c20]) rfl (tgt := 180) ?_
    refine g_aload_n C dX8_handle_180 rfl ?_
    refine g_iload_n C dX8_handle_181 rfl ?_
    refine g_aload_n C dX8_handle_182 rfl ?_
    refine g_iload C dX8_handle_183 rfl ?_
    obtain ⟨σ26, qσ26, h⟩ := bnd h
    refine g_callV0 (As := [iv a1, rv w a2, iv a4]) C dX8_handle_185 mi_X8_tellSecret ml_8_267 (ct_X8_tellSecret ia1 ta2 ia4 qσ26) rfl rfl ⟨rfl, rfl⟩ ⟨Nat.le_of_ble_eq_true rfl, Nat.le_of_ble_eq_true rfl⟩ ⟨Nat.zero_le _, Nat.zero_le _⟩ rfl (Nat.le_of_ble_eq_true rfl) (fun _ => ?_)
    exact g_vretP C dX8_handle_188 hr hlk h
  · have h := ifT c3 h
    exact g_vretP C dX8_handle_14 hr hlk h
theorem dX8_takesTime_0 : decode cX8_takesTime 0 = .ok (.aload_n 0, 1) := by decide +kernel
theorem dX8_takesTime_1 : decode cX8_takesTime 1 = .ok (.getfield 33, 3) := by decide +kernel
theorem dX8_takesTime_4 : decode cX8_takesTime 4 = .ok (.aload_n 2, 1) := by decide +kernel
theorem dX8_takesTime_5 : decode cX8_takesTime 5 = .ok (.getfield 172, 3) := by decide +kernel
theorem dX8_takesTime_8 : decode cX8_takesTime 8 = .ok (.invokevirtual 188, 3) := by decide +kernel
theorem dX8_takesTime_11 : decode cX8_takesTime 11 = .ok (.ifCond .ne 5, 3) := by decide +kernel
theorem dX8_takesTime_14 : decode cX8_takesTime 14 = .ok (.iconst 0, 1) := by decide +kernel
theorem dX8_takesTime_15 : decode cX8_takesTime 15 = .ok (.ireturn, 1) := by decide +kernel
theorem dX8_takesTime_16 : decode cX8_takesTime 16 = .ok (.aload_n 2, 1) := by decide +kernel
theorem dX8_takesTime_17 : decode cX8_takesTime 17 = .ok (.getfield 172, 3) := by decide +kernel
theorem dX8_takesTime_20 : decode cX8_takesTime 20 = .ok (.istore_n 3, 1) := by decide +kernel
theorem dX8_takesTime_21 : decode cX8_takesTime 21 = .ok (.aload_n 0, 1) := by decide +kernel
theorem dX8_takesTime_22 : decode cX8_takesTime 22 = .ok (.getfield 33, 3) := by decide +kernel
theorem dX8_takesTime_25 : decode cX8_takesTime 25 = .ok (.getfield 211, 3) := by decide +kernel
theorem dX8_takesTime_28 : decode cX8_takesTime 28 = .ok (.iload_n 3, 1) := by decide +kernel
theorem dX8_takesTime_29 : decode cX8_takesTime 29 = .ok (.iaload, 1) := by decide +kernel
theorem dX8_takesTime_30 : decode cX8_takesTime 30 = .ok (.istore 4, 2) := by decide +kernel
theorem dX8_takesTime_32 : decode cX8_takesTime 32 = .ok (.aload_n 0, 1) := by decide +kernel
theorem dX8_takesTime_33 : decode cX8_takesTime 33 = .ok (.getfield 33, 3) := by decide +kernel
theorem dX8_takesTime_36 : decode cX8_takesTime 36 = .ok (.getfield 197, 3) := by decide +kernel
theorem dX8_takesTime_39 : decode cX8_takesTime 39 = .ok (.iload_n 3, 1) := by decide +kernel
theorem dX8_takesTime_40 : decode cX8_takesTime 40 = .ok (.iaload, 1) := by decide +kernel
theorem dX8_takesTime_41 : decode cX8_takesTime 41 = .ok (.tableswitch 380 0 31 #[249, 380, 380, 259, 380, 380, 380, 143, 380, 327, 380, 380, 380, 285, 380, 231, 380, 380, 380, 380, 193, 161, 380, 380, 380, 380, 380, 380, 380, 380, 380, 294], 143) := by decide +kernel
theorem dX8_takesTime_184 : decode cX8_takesTime 184 = .ok (.aload_n 2, 1) := by decide +kernel
theorem dX8_takesTime_185 : decode cX8_takesTime 185 = .ok (.dup, 1) := by decide +kernel
theorem dX8_takesTime_186 : decode cX8_takesTime 186 = .ok (.getfield 172, 3) := by decide +kernel
theorem dX8_takesTime_189 : decode cX8_takesTime 189 = .ok (.iconst 1, 1) := by decide +kernel
theorem dX8_takesTime_190 : decode cX8_takesTime 190 = .ok (.iadd, 1) := by decide +kernel
theorem dX8_takesTime_191 : decode cX8_takesTime 191 = .ok (.putfield 172, 3) := by decide +kernel
theorem dX8_takesTime_194 : decode cX8_takesTime 194 = .ok (.aload_n 0, 1) := by decide +kernel
theorem dX8_takesTime_195 : decode cX8_takesTime 195 = .ok (.aload_n 2, 1) := by decide +kernel
theorem dX8_takesTime_196 : decode cX8_takesTime 196 = .ok (.iload 4, 2) := by decide +kernel
theorem dX8_takesTime_198 : decode cX8_takesTime 198 = .ok (.invokevirtual 214, 3) := by decide +kernel
theorem dX8_takesTime_201 : decode cX8_takesTime 201 = .ok (.ireturn, 1) := by decide +kernel
theorem dX8_takesTime_202 : decode cX8_takesTime 202 = .ok (.aload_n 2, 1) := by decide +kernel
theorem dX8_takesTime_203 : decode cX8_takesTime 203 = .ok (.dup, 1) := by decide +kernel
theorem dX8_takesTime_204 : decode cX8_takesTime 204 = .ok (.getfield 172, 3) := by decide +kernel
theorem dX8_takesTime_207 : decode cX8_takesTime 207 = .ok (.iconst 1, 1) := by decide +kernel
theorem dX8_takesTime_208 : decode cX8_takesTime 208 = .ok (.iadd, 1) := by decide +kernel
theorem dX8_takesTime_209 : decode cX8_takesTime 209 = .ok (.putfield 172, 3) := by decide +kernel
theorem dX8_takesTime_212 : decode cX8_takesTime 212 = .ok (.aload_n 2, 1) := by decide +kernel
theorem dX8_takesTime_213 : decode cX8_takesTime 213 = .ok (.aload_n 0, 1) := by decide +kernel
theorem dX8_takesTime_214 : decode cX8_takesTime 214 = .ok (.getfield 77, 3) := by decide +kernel
theorem dX8_takesTime_217 : decode cX8_takesTime 217 = .ok (.iload 4, 2) := by decide +kernel
theorem dX8_takesTime_219 : decode cX8_takesTime 219 = .ok (.iadd, 1) := by decide +kernel
theorem dX8_takesTime_220 : decode cX8_takesTime 220 = .ok (.putfield 131, 3) := by decide +kernel
theorem dX8_takesTime_223 : decode cX8_takesTime 223 = .ok (.iload 4, 2) := by decide +kernel
theorem dX8_takesTime_225 : decode cX8_takesTime 225 = .ok (.ifCond .le 7, 3) := by decide +kernel
theorem dX8_takesTime_228 : decode cX8_takesTime 228 = .ok (.iconst 1, 1) := by decide +kernel
theorem dX8_takesTime_229 : decode cX8_takesTime 229 = .ok (.goto 4, 3) := by decide +kernel
theorem dX8_takesTime_232 : decode cX8_takesTime 232 = .ok (.iconst 0, 1) := by decide +kernel
theorem dX8_takesTime_233 : decode cX8_takesTime 233 = .ok (.ireturn, 1) := by decide +kernel
theorem dX8_takesTime_234 : decode cX8_takesTime 234 = .ok (.aload_n 2, 1) := by decide +kernel
theorem dX8_takesTime_235 : decode cX8_takesTime 235 = .ok (.dup, 1) := by decide +kernel
theorem dX8_takesTime_236 : decode cX8_takesTime 236 = .ok (.getfield 172, 3) := by decide +kernel
theorem dX8_takesTime_239 : decode cX8_takesTime 239 = .ok (.iconst 1, 1) := by decide +kernel
theorem dX8_takesTime_240 : decode cX8_takesTime 240 = .ok (.iadd, 1) := by decide +kernel
theorem dX8_takesTime_241 : decode cX8_takesTime 241 = .ok (.putfield 172, 3) := by decide +kernel
theorem dX8_takesTime_244 : decode cX8_takesTime 244 = .ok (.aload_n 2, 1) := by decide +kernel
theorem dX8_takesTime_245 : decode cX8_takesTime 245 = .ok (.aload_n 0, 1) := by decide +kernel
theorem dX8_takesTime_246 : decode cX8_takesTime 246 = .ok (.getfield 77, 3) := by decide +kernel
theorem dX8_takesTime_249 : decode cX8_takesTime 249 = .ok (.iload 4, 2) := by decide +kernel
theorem dX8_takesTime_251 : decode cX8_takesTime 251 = .ok (.invokestatic 218, 3) := by decide +kernel
theorem dX8_takesTime_254 : decode cX8_takesTime 254 = .ok (.putfield 131, 3) := by decide +kernel
theorem dX8_takesTime_257 : decode cX8_takesTime 257 = .ok (.iload 4, 2) := by decide +kernel
theorem dX8_takesTime_259 : decode cX8_takesTime 259 = .ok (.aload_n 0, 1) := by decide +kernel
theorem dX8_takesTime_260 : decode cX8_takesTime 260 = .ok (.getfield 77, 3) := by decide +kernel
theorem dX8_takesTime_263 : decode cX8_takesTime 263 = .ok (.if_icmp .le 7, 3) := by decide +kernel
theorem dX8_takesTime_266 : decode cX8_takesTime 266 = .ok (.iconst 1, 1) := by decide +kernel
theorem dX8_takesTime_267 : decode cX8_takesTime 267 = .ok (.goto 4, 3) := by decide +kernel
theorem dX8_takesTime_270 : decode cX8_takesTime 270 = .ok (.iconst 0, 1) := by decide +kernel
theorem dX8_takesTime_271 : decode cX8_takesTime 271 = .ok (.ireturn, 1) := by decide +kernel
theorem dX8_takesTime_272 : decode cX8_takesTime 272 = .ok (.aload_n 0, 1) := by decide +kernel
theorem dX8_takesTime_273 : decode cX8_takesTime 273 = .ok (.iload_n 1, 1) := by decide +kernel
theorem dX8_takesTime_274 : decode cX8_takesTime 274 = .ok (.aload_n 2, 1) := by decide +kernel
theorem dX8_takesTime_275 : decode cX8_takesTime 275 = .ok (.iload 4, 2) := by decide +kernel
theorem dX8_takesTime_277 : decode cX8_takesTime 277 = .ok (.aload_n 0, 1) := by decide +kernel
theorem dX8_takesTime_278 : decode cX8_takesTime 278 = .ok (.getfield 33, 3) := by decide +kernel
theorem dX8_takesTime_281 : decode cX8_takesTime 281 = .ok (.getfield 221, 3) := by decide +kernel
theorem dX8_takesTime_284 : decode cX8_takesTime 284 = .ok (.iload_n 3, 1) := by decide +kernel
theorem dX8_takesTime_285 : decode cX8_takesTime 285 = .ok (.iaload, 1) := by decide +kernel
theorem dX8_takesTime_286 : decode cX8_takesTime 286 = .ok (.invokevirtual 224, 3) := by decide +kernel
theorem dX8_takesTime_289 : decode cX8_takesTime 289 = .ok (.ireturn, 1) := by decide +kernel
theorem dX8_takesTime_290 : decode cX8_takesTime 290 = .ok (.aload_n 2, 1) := by decide +kernel
theorem dX8_takesTime_291 : decode cX8_takesTime 291 = .ok (.aload_n 0, 1) := by decide +kernel
theorem dX8_takesTime_292 : decode cX8_takesTime 292 = .ok (.getfield 77, 3) := by decide +kernel
theorem dX8_takesTime_295 : decode cX8_takesTime 295 = .ok (.putfield 128, 3) := by decide +kernel
theorem dX8_takesTime_298 : decode cX8_takesTime 298 = .ok (.iconst 0, 1) := by decide +kernel
theorem dX8_takesTime_299 : decode cX8_takesTime 299 = .ok (.ireturn, 1) := by decide +kernel
theorem dX8_takesTime_300 : decode cX8_takesTime 300 = .ok (.aload_n 2, 1) := by decide +kernel
theorem dX8_takesTime_301 : decode cX8_takesTime 301 = .ok (.getfield 178, 3) := by decide +kernel
theorem dX8_takesTime_304 : decode cX8_takesTime 304 = .ok (.iconst 3, 1) := by decide +kernel
theorem dX8_takesTime_305 : decode cX8_takesTime 305 = .ok (.iload_n 3, 1) := by decide +kernel
theorem dX8_takesTime_306 : decode cX8_takesTime 306 = .ok (.iconst 1, 1) := by decide +kernel
theorem dX8_takesTime_307 : decode cX8_takesTime 307 = .ok (.iadd, 1) := by decide +kernel
theorem dX8_takesTime_308 : decode cX8_takesTime 308 = .ok (.invokevirtual 182, 3) := by decide +kernel
theorem dX8_takesTime_311 : decode cX8_takesTime 311 = .ok (.aload_n 2, 1) := by decide +kernel
theorem dX8_takesTime_312 : decode cX8_takesTime 312 = .ok (.aload_n 0, 1) := by decide +kernel
theorem dX8_takesTime_313 : decode cX8_takesTime 313 = .ok (.getfield 33, 3) := by decide +kernel
theorem dX8_takesTime_316 : decode cX8_takesTime 316 = .ok (.iload 4, 2) := by decide +kernel
theorem dX8_takesTime_318 : decode cX8_takesTime 318 = .ok (.invokevirtual 67, 3) := by decide +kernel
theorem dX8_takesTime_321 : decode cX8_takesTime 321 = .ok (.putfield 172, 3) := by decide +kernel
theorem dX8_takesTime_324 : decode cX8_takesTime 324 = .ok (.iconst 0, 1) := by decide +kernel
theorem dX8_takesTime_325 : decode cX8_takesTime 325 = .ok (.ireturn, 1) := by decide +kernel
theorem dX8_takesTime_326 : decode cX8_takesTime 326 = .ok (.aload_n 0, 1) := by decide +kernel
theorem dX8_takesTime_327 : decode cX8_takesTime 327 = .ok (.aload_n 2, 1) := by decide +kernel
theorem dX8_takesTime_328 : decode cX8_takesTime 328 = .ok (.iload 4, 2) := by decide +kernel
theorem dX8_takesTime_330 : decode cX8_takesTime 330 = .ok (.invokevirtual 228, 3) := by decide +kernel
theorem dX8_takesTime_333 : decode cX8_takesTime 333 = .ok (.iconst 0, 1) := by decide +kernel
theorem dX8_takesTime_334 : decode cX8_takesTime 334 = .ok (.ireturn, 1) := by decide +kernel
theorem dX8_takesTime_335 : decode cX8_takesTime 335 = .ok (.aload_n 2, 1) := by decide +kernel
theorem dX8_takesTime_336 : decode cX8_takesTime 336 = .ok (.getfield 178, 3) := by decide +kernel
theorem dX8_takesTime_339 : decode cX8_takesTime 339 = .ok (.bipush 13, 2) := by decide +kernel
theorem dX8_takesTime_341 : decode cX8_takesTime 341 = .ok (.aload_n 2, 1) := by decide +kernel
theorem dX8_takesTime_342 : decode cX8_takesTime 342 = .ok (.getfield 178, 3) := by decide +kernel
theorem dX8_takesTime_345 : decode cX8_takesTime 345 = .ok (.invokevirtual 204, 3) := by decide +kernel
theorem dX8_takesTime_348 : decode cX8_takesTime 348 = .ok (.iconst 1, 1) := by decide +kernel
theorem dX8_takesTime_349 : decode cX8_takesTime 349 = .ok (.isub, 1) := by decide +kernel
theorem dX8_takesTime_350 : decode cX8_takesTime 350 = .ok (.invokevirtual 182, 3) := by decide +kernel
theorem dX8_takesTime_353 : decode cX8_takesTime 353 = .ok (.aload_n 2, 1) := by decide +kernel
theorem dX8_takesTime_354 : decode cX8_takesTime 354 = .ok (.aload_n 0, 1) := by decide +kernel
theorem dX8_takesTime_355 : decode cX8_takesTime 355 = .ok (.getfield 33, 3) := by decide +kernel
theorem dX8_takesTime_358 : decode cX8_takesTime 358 = .ok (.getfield 191, 3) := by decide +kernel
theorem dX8_takesTime_361 : decode cX8_takesTime 361 = .ok (.iload_n 3, 1) := by decide +kernel
theorem dX8_takesTime_362 : decode cX8_takesTime 362 = .ok (.iaload, 1) := by decide +kernel
theorem dX8_takesTime_363 : decode cX8_takesTime 363 = .ok (.putfield 172, 3) := by decide +kernel
theorem dX8_takesTime_366 : decode cX8_takesTime 366 = .ok (.iconst 0, 1) := by decide +kernel
theorem dX8_takesTime_367 : decode cX8_takesTime 367 = .ok (.ireturn, 1) := by decide +kernel
theorem dX8_takesTime_368 : decode cX8_takesTime 368 = .ok (.aload_n 0, 1) := by decide +kernel
theorem dX8_takesTime_369 : decode cX8_takesTime 369 = .ok (.aload_n 2, 1) := by decide +kernel
theorem dX8_takesTime_370 : decode cX8_takesTime 370 = .ok (.aload_n 0, 1) := by decide +kernel
theorem dX8_takesTime_371 : decode cX8_takesTime 371 = .ok (.getfield 33, 3) := by decide +kernel
theorem dX8_takesTime_374 : decode cX8_takesTime 374 = .ok (.getfield 221, 3) := by decide +kernel
theorem dX8_takesTime_377 : decode cX8_takesTime 377 = .ok (.iload_n 3, 1) := by decide +kernel
theorem dX8_takesTime_378 : decode cX8_takesTime 378 = .ok (.iaload, 1) := by decide +kernel
theorem dX8_takesTime_379 : decode cX8_takesTime 379 = .ok (.iload 4, 2) := by decide +kernel
theorem dX8_takesTime_381 : decode cX8_takesTime 381 = .ok (.invokevirtual 231, 3) := by decide +kernel
theorem dX8_takesTime_384 : decode cX8_takesTime 384 = .ok (.istore 5, 2) := by decide +kernel
theorem dX8_takesTime_386 : decode cX8_takesTime 386 = .ok (.aload_n 2, 1) := by decide +kernel
theorem dX8_takesTime_387 : decode cX8_takesTime 387 = .ok (.iload 5, 2) := by decide +kernel
theorem dX8_takesTime_389 : decode cX8_takesTime 389 = .ok (.aload_n 0, 1) := by decide +kernel
theorem dX8_takesTime_390 : decode cX8_takesTime 390 = .ok (.getfield 33, 3) := by decide +kernel
theorem dX8_takesTime_393 : decode cX8_takesTime 393 = .ok (.getfield 235, 3) := by decide +kernel
theorem dX8_takesTime_396 : decode cX8_takesTime 396 = .ok (.iload_n 3, 1) := by decide +kernel
theorem dX8_takesTime_397 : decode cX8_takesTime 397 = .ok (.baload, 1) := by decide +kernel
theorem dX8_takesTime_398 : decode cX8_takesTime 398 = .ok (.if_icmp .ne 9, 3) := by decide +kernel
theorem dX8_takesTime_401 : decode cX8_takesTime 401 = .ok (.iload_n 3, 1) := by decide +kernel
theorem dX8_takesTime_402 : decode cX8_takesTime 402 = .ok (.iconst 1, 1) := by decide +kernel
theorem dX8_takesTime_403 : decode cX8_takesTime 403 = .ok (.iadd, 1) := by decide +kernel
theorem dX8_takesTime_404 : decode cX8_takesTime 404 = .ok (.goto 12, 3) := by decide +kernel
theorem dX8_takesTime_407 : decode cX8_takesTime 407 = .ok (.aload_n 0, 1) := by decide +kernel
theorem dX8_takesTime_408 : decode cX8_takesTime 408 = .ok (.getfield 33, 3) := by decide +kernel
theorem dX8_takesTime_411 : decode cX8_takesTime 411 = .ok (.getfield 191, 3) := by decide +kernel
theorem dX8_takesTime_414 : decode cX8_takesTime 414 = .ok (.iload_n 3, 1) := by decide +kernel
theorem dX8_takesTime_415 : decode cX8_takesTime 415 = .ok (.iaload, 1) := by decide +kernel
theorem dX8_takesTime_416 : decode cX8_takesTime 416 = .ok (.putfield 172, 3) := by decide +kernel
theorem dX8_takesTime_419 : decode cX8_takesTime 419 = .ok (.iconst 0, 1) := by decide +kernel
theorem dX8_takesTime_420 : decode cX8_takesTime 420 = .ok (.ireturn, 1) := by decide +kernel
theorem dX8_takesTime_421 : decode cX8_takesTime 421 = .ok (.aload_n 2, 1) := by decide +kernel
theorem dX8_takesTime_422 : decode cX8_takesTime 422 = .ok (.dup, 1) := by decide +kernel
theorem dX8_takesTime_423 : decode cX8_takesTime 423 = .ok (.getfield 172, 3) := by decide +kernel
theorem dX8_takesTime_426 : decode cX8_takesTime 426 = .ok (.iconst 1, 1) := by decide +kernel
theorem dX8_takesTime_427 : decode cX8_takesTime 427 = .ok (.iadd, 1) := by decide +kernel
theorem dX8_takesTime_428 : decode cX8_takesTime 428 = .ok (.putfield 172, 3) := by decide +kernel
theorem dX8_takesTime_431 : decode cX8_takesTime 431 = .ok (.aload_n 0, 1) := by decide +kernel
theorem dX8_takesTime_432 : decode cX8_takesTime 432 = .ok (.iload_n 1, 1) := by decide +kernel
theorem dX8_takesTime_433 : decode cX8_takesTime 433 = .ok (.aload_n 2, 1) := by decide +kernel
theorem dX8_takesTime_434 : decode cX8_takesTime 434 = .ok (.aload_n 0, 1) := by decide +kernel
theorem dX8_takesTime_435 : decode cX8_takesTime 435 = .ok (.getfield 33, 3) := by decide +kernel
theorem dX8_takesTime_438 : decode cX8_takesTime 438 = .ok (.getfield 197, 3) := by decide +kernel
theorem dX8_takesTime_441 : decode cX8_takesTime 441 = .ok (.iload_n 3, 1) := by decide +kernel
theorem dX8_takesTime_442 : decode cX8_takesTime 442 = .ok (.iaload, 1) := by decide +kernel
theorem dX8_takesTime_443 : decode cX8_takesTime 443 = .ok (.iload 4, 2) := by decide +kernel
theorem dX8_takesTime_445 : decode cX8_takesTime 445 = .ok (.invokevirtual 239, 3) := by decide +kernel
theorem dX8_takesTime_448 : decode cX8_takesTime 448 = .ok (.iconst 0, 1) := by decide +kernel
theorem dX8_takesTime_449 : decode cX8_takesTime 449 = .ok (.ireturn, 1) := by decide +kernel
abbrev rm_X8_takesTime : Room := { frames := 4, cells := 0, slots := 0, locals := 93 }
set_option maxRecDepth 100000 in
set_option maxHeartbeats 4000000 in
theorem ct_X8_takesTime {w : Wd} {l : Launch} {a1 : Int} {a2 : Nat} {σ : St} {y : Int} {σ' : St} (ia1 : InI a1) (ta2 : tg a2 = 0) (h : m_X8_takesTime a1 a2 σ = some (y, σ')) : Ct w l yX8_takesTime (Cond.code yX8_takesTime cX8_takesTime 6 (some .boolean) :: TB) rm_X8_takesTime [rv w 129, iv a1, rv w a2] σ (some (iv y)) (InZ y) σ' := by
  refine Ct.of2 [some (rv w 129), some (iv a1), some (rv w a2), none, none, none] 3 rfl pn_RX8 (Nat.le_of_ble_eq_true rfl) ?_
  intro p e s m args below meth c C hr hlk
  unfold m_X8_takesTime at h
  refine g_aload_n C dX8_takesTime_0 rfl ?_
  refine g_getR (j := 8) C dX8_takesTime_1 rfl (Nat.le_of_ble_eq_true rfl) (Nat.le_of_ble_eq_true rfl) fl_8_33 rfl rfl (r := 22) rfl ?_
  refine g_aload_n C dX8_takesTime_4 rfl ?_
  refine g_getI (j := 4) C dX8_takesTime_5 ta2 (Nat.le_of_ble_eq_true rfl) (Nat.le_of_ble_eq_true rfl) fl_8_172 rfl rfl (fun i1 => ?_)
  obtain ⟨x2, qx2, h⟩ := bnd h
  refine g_callV1 (As := [iv (σ a2 4)]) C dX8_takesTime_8 mi_X5_isStep ml_8_188 (ct_X5_isStep rfl i1 qx2) rfl rfl ⟨rfl, rfl⟩ ⟨Nat.le_of_ble_eq_true rfl, Nat.le_of_ble_eq_true rfl⟩ ⟨Nat.zero_le _, Nat.zero_le _⟩ rfl (Nat.le_of_ble_eq_true rfl) (fun ix2 => ?_)
  refine g_if_ne C dX8_takesTime_11 (zI ix2) rfl (tgt := 16) (fun c3 => ?_) (fun c3 => ?_)
  · have h := ifF c3 h
    refine g_aload_n C dX8_takesTime_16 rfl ?_
    refine g_getI (j := 4) C dX8_takesTime_17 ta2 (Nat.le_of_ble_eq_true rfl) (Nat.le_of_ble_eq_true rfl) fl_8_172 rfl rfl (fun i4 => ?_)
    obtain ⟨x5, qx5, h⟩ := bnd h
    have qx5 := Option.some.inj qx5
    have ix5 : InI x5 := by rw [← qx5]; exact i4
    refine g_E qx5 ?_
    refine g_istore_n (L1 := [some (rv w 129), some (iv a1), some (rv w a2), some (iv x5), none, none]) C dX8_takesTime_20 rfl (Nat.le_of_ble_eq_true rfl) rfl ?_
    refine g_aload_n C dX8_takesTime_21 rfl ?_
    refine g_getR (j := 8) C dX8_takesTime_22 rfl (Nat.le_of_ble_eq_true rfl) (Nat.le_of_ble_eq_true rfl) fl_8_33 rfl rfl (r := 22) rfl ?_
    refine g_getR (j := 1) C dX8_takesTime_25 rfl (Nat.le_of_ble_eq_true rfl) (Nat.le_of_ble_eq_true rfl) fl_8_211 rfl rfl (r := 24) rfl ?_
    refine g_iload_n C dX8_takesTime_28 rfl ?_
    obtain ⟨x6, qx6, h⟩ := bnd h
    refine g_iald C dX8_takesTime_29 rfl rfl qx6 ix5 (fun ix6 => ?_)
    refine g_istore (L1 := [some (rv w 129), some (iv a1), some (rv w a2), some (iv x5), some (iv x6), none]) C dX8_takesTime_30 rfl (Nat.le_of_ble_eq_true rfl) rfl ?_
    refine g_aload_n C dX8_takesTime_32 rfl ?_
    refine g_getR (j := 8) C dX8_takesTime_33 rfl (Nat.le_of_ble_eq_true rfl) (Nat.le_of_ble_eq_true rfl) fl_8_33 rfl rfl (r := 22) rfl ?_
    refine g_getR (j := 0) C dX8_takesTime_36 rfl (Nat.le_of_ble_eq_true rfl) (Nat.le_of_ble_eq_true rfl) fl_8_197 rfl rfl (r := 23) rfl ?_
    refine g_iload_n C dX8_takesTime_39 rfl ?_
    obtain ⟨x7, qx7, h⟩ := bnd h
    refine g_iald C dX8_takesTime_40 rfl rfl qx7 ix5 (fun ix7 => ?_)
    by_cases c8 : x7 = 0
    · have h := ifT c8 h
      refine g_tabI C dX8_takesTime_41 ix7 (by rw [c8]; decide) (by rw [c8]; decide) (by rw [c8] <;> rfl) rfl (tgt := 290) ?_
      refine g_aload_n C dX8_takesTime_290 rfl ?_
      refine g_aload_n C dX8_takesTime_291 rfl ?_
      refine g_getI (j := 12) C dX8_takesTime_292 rfl (Nat.le_of_ble_eq_true rfl) (Nat.le_of_ble_eq_true rfl) fl_8_77 rfl rfl (fun i9 => ?_)
      obtain ⟨σ10, qσ10, h⟩ := bnd h
      refine g_putI (j := 18) C dX8_takesTime_295 ta2 (Nat.le_of_ble_eq_true rfl) (Nat.le_of_ble_eq_true rfl) fl_8_128 rfl rfl rfl rfl qσ10 i9 ?_
      refine g_iconst C dX8_takesTime_298 ?_
      exact g_zretP C dX8_takesTime_299 hr hlk h (Or.inl rfl)
    have h := ifF c8 h
    by_cases c11 : x7 = 3
    · have h := ifT c11 h
      refine g_tabI C dX8_takesTime_41 ix7 (by rw [c11]; decide) (by rw [c11]; decide) (by rw [c11] <;> rfl) rfl (tgt := 300) ?_
      refine g_aload_n C dX8_takesTime_300 rfl ?_
      refine g_getR (j := 3) C dX8_takesTime_301 ta2 (Nat.le_of_ble_eq_true rfl) (Nat.le_of_ble_eq_true rfl) fl_8_178 rfl rfl (r := (a2 + 1)) (shR_0_3 ta2) ?_
      refine g_iconst C dX8_takesTime_304 ?_
      refine g_iload_n C dX8_takesTime_305 rfl ?_
      refine g_iconst C dX8_takesTime_306 ?_
      refine g_iadd C dX8_takesTime_307 ?_
      obtain ⟨σ12, qσ12, h⟩ := bnd h
      refine g_callV0 (As := [iv 3, iv (wr (x5 + 1))]) C dX8_takesTime_308 mi_X3_push ml_8_182 (ct_X3_push (shT_0_3 ta2) (by decide) (iwr _) qσ12) (shT_0_3 ta2) rfl ⟨rfl, rfl⟩ ⟨Nat.le_of_ble_eq_true rfl, Nat.le_of_ble_eq_true rfl⟩ ⟨Nat.zero_le _, Nat.zero_le _⟩ rfl (Nat.le_of_ble_eq_true rfl) (fun _ => ?_)
      refine g_aload_n C dX8_takesTime_311 rfl ?_
      refine g_aload_n C dX8_takesTime_312 rfl ?_
      refine g_getR (j := 8) C dX8_takesTime_313 rfl (Nat.le_of_ble_eq_true rfl) (Nat.le_of_ble_eq_true rfl) fl_8_33 rfl rfl (r := 22) rfl ?_
      refine g_iload C dX8_takesTime_316 rfl ?_
      obtain ⟨x13, qx13, h⟩ := bnd h
      refine g_callV1 (As := [iv x6]) C dX8_takesTime_318 mi_X5_firstStep ml_8_67 (ct_X5_firstStep rfl ix6 qx13) rfl rfl ⟨rfl, rfl⟩ ⟨Nat.le_of_ble_eq_true rfl, Nat.le_of_ble_eq_true rfl⟩ ⟨Nat.zero_le _, Nat.zero_le _⟩ rfl (Nat.le_of_ble_eq_true rfl) (fun ix13 => ?_)
      obtain ⟨σ14, qσ14, h⟩ := bnd h
      refine g_putI (j := 4) C dX8_takesTime_321 ta2 (Nat.le_of_ble_eq_true rfl) (Nat.le_of_ble_eq_true rfl) fl_8_172 rfl rfl rfl rfl qσ14 ix13 ?_
      refine g_iconst C dX8_takesTime_324 ?_
      exact g_zretP C dX8_takesTime_325 hr hlk h (Or.inl rfl)
    have h := ifF c11 h
    by_cases c15 : x7 = 7
    · have h := ifT c15 h
      refine g_tabI C dX8_takesTime_41 ix7 (by rw [c15]; decide) (by rw [c15]; decide) (by rw [c15] <;> rfl) rfl (tgt := 184) ?_
      refine g_aload_n C dX8_takesTime_184 rfl ?_
      refine g_dup C dX8_takesTime_185 rfl ?_
      refine g_getI (j := 4) C dX8_takesTime_186 ta2 (Nat.le_of_ble_eq_true rfl) (Nat.le_of_ble_eq_true rfl) fl_8_172 rfl rfl (fun i16 => ?_)
      refine g_iconst C dX8_takesTime_189 ?_
      refine g_iadd C dX8_takesTime_190 ?_
      obtain ⟨σ17, qσ17, h⟩ := bnd h
      refine g_putI (j := 4) C dX8_takesTime_191 ta2 (Nat.le_of_ble_eq_true rfl) (Nat.le_of_ble_eq_true rfl) fl_8_172 rfl rfl rfl rfl qσ17 (iwr _) ?_
      refine g_aload_n C dX8_takesTime_194 rfl ?_
      refine g_aload_n C dX8_takesTime_195 rfl ?_
      refine g_iload C dX8_takesTime_196 rfl ?_
      obtain ⟨⟨x18, σ19⟩, qx18, h⟩ := bnd h
      refine g_callV1 (As := [rv w a2, iv x6]) C dX8_takesTime_198 mi_X8_goTo ml_8_214 (ct_X8_goTo ta2 ix6 qx18) rfl rfl ⟨rfl, rfl⟩ ⟨Nat.le_of_ble_eq_true rfl, Nat.le_of_ble_eq_true rfl⟩ ⟨Nat.zero_le _, Nat.zero_le _⟩ rfl (Nat.le_of_ble_eq_true rfl) (fun ix18 => ?_)
      exact g_zretP C dX8_takesTime_201 hr hlk h ix18
    have h := ifF c15 h
    by_cases c20 : x7 = 9
    · have h := ifT c20 h
      refine g_tabI C dX8_takesTime_41 ix7 (by rw [c20]; decide) (by rw [c20]; decide) (by rw [c20] <;> rfl) rfl (tgt := 368) ?_
      refine g_aload_n C dX8_takesTime_368 rfl ?_
      refine g_aload_n C dX8_takesTime_369 rfl ?_
      refine g_aload_n C dX8_takesTime_370 rfl ?_
      refine g_getR (j := 8) C dX8_takesTime_371 rfl (Nat.le_of_ble_eq_true rfl) (Nat.le_of_ble_eq_true rfl) fl_8_33 rfl rfl (r := 22) rfl ?_
      refine g_getR (j := 2) C dX8_takesTime_374 rfl (Nat.le_of_ble_eq_true rfl) (Nat.le_of_ble_eq_true rfl) fl_8_221 rfl rfl (r := 25) rfl ?_
      refine g_iload_n C dX8_takesTime_377 rfl ?_
      obtain ⟨x21, qx21, h⟩ := bnd h
      refine g_iald C dX8_takesTime_378 rfl rfl qx21 ix5 (fun ix21 => ?_)
      refine g_iload C dX8_takesTime_379 rfl ?_
      obtain ⟨x22, qx22, h⟩ := bnd h
      refine g_callV1 (As := [rv w a2, iv x21, iv x6]) C dX8_takesTime_381 mi_X8_testHolds ml_8_231 (ct_X8_testHolds ta2 ix21 ix6 qx22) rfl rfl ⟨rfl, rfl⟩ ⟨Nat.le_of_ble_eq_true rfl, Nat.le_of_ble_eq_true rfl⟩ ⟨Nat.zero_le _, Nat.zero_le _⟩ rfl (Nat.le_of_ble_eq_true rfl) (fun ix22 => ?_)
      refine g_istore (L1 := [some (rv w 129), some (iv a1), some (rv w a2), some (iv x5), some (iv x6), some (iv x22)]) C dX8_takesTime_384 rfl (Nat.le_of_ble_eq_true rfl) rfl ?_
      refine g_aload_n C dX8_takesTime_386 rfl ?_
      refine g_iload C dX8_takesTime_387 rfl ?_
      refine g_aload_n C dX8_takesTime_389 rfl ?_
      refine g_getR (j := 8) C dX8_takesTime_390 rfl (Nat.le_of_ble_eq_true rfl) (Nat.le_of_ble_eq_true rfl) fl_8_33 rfl rfl (r := 22) rfl ?_
      refine g_getR (j := 3) C dX8_takesTime_393 rfl (Nat.le_of_ble_eq_true rfl) (Nat.le_of_ble_eq_true rfl) fl_8_235 rfl rfl (r := 26) rfl ?_
      refine g_iload_n C dX8_takesTime_396 rfl ?_
      obtain ⟨x23, qx23, h⟩ := bnd h
      refine g_zald C dX8_takesTime_397 rfl rfl qx23 ix5 (fun ix23 => ?_)
      refine g_icmp_ne C dX8_takesTime_398 (zI ix22) (zI ix23) rfl (tgt := 407) (fun c24 => ?_) (fun c24 => ?_)
      · have h := ifF c24 h
        refine g_aload_n C dX8_takesTime_407 rfl ?_
        refine g_getR (j := 8) C dX8_takesTime_408 rfl (Nat.le_of_ble_eq_true rfl) (Nat.le_of_ble_eq_true rfl) fl_8_33 rfl rfl (r := 22) rfl ?_
        refine g_getR (j := 4) C dX8_takesTime_411 rfl (Nat.le_of_ble_eq_true rfl) (Nat.le_of_ble_eq_true rfl) fl_8_191 rfl rfl (r := 27) rfl ?_
        refine g_iload_n C dX8_takesTime_414 rfl ?_
        obtain ⟨x25, qx25, h⟩ := bnd h
        refine g_iald C dX8_takesTime_415 rfl rfl qx25 ix5 (fun ix25 => ?_)
        obtain ⟨σ26, qσ26, h⟩ := bnd h
        refine g_putI (j := 4) C dX8_takesTime_416 ta2 (Nat.le_of_ble_eq_true rfl) (Nat.le_of_ble_eq_true rfl) fl_8_172 rfl rfl rfl rfl qσ26 ix25 ?_
        refine g_iconst C dX8_takesTime_419 ?_
        exact g_zretP C dX8_takesTime_420 hr hlk h (Or.inl rfl)
      · have h := ifT c24 h
        refine g_iload_n C dX8_takesTime_401 rfl ?_
        refine g_iconst C dX8_takesTime_402 ?_
        refine g_iadd C dX8_takesTime_403 ?_
        refine g_goto C dX8_takesTime_404 rfl (tgt := 416) ?_
        obtain ⟨σ27, qσ27, h⟩ := bnd h
        refine g_putI (j := 4) C dX8_takesTime_416 ta2 (Nat.le_of_ble_eq_true rfl) (Nat.le_of_ble_eq_true rfl) fl_8_172 rfl rfl rfl rfl qσ27 (iwr _) ?_
        refine g_iconst C dX8_takesTime_419 ?_
        exact g_zretP C dX8_takesTime_420 hr hlk h (Or.inl rfl)
    have h := ifF c20 h
    by_cases c28 : x7 = 13
    · have h := ifT c28 h
      refine g_tabI C dX8_takesTime_41 ix7 (by rw [c28]; decide) (by rw [c28]; decide) (by rw [c28] <;> rfl) rfl (tgt := 326) ?_
      refine g_aload_n C dX8_takesTime_326 rfl ?_
      refine g_aload_n C dX8_takesTime_327 rfl ?_
      refine g_iload C dX8_takesTime_328 rfl ?_
      obtain ⟨σ29, qσ29, h⟩ := bnd h
      refine g_callV0 (As := [rv w a2, iv x6]) C dX8_takesTime_330 mi_X8_beginLoop ml_8_228 (ct_X8_beginLoop ta2 ix6 qσ29) rfl rfl ⟨rfl, rfl⟩ ⟨Nat.le_of_ble_eq_true rfl, Nat.le_of_ble_eq_true rfl⟩ ⟨Nat.zero_le _, Nat.zero_le _⟩ rfl (Nat.le_of_ble_eq_true rfl) (fun _ => ?_)
      refine g_iconst C dX8_takesTime_333 ?_
      exact g_zretP C dX8_takesTime_334 hr hlk h (Or.inl rfl)
    have h := ifF c28 h
    by_cases c30 : x7 = 15
    · have h := ifT c30 h
      refine g_tabI C dX8_takesTime_41 ix7 (by rw [c30]; decide) (by rw [c30]; decide) (by rw [c30] <;> rfl) rfl (tgt := 272) ?_
      refine g_aload_n C dX8_takesTime_272 rfl ?_
      refine g_iload_n C dX8_takesTime_273 rfl ?_
      refine g_aload_n C dX8_takesTime_274 rfl ?_
      refine g_iload C dX8_takesTime_275 rfl ?_
      refine g_aload_n C dX8_takesTime_277 rfl ?_
      refine g_getR (j := 8) C dX8_takesTime_278 rfl (Nat.le_of_ble_eq_true rfl) (Nat.le_of_ble_eq_true rfl) fl_8_33 rfl rfl (r := 22) rfl ?_
      refine g_getR (j := 2) C dX8_takesTime_281 rfl (Nat.le_of_ble_eq_true rfl) (Nat.le_of_ble_eq_true rfl) fl_8_221 rfl rfl (r := 25) rfl ?_
      refine g_iload_n C dX8_takesTime_284 rfl ?_
      obtain ⟨x31, qx31, h⟩ := bnd h
      refine g_iald C dX8_takesTime_285 rfl rfl qx31 ix5 (fun ix31 => ?_)
      obtain ⟨⟨x32, σ33⟩, qx32, h⟩ := bnd h
      refine g_callV1 (As := [iv a1, rv w a2, iv x6, iv x31]) C dX8_takesTime_286 mi_X8_waitsToMeet ml_8_224 (ct_X8_waitsToMeet ia1 ta2 ix6 ix31 qx32) rfl rfl ⟨rfl, rfl⟩ ⟨Nat.le_of_ble_eq_true rfl, Nat.le_of_ble_eq_true rfl⟩ ⟨Nat.zero_le _, Nat.zero_le _⟩ rfl (Nat.le_of_ble_eq_true rfl) (fun ix32 => ?_)
      exact g_zretP C dX8_takesTime_289 hr hlk h ix32
    have h := ifF c30 h
    by_cases c34 : x7 = 20
    · have h := ifT c34 h
      refine g_tabI C dX8_takesTime_41 ix7 (by rw [c34]; decide) (by rw [c34]; decide) (by rw [c34] <;> rfl) rfl (tgt := 234) ?_
      refine g_aload_n C dX8_takesTime_234 rfl ?_
      refine g_dup C dX8_takesTime_235 rfl ?_
      refine g_getI (j := 4) C dX8_takesTime_236 ta2 (Nat.le_of_ble_eq_true rfl) (Nat.le_of_ble_eq_true rfl) fl_8_172 rfl rfl (fun i35 => ?_)
      refine g_iconst C dX8_takesTime_239 ?_
      refine g_iadd C dX8_takesTime_240 ?_
      obtain ⟨σ36, qσ36, h⟩ := bnd h
      refine g_putI (j := 4) C dX8_takesTime_241 ta2 (Nat.le_of_ble_eq_true rfl) (Nat.le_of_ble_eq_true rfl) fl_8_172 rfl rfl rfl rfl qσ36 (iwr _) ?_
      refine g_aload_n C dX8_takesTime_244 rfl ?_
      refine g_aload_n C dX8_takesTime_245 rfl ?_
      refine g_getI (j := 12) C dX8_takesTime_246 rfl (Nat.le_of_ble_eq_true rfl) (Nat.le_of_ble_eq_true rfl) fl_8_77 rfl rfl (fun i37 => ?_)
      refine g_iload C dX8_takesTime_249 rfl ?_
      refine g_mmax C dX8_takesTime_251 i37 ix6 ml_8_218 ⟨Nat.le_of_ble_eq_true rfl, Nat.le_of_ble_eq_true rfl⟩ ⟨Nat.zero_le _, Nat.zero_le _⟩ ?_
      obtain ⟨σ38, qσ38, h⟩ := bnd h
      refine g_putI (j := 5) C dX8_takesTime_254 ta2 (Nat.le_of_ble_eq_true rfl) (Nat.le_of_ble_eq_true rfl) fl_8_131 rfl rfl rfl rfl qσ38 (imax i37 ix6) ?_
      refine g_iload C dX8_takesTime_257 rfl ?_
      refine g_aload_n C dX8_takesTime_259 rfl ?_
      refine g_getI (j := 12) C dX8_takesTime_260 rfl (Nat.le_of_ble_eq_true rfl) (Nat.le_of_ble_eq_true rfl) fl_8_77 rfl rfl (fun i39 => ?_)
      refine g_icmp_le C dX8_takesTime_263 ix6 i39 rfl (tgt := 270) (fun c40 => ?_) (fun c40 => ?_)
      · have h := ifT c40 h
        refine g_iconst C dX8_takesTime_270 ?_
        exact g_zretP C dX8_takesTime_271 hr hlk h (Or.inl rfl)
      · have h := ifF c40 h
        refine g_iconst C dX8_takesTime_266 ?_
        refine g_goto C dX8_takesTime_267 rfl (tgt := 271) ?_
        exact g_zretP C dX8_takesTime_271 hr hlk h (Or.inr rfl)
    have h := ifF c34 h
    by_cases c41 : x7 = 21
    · have h := ifT c41 h
      refine g_tabI C dX8_takesTime_41 ix7 (by rw [c41]; decide) (by rw [c41]; decide) (by rw [c41] <;> rfl) rfl (tgt := 202) ?_
      refine g_aload_n C dX8_takesTime_202 rfl ?_
      refine g_dup C dX8_takesTime_203 rfl ?_
      refine g_getI (j := 4) C dX8_takesTime_204 ta2 (Nat.le_of_ble_eq_true rfl) (Nat.le_of_ble_eq_true rfl) fl_8_172 rfl rfl (fun i42 => ?_)
      refine g_iconst C dX8_takesTime_207 ?_
      refine g_iadd C dX8_takesTime_208 ?_
      obtain ⟨σ43, qσ43, h⟩ := bnd h
      refine g_putI (j := 4) C dX8_takesTime_209 ta2 (Nat.le_of_ble_eq_true rfl) (Nat.le_of_ble_eq_true rfl) fl_8_172 rfl rfl rfl rfl qσ43 (iwr _) ?_
      refine g_aload_n C dX8_takesTime_212 rfl ?_
      refine g_aload_n C dX8_takesTime_213 rfl ?_
      refine g_getI (j := 12) C dX8_takesTime_214 rfl (Nat.le_of_ble_eq_true rfl) (Nat.le_of_ble_eq_true rfl) fl_8_77 rfl rfl (fun i44 => ?_)
      refine g_iload C dX8_takesTime_217 rfl ?_
      refine g_iadd C dX8_takesTime_219 ?_
      obtain ⟨σ45, qσ45, h⟩ := bnd h
      refine g_putI (j := 5) C dX8_takesTime_220 ta2 (Nat.le_of_ble_eq_true rfl) (Nat.le_of_ble_eq_true rfl) fl_8_131 rfl rfl rfl rfl qσ45 (iwr _) ?_
      refine g_iload C dX8_takesTime_223 rfl ?_
      refine g_if_le C dX8_takesTime_225 ix6 rfl (tgt := 232) (fun c46 => ?_) (fun c46 => ?_)
      · have h := ifT c46 h
        refine g_iconst C dX8_takesTime_232 ?_
        exact g_zretP C dX8_takesTime_233 hr hlk h (Or.inl rfl)
      · have h := ifF c46 h
        refine g_iconst C dX8_takesTime_228 ?_
        refine g_goto C dX8_takesTime_229 rfl (tgt := 233) ?_
        exact g_zretP C dX8_takesTime_233 hr hlk h (Or.inr rfl)
    have h := ifF c41 h
    by_cases c47 : x7 = 31
    · have h := ifT c47 h
      refine g_tabI C dX8_takesTime_41 ix7 (by rw [c47]; decide) (by rw [c47]; decide) (by rw [c47] <;> rfl) rfl (tgt := 335) ?_
      refine g_aload_n C dX8_takesTime_335 rfl ?_
      refine g_getR (j := 3) C dX8_takesTime_336 ta2 (Nat.le_of_ble_eq_true rfl) (Nat.le_of_ble_eq_true rfl) fl_8_178 rfl rfl (r := (a2 + 1)) (shR_0_3 ta2) ?_
      refine g_bipush C dX8_takesTime_339 rfl ?_
      refine g_aload_n C dX8_takesTime_341 rfl ?_
      refine g_getR (j := 3) C dX8_takesTime_342 ta2 (Nat.le_of_ble_eq_true rfl) (Nat.le_of_ble_eq_true rfl) fl_8_178 rfl rfl (r := (a2 + 1)) (shR_0_3 ta2) ?_
      obtain ⟨⟨x48, σ49⟩, qx48, h⟩ := bnd h
      refine g_callV1 (As := []) C dX8_takesTime_345 mi_X3_pop ml_8_204 (ct_X3_pop (shT_0_3 ta2) qx48) (shT_0_3 ta2) rfl ⟨rfl, rfl⟩ ⟨Nat.le_of_ble_eq_true rfl, Nat.le_of_ble_eq_true rfl⟩ ⟨Nat.zero_le _, Nat.zero_le _⟩ rfl (Nat.le_of_ble_eq_true rfl) (fun ix48 => ?_)
      refine g_iconst C dX8_takesTime_348 ?_
      refine g_isub C dX8_takesTime_349 ?_
      obtain ⟨σ50, qσ50, h⟩ := bnd h
      refine g_callV0 (As := [iv 13, iv (wr (x48 - 1))]) C dX8_takesTime_350 mi_X3_push ml_8_182 (ct_X3_push (shT_0_3 ta2) (by decide) (iwr _) qσ50) (shT_0_3 ta2) rfl ⟨rfl, rfl⟩ ⟨Nat.le_of_ble_eq_true rfl, Nat.le_of_ble_eq_true rfl⟩ ⟨Nat.zero_le _, Nat.zero_le _⟩ rfl (Nat.le_of_ble_eq_true rfl) (fun _ => ?_)
      refine g_aload_n C dX8_takesTime_353 rfl ?_
      refine g_aload_n C dX8_takesTime_354 rfl ?_
      refine g_getR (j := 8) C dX8_takesTime_355 rfl (Nat.le_of_ble_eq_true rfl) (Nat.le_of_ble_eq_true rfl) fl_8_33 rfl rfl (r := 22) rfl ?_
      refine g_getR (j := 4) C dX8_takesTime_358 rfl (Nat.le_of_ble_eq_true rfl) (Nat.le_of_ble_eq_true rfl) fl_8_191 rfl rfl (r := 27) rfl ?_
      refine g_iload_n C dX8_takesTime_361 rfl ?_
      obtain ⟨x51, qx51, h⟩ := bnd h
      refine g_iald C dX8_takesTime_362 rfl rfl qx51 ix5 (fun ix51 => ?_)
      obtain ⟨σ52, qσ52, h⟩ := bnd h
      refine g_putI (j := 4) C dX8_takesTime_363 ta2 (Nat.le_of_ble_eq_true rfl) (Nat.le_of_ble_eq_true rfl) fl_8_172 rfl rfl rfl rfl qσ52 ix51 ?_
      refine g_iconst C dX8_takesTime_366 ?_
      exact g_zretP C dX8_takesTime_367 hr hlk h (Or.inl rfl)
    have h := ifF c47 h
    have hD53 : GM w p l e rm_X8_takesTime s m args below meth c (some (iv y)) (InZ y) σ' 6 421 [some (rv w 129), some (iv a1), some (rv w a2), some (iv x5), some (iv x6), none] [] σ := by
      refine g_aload_n C dX8_takesTime_421 rfl ?_
      refine g_dup C dX8_takesTime_422 rfl ?_
      refine g_getI (j := 4) C dX8_takesTime_423 ta2 (Nat.le_of_ble_eq_true rfl) (Nat.le_of_ble_eq_true rfl) fl_8_172 rfl rfl (fun i54 => ?_)
      refine g_iconst C dX8_takesTime_426 ?_
      refine g_iadd C dX8_takesTime_427 ?_
      obtain ⟨σ55, qσ55, h⟩ := bnd h
      refine g_putI (j := 4) C dX8_takesTime_428 ta2 (Nat.le_of_ble_eq_true rfl) (Nat.le_of_ble_eq_true rfl) fl_8_172 rfl rfl rfl rfl qσ55 (iwr _) ?_
      refine g_aload_n C dX8_takesTime_431 rfl ?_
      refine g_iload_n C dX8_takesTime_432 rfl ?_
      refine g_aload_n C dX8_takesTime_433 rfl ?_
      refine g_aload_n C dX8_takesTime_434 rfl ?_
      refine g_getR (j := 8) C dX8_takesTime_435 rfl (Nat.le_of_ble_eq_true rfl) (Nat.le_of_ble_eq_true rfl) fl_8_33 rfl rfl (r := 22) rfl ?_
      refine g_getR (j := 0) C dX8_takesTime_438 rfl (Nat.le_of_ble_eq_true rfl) (Nat.le_of_ble_eq_true rfl) fl_8_197 rfl rfl (r := 23) rfl ?_
      refine g_iload_n C dX8_takesTime_441 rfl ?_
      obtain ⟨x56, qx56, h⟩ := bnd h
      refine g_iald C dX8_takesTime_442 rfl rfl qx56 ix5 (fun ix56 => ?_)
      refine g_iload C dX8_takesTime_443 rfl ?_
      obtain ⟨σ57, qσ57, h⟩ := bnd h
      refine g_callV0 (As := [iv a1, rv w a2, iv x56, iv x6]) C dX8_takesTime_445 mi_X8_handle ml_8_239 (ct_X8_handle ia1 ta2 ix56 ix6 qσ57) rfl rfl ⟨rfl, rfl⟩ ⟨Nat.le_of_ble_eq_true rfl, Nat.le_of_ble_eq_true rfl⟩ ⟨Nat.zero_le _, Nat.zero_le _⟩ rfl (Nat.le_of_ble_eq_true rfl) (fun _ => ?_)
      refine g_iconst C dX8_takesTime_448 ?_
      exact g_zretP C dX8_takesTime_449 hr hlk h (Or.inl rfl)
    by_cases c58 : x7 = 1
    · exact g_tabI C dX8_takesTime_41 ix7 (by rw [c58]; decide) (by rw [c58]; decide) (by rw [c58] <;> rfl) rfl (tgt := 421) hD53
    by_cases c59 : x7 = 2
    · exact g_tabI C dX8_takesTime_41 ix7 (by rw [c59]; decide) (by rw [c59]; decide) (by rw [c59] <;> rfl) rfl (tgt := 421) hD53
    by_cases c60 : x7 = 4
    · exact g_tabI C dX8_takesTime_41 ix7 (by rw [c60]; decide) (by rw [c60]; decide) (by rw [c60] <;> rfl) rfl (tgt := 421) hD53
    by_cases c61 : x7 = 5
    · exact g_tabI C dX8_takesTime_41 ix7 (by rw [c61]; decide) (by rw [c61]; decide) (by rw [c61] <;> rfl) rfl (tgt := 421) hD53
    by_cases c62 : x7 = 6
    · exact g_tabI C dX8_takesTime_41 ix7 (by rw [c62]; decide) (by rw [c62]; decide) (by rw [c62] <;> rfl) rfl (tgt := 421) hD53
    by_cases c63 : x7 = 8
    · exact g_tabI C dX8_takesTime_41 ix7 (by rw [c63]; decide) (by rw [c63]; decide) (by rw [c63] <;> rfl) rfl (tgt := 421) hD53
    by_cases c64 : x7 = 10
    · exact g_tabI C dX8_takesTime_41 ix7 (by rw [c64]; decide) (by rw [c64]; decide) (by rw [c64] <;> rfl) rfl (tgt := 421) hD53
    by_cases c65 : x7 = 11
    · exact g_tabI C dX8_takesTime_41 ix7 (by rw [c65]; decide) (by rw [c65]; decide) (by rw [c65] <;> rfl) rfl (tgt := 421) hD53
    by_cases c66 : x7 = 12
    · exact g_tabI C dX8_takesTime_41 ix7 (by rw [c66]; decide) (by rw [c66]; decide) (by rw [c66] <;> rfl) rfl (tgt := 421) hD53
    by_cases c67 : x7 = 14
    · exact g_tabI C dX8_takesTime_41 ix7 (by rw [c67]; decide) (by rw [c67]; decide) (by rw [c67] <;> rfl) rfl (tgt := 421) hD53
    by_cases c68 : x7 = 16
    · exact g_tabI C dX8_takesTime_41 ix7 (by rw [c68]; decide) (by rw [c68]; decide) (by rw [c68] <;> rfl) rfl (tgt := 421) hD53
    by_cases c69 : x7 = 17
    · exact g_tabI C dX8_takesTime_41 ix7 (by rw [c69]; decide) (by rw [c69]; decide) (by rw [c69] <;> rfl) rfl (tgt := 421) hD53
    by_cases c70 : x7 = 18
    · exact g_tabI C dX8_takesTime_41 ix7 (by rw [c70]; decide) (by rw [c70]; decide) (by rw [c70] <;> rfl) rfl (tgt := 421) hD53
    by_cases c71 : x7 = 19
    · exact g_tabI C dX8_takesTime_41 ix7 (by rw [c71]; decide) (by rw [c71]; decide) (by rw [c71] <;> rfl) rfl (tgt := 421) hD53
    by_cases c72 : x7 = 22
    · exact g_tabI C dX8_takesTime_41 ix7 (by rw [c72]; decide) (by rw [c72]; decide) (by rw [c72] <;> rfl) rfl (tgt := 421) hD53
    by_cases c73 : x7 = 23
    · exact g_tabI C dX8_takesTime_41 ix7 (by rw [c73]; decide) (by rw [c73]; decide) (by rw [c73] <;> rfl) rfl (tgt := 421) hD53
    by_cases c74 : x7 = 24
    · exact g_tabI C dX8_takesTime_41 ix7 (by rw [c74]; decide) (by rw [c74]; decide) (by rw [c74] <;> rfl) rfl (tgt := 421) hD53
    by_cases c75 : x7 = 25
    · exact g_tabI C dX8_takesTime_41 ix7 (by rw [c75]; decide) (by rw [c75]; decide) (by rw [c75] <;> rfl) rfl (tgt := 421) hD53
    by_cases c76 : x7 = 26
    · exact g_tabI C dX8_takesTime_41 ix7 (by rw [c76]; decide) (by rw [c76]; decide) (by rw [c76] <;> rfl) rfl (tgt := 421) hD53
    by_cases c77 : x7 = 27
    · exact g_tabI C dX8_takesTime_41 ix7 (by rw [c77]; decide) (by rw [c77]; decide) (by rw [c77] <;> rfl) rfl (tgt := 421) hD53
    by_cases c78 : x7 = 28
    · exact g_tabI C dX8_takesTime_41 ix7 (by rw [c78]; decide) (by rw [c78]; decide) (by rw [c78] <;> rfl) rfl (tgt := 421) hD53
    by_cases c79 : x7 = 29
    · exact g_tabI C dX8_takesTime_41 ix7 (by rw [c79]; decide) (by rw [c79]; decide) (by rw [c79] <;> rfl) rfl (tgt := 421) hD53
    by_cases c80 : x7 = 30
    · exact g_tabI C dX8_takesTime_41 ix7 (by rw [c80]; decide) (by rw [c80]; decide) (by rw [c80] <;> rfl) rfl (tgt := 421) hD53
    exact g_tabO C dX8_takesTime_41 ix7 (by omega) rfl (tgt := 421) hD53
  · have h := ifT c3 h
    refine g_iconst C dX8_takesTime_14 ?_
    exact g_zretP C dX8_takesTime_15 hr hlk h (Or.inl rfl)
theorem dX8_turn_0 : decode cX8_turn 0 = .ok (.aload_n 2, 1) := by decide +kernel
theorem dX8_turn_1 : decode cX8_turn 1 = .ok (.getfield 115, 3) := by decide +kernel
theorem dX8_turn_4 : decode cX8_turn 4 = .ok (.iconst (-1), 1) := by decide +kernel
theorem dX8_turn_5 : decode cX8_turn 5 = .ok (.if_icmp .eq 4, 3) := by decide +kernel
theorem dX8_turn_8 : decode cX8_turn 8 = .ok (.return_, 1) := by decide +kernel
theorem dX8_turn_9 : decode cX8_turn 9 = .ok (.aload_n 2, 1) := by decide +kernel
theorem dX8_turn_10 : decode cX8_turn 10 = .ok (.getfield 118, 3) := by decide +kernel
theorem dX8_turn_13 : decode cX8_turn 13 = .ok (.iconst (-1), 1) := by decide +kernel
theorem dX8_turn_14 : decode cX8_turn 14 = .ok (.if_icmp .eq 20, 3) := by decide +kernel
theorem dX8_turn_17 : decode cX8_turn 17 = .ok (.aload_n 2, 1) := by decide +kernel
theorem dX8_turn_18 : decode cX8_turn 18 = .ok (.getfield 118, 3) := by decide +kernel
theorem dX8_turn_21 : decode cX8_turn 21 = .ok (.aload_n 2, 1) := by decide +kernel
theorem dX8_turn_22 : decode cX8_turn 22 = .ok (.getfield 121, 3) := by decide +kernel
theorem dX8_turn_25 : decode cX8_turn 25 = .ok (.if_icmp .eq 9, 3) := by decide +kernel
theorem dX8_turn_28 : decode cX8_turn 28 = .ok (.aload_n 0, 1) := by decide +kernel
theorem dX8_turn_29 : decode cX8_turn 29 = .ok (.aload_n 2, 1) := by decide +kernel
theorem dX8_turn_30 : decode cX8_turn 30 = .ok (.invokevirtual 124, 3) := by decide +kernel
theorem dX8_turn_33 : decode cX8_turn 33 = .ok (.return_, 1) := by decide +kernel
theorem dX8_turn_34 : decode cX8_turn 34 = .ok (.aload_n 2, 1) := by decide +kernel
theorem dX8_turn_35 : decode cX8_turn 35 = .ok (.iconst (-1), 1) := by decide +kernel
theorem dX8_turn_36 : decode cX8_turn 36 = .ok (.putfield 118, 3) := by decide +kernel
theorem dX8_turn_39 : decode cX8_turn 39 = .ok (.aload_n 2, 1) := by decide +kernel
theorem dX8_turn_40 : decode cX8_turn 40 = .ok (.getfield 128, 3) := by decide +kernel
theorem dX8_turn_43 : decode cX8_turn 43 = .ok (.iconst (-1), 1) := by decide +kernel
theorem dX8_turn_44 : decode cX8_turn 44 = .ok (.if_icmp .ne 22, 3) := by decide +kernel
theorem dX8_turn_47 : decode cX8_turn 47 = .ok (.aload_n 0, 1) := by decide +kernel
theorem dX8_turn_48 : decode cX8_turn 48 = .ok (.getfield 77, 3) := by decide +kernel
theorem dX8_turn_51 : decode cX8_turn 51 = .ok (.aload_n 2, 1) := by decide +kernel
theorem dX8_turn_52 : decode cX8_turn 52 = .ok (.getfield 131, 3) := by decide +kernel
theorem dX8_turn_55 : decode cX8_turn 55 = .ok (.if_icmp .lt 11, 3) := by decide +kernel
theorem dX8_turn_58 : decode cX8_turn 58 = .ok (.aload_n 0, 1) := by decide +kernel
theorem dX8_turn_59 : decode cX8_turn 59 = .ok (.aload_n 2, 1) := by decide +kernel
theorem dX8_turn_60 : decode cX8_turn 60 = .ok (.invokevirtual 134, 3) := by decide +kernel
theorem dX8_turn_63 : decode cX8_turn 63 = .ok (.ifCond .ne 4, 3) := by decide +kernel
theorem dX8_turn_66 : decode cX8_turn 66 = .ok (.return_, 1) := by decide +kernel
theorem dX8_turn_67 : decode cX8_turn 67 = .ok (.iconst 0, 1) := by decide +kernel
theorem dX8_turn_68 : decode cX8_turn 68 = .ok (.istore_n 3, 1) := by decide +kernel
theorem dX8_turn_69 : decode cX8_turn 69 = .ok (.aload_n 0, 1) := by decide +kernel
theorem dX8_turn_70 : decode cX8_turn 70 = .ok (.aload_n 2, 1) := by decide +kernel
theorem dX8_turn_71 : decode cX8_turn 71 = .ok (.invokevirtual 138, 3) := by decide +kernel
theorem dX8_turn_74 : decode cX8_turn 74 = .ok (.ifCond .ne 35, 3) := by decide +kernel
theorem dX8_turn_77 : decode cX8_turn 77 = .ok (.iload_n 3, 1) := by decide +kernel
theorem dX8_turn_78 : decode cX8_turn 78 = .ok (.bipush 40, 2) := by decide +kernel
theorem dX8_turn_80 : decode cX8_turn 80 = .ok (.if_icmp .ge 29, 3) := by decide +kernel
theorem dX8_turn_83 : decode cX8_turn 83 = .ok (.aload_n 2, 1) := by decide +kernel
theorem dX8_turn_84 : decode cX8_turn 84 = .ok (.dup, 1) := by decide +kernel
theorem dX8_turn_85 : decode cX8_turn 85 = .ok (.getfield 141, 3) := by decide +kernel
theorem dX8_turn_88 : decode cX8_turn 88 = .ok (.iconst 1, 1) := by decide +kernel
theorem dX8_turn_89 : decode cX8_turn 89 = .ok (.iadd, 1) := by decide +kernel
theorem dX8_turn_90 : decode cX8_turn 90 = .ok (.putfield 141, 3) := by decide +kernel
theorem dX8_turn_93 : decode cX8_turn 93 = .ok (.aload_n 0, 1) := by decide +kernel
theorem dX8_turn_94 : decode cX8_turn 94 = .ok (.iload_n 1, 1) := by decide +kernel
theorem dX8_turn_95 : decode cX8_turn 95 = .ok (.aload_n 2, 1) := by decide +kernel
theorem dX8_turn_96 : decode cX8_turn 96 = .ok (.invokevirtual 144, 3) := by decide +kernel
theorem dX8_turn_99 : decode cX8_turn 99 = .ok (.ifCond .eq 4, 3) := by decide +kernel
theorem dX8_turn_102 : decode cX8_turn 102 = .ok (.return_, 1) := by decide +kernel
theorem dX8_turn_103 : decode cX8_turn 103 = .ok (.iinc 3 1, 3) := by decide +kernel
theorem dX8_turn_106 : decode cX8_turn 106 = .ok (.goto (-37), 3) := by decide +kernel
theorem dX8_turn_109 : decode cX8_turn 109 = .ok (.return_, 1) := by decide +kernel
abbrev rm_X8_turn : Room := { frames := 5, cells := 0, slots := 0, locals := 118 }
set_option maxRecDepth 100000 in
set_option maxHeartbeats 4000000 in
theorem ct_X8_turn {w : Wd} {l : Launch} {a1 : Int} {a2 : Nat} {σ : St} {σ' : St} (ia1 : InI a1) (ta2 : tg a2 = 0) (h : m_X8_turn a1 a2 σ = some σ') : Ct w l yX8_turn (Cond.code yX8_turn cX8_turn 4 none :: TB) rm_X8_turn [rv w 129, iv a1, rv w a2] σ none True σ' := by
  refine Ct.of2 [some (rv w 129), some (iv a1), some (rv w a2), none] 1 rfl pn_RX8 (Nat.le_of_ble_eq_true rfl) ?_
  intro p e s m args below meth c C hr hlk
  unfold m_X8_turn at h
  refine g_aload_n C dX8_turn_0 rfl ?_
  refine g_getI (j := 10) C dX8_turn_1 ta2 (Nat.le_of_ble_eq_true rfl) (Nat.le_of_ble_eq_true rfl) fl_8_115 rfl rfl (fun i1 => ?_)
  refine g_iconst C dX8_turn_4 ?_
  refine g_icmp_eq C dX8_turn_5 i1 (by decide) rfl (tgt := 9) (fun c2 => ?_) (fun c2 => ?_)
  · have h := ifT c2 h
    refine g_aload_n C dX8_turn_9 rfl ?_
    refine g_getI (j := 12) C dX8_turn_10 ta2 (Nat.le_of_ble_eq_true rfl) (Nat.le_of_ble_eq_true rfl) fl_8_118 rfl rfl (fun i3 => ?_)
    refine g_iconst C dX8_turn_13 ?_
    have hJ34_31 : m_X8_turn_J34 σ a2 a1 = some σ' → GM w p l e rm_X8_turn s m args below meth c none True σ' 4 34 [some (rv w 129), some (iv a1), some (rv w a2), none] [] σ := by
      intro h
      unfold m_X8_turn_J34 at h
      refine g_aload_n C dX8_turn_34 rfl ?_
      refine g_iconst C dX8_turn_35 ?_
      obtain ⟨σ9, qσ9, h⟩ := bnd h
      refine g_putI (j := 12) C dX8_turn_36 ta2 (Nat.le_of_ble_eq_true rfl) (Nat.le_of_ble_eq_true rfl) fl_8_118 rfl rfl rfl rfl qσ9 (by decide) ?_
      refine g_aload_n C dX8_turn_39 rfl ?_
      refine g_getI (j := 18) C dX8_turn_40 ta2 (Nat.le_of_ble_eq_true rfl) (Nat.le_of_ble_eq_true rfl) fl_8_128 rfl rfl (fun i10 => ?_)
      refine g_iconst C dX8_turn_43 ?_
      refine g_icmp_ne C dX8_turn_44 i10 (by decide) rfl (tgt := 66) (fun c11 => ?_) (fun c11 => ?_)
      · have h := ifF c11 h
        exact g_vretP C dX8_turn_66 hr hlk h
      · have h := ifT c11 h
        refine g_aload_n C dX8_turn_47 rfl ?_
        refine g_getI (j := 12) C dX8_turn_48 rfl (Nat.le_of_ble_eq_true rfl) (Nat.le_of_ble_eq_true rfl) fl_8_77 rfl rfl (fun i12 => ?_)
        refine g_aload_n C dX8_turn_51 rfl ?_
        refine g_getI (j := 5) C dX8_turn_52 ta2 (Nat.le_of_ble_eq_true rfl) (Nat.le_of_ble_eq_true rfl) fl_8_131 rfl rfl (fun i13 => ?_)
        refine g_icmp_lt C dX8_turn_55 i12 i13 rfl (tgt := 66) (fun c14 => ?_) (fun c14 => ?_)
        · have h := ifT c14 h
          exact g_vretP C dX8_turn_66 hr hlk h
        · have h := ifF c14 h
          refine g_aload_n C dX8_turn_58 rfl ?_
          refine g_aload_n C dX8_turn_59 rfl ?_
          obtain ⟨⟨x15, σ16⟩, qx15, h⟩ := bnd h
          refine g_callV1 (As := [rv w a2]) C dX8_turn_60 mi_X8_isFree ml_8_134 (ct_X8_isFree ta2 qx15) rfl rfl ⟨rfl, rfl⟩ ⟨Nat.le_of_ble_eq_true rfl, Nat.le_of_ble_eq_true rfl⟩ ⟨Nat.zero_le _, Nat.zero_le _⟩ rfl (Nat.le_of_ble_eq_true rfl) (fun ix15 => ?_)
          refine g_if_ne C dX8_turn_63 (zI ix15) rfl (tgt := 67) (fun c17 => ?_) (fun c17 => ?_)
          · have h := ifF c17 h
            refine g_iconst C dX8_turn_67 ?_
            refine g_istore_n (L1 := [some (rv w 129), some (iv a1), some (rv w a2), some (iv 0)]) C dX8_turn_68 rfl (Nat.le_of_ble_eq_true rfl) rfl ?_
            obtain ⟨b18, hb18, hF18⟩ := bnd h
            have hX18 : ∀ (σ30 : St) , Sum.inl σ30 = b18 → GM w p l e rm_X8_turn s m args below meth c none True σ' 4 109 [none, none, none, none] [] σ30 := by
              intro σ30 q
              subst q
              have h := hF18
              exact g_vretP C dX8_turn_109 hr hlk h
            have hL18 : ∀ (n : Nat) (x19 : Int) (σ20 : St) , InI x19 → lpN (fun a => m_X8_turn_L69 a2 a1 a.1 a.2) n (x19, σ20) = some b18 → GM w p l e rm_X8_turn s m args below meth c none True σ' 4 69 [some (rv w 129), some (iv a1), some (rv w a2), some (iv x19)] [] σ20 := by
              intro n
              induction n with
              | zero => intro x19 σ20 ix19 q; cases q
              | succ n ih18 =>
                intro x19 σ20 ix19 q
                obtain ⟨o18, h, hk18⟩ := lp_step q
                replace h : m_X8_turn_L69 a2 a1 x19 σ20 = some o18 := h
                unfold m_X8_turn_L69 at h
                refine g_aload_n C dX8_turn_69 rfl ?_
                refine g_aload_n C dX8_turn_70 rfl ?_
                obtain ⟨⟨x21, σ22⟩, qx21, h⟩ := bnd h
                refine g_callV1 (As := [rv w a2]) C dX8_turn_71 mi_X8_isOver ml_8_138 (ct_X8_isOver ta2 qx21) rfl rfl ⟨rfl, rfl⟩ ⟨Nat.le_of_ble_eq_true rfl, Nat.le_of_ble_eq_true rfl⟩ ⟨Nat.zero_le _, Nat.zero_le _⟩ rfl (Nat.le_of_ble_eq_true rfl) (fun ix21 => ?_)
                refine g_if_ne C dX8_turn_74 (zI ix21) rfl (tgt := 109) (fun c23 => ?_) (fun c23 => ?_)
                · have h := ifF c23 h
                  refine g_mask [false, false, false, false] ?_
                  obtain rfl := Option.some.inj h
                  exact hX18 σ22 (lpR hk18).symm
                · have h := ifT c23 h
                  refine g_iload_n C dX8_turn_77 rfl ?_
                  refine g_bipush C dX8_turn_78 rfl ?_
                  refine g_icmp_ge C dX8_turn_80 ix19 (by decide) rfl (tgt := 109) (fun c24 => ?_) (fun c24 => ?_)
                  · have h := ifT c24 h
                    refine g_mask [false, false, false, false] ?_
                    obtain rfl := Option.some.inj h
                    exact hX18 σ22 (lpR hk18).symm
                  · have h := ifF c24 h
                    refine g_aload_n C dX8_turn_83 rfl ?_
                    refine g_dup C dX8_turn_84 rfl ?_
                    refine g_getI (j := 17) C dX8_turn_85 ta2 (Nat.le_of_ble_eq_true rfl) (Nat.le_of_ble_eq_true rfl) fl_8_141 rfl rfl (fun i25 => ?_)
                    refine g_iconst C dX8_turn_88 ?_
                    refine g_iadd C dX8_turn_89 ?_
                    obtain ⟨σ26, qσ26, h⟩ := bnd h
                    refine g_putI (j := 17) C dX8_turn_90 ta2 (Nat.le_of_ble_eq_true rfl) (Nat.le_of_ble_eq_true rfl) fl_8_141 rfl rfl rfl rfl qσ26 (iwr _) ?_
                    refine g_aload_n C dX8_turn_93 rfl ?_
                    refine g_iload_n C dX8_turn_94 rfl ?_
                    refine g_aload_n C dX8_turn_95 rfl ?_
                    obtain ⟨⟨x27, σ28⟩, qx27, h⟩ := bnd h
                    refine g_callV1 (As := [iv a1, rv w a2]) C dX8_turn_96 mi_X8_takesTime ml_8_144 (ct_X8_takesTime ia1 ta2 qx27) rfl rfl ⟨rfl, rfl⟩ ⟨Nat.le_of_ble_eq_true rfl, Nat.le_of_ble_eq_true rfl⟩ ⟨Nat.zero_le _, Nat.zero_le _⟩ rfl (Nat.le_of_ble_eq_true rfl) (fun ix27 => ?_)
                    refine g_if_eq C dX8_turn_99 (zI ix27) rfl (tgt := 103) (fun c29 => ?_) (fun c29 => ?_)
                    · have h := ifT c29 h
                      refine g_iinc (L1 := [some (rv w 129), some (iv a1), some (rv w a2), some (iv (wr (x19 + 1)))]) C dX8_turn_103 rfl rfl (Nat.le_of_ble_eq_true rfl) rfl ?_
                      refine g_goto C dX8_turn_106 rfl (tgt := 69) ?_
                      obtain rfl := Option.some.inj h
                      exact ih18 _ _ (iwr _) (lpL hk18)
                    · have h := ifF c29 h
                      obtain rfl := Option.some.inj h
                      have e18 := (lpR hk18).symm
                      subst e18
                      have h := hF18
                      exact g_vretP C dX8_turn_102 hr hlk h
            exact hL18 FU _ _ (by decide) hb18
          · have h := ifT c17 h
            exact g_vretP C dX8_turn_66 hr hlk h
    refine g_icmp_eq C dX8_turn_14 i3 (by decide) rfl (tgt := 34) (fun c4 => ?_) (fun c4 => ?_)
    · have h := ifT c4 h
      exact hJ34_31  h
    · have h := ifF c4 h
      refine g_aload_n C dX8_turn_17 rfl ?_
      refine g_getI (j := 12) C dX8_turn_18 ta2 (Nat.le_of_ble_eq_true rfl) (Nat.le_of_ble_eq_true rfl) fl_8_118 rfl rfl (fun i5 => ?_)
      refine g_aload_n C dX8_turn_21 rfl ?_
      refine g_getI (j := 9) C dX8_turn_22 ta2 (Nat.le_of_ble_eq_true rfl) (Nat.le_of_ble_eq_true rfl) fl_8_121 rfl rfl (fun i6 => ?_)
      refine g_icmp_eq C dX8_turn_25 i5 i6 rfl (tgt := 34) (fun c7 => ?_) (fun c7 => ?_)
      · have h := ifT c7 h
        exact hJ34_31  h
      · have h := ifF c7 h
        refine g_aload_n C dX8_turn_28 rfl ?_
        refine g_aload_n C dX8_turn_29 rfl ?_
        obtain ⟨σ8, qσ8, h⟩ := bnd h
        refine g_callV0 (As := [rv w a2]) C dX8_turn_30 mi_X8_setOut ml_8_124 (ct_X8_setOut ta2 qσ8) rfl rfl ⟨rfl, rfl⟩ ⟨Nat.le_of_ble_eq_true rfl, Nat.le_of_ble_eq_true rfl⟩ ⟨Nat.zero_le _, Nat.zero_le _⟩ rfl (Nat.le_of_ble_eq_true rfl) (fun _ => ?_)
        exact g_vretP C dX8_turn_33 hr hlk h
  · have h := ifF c2 h
    exact g_vretP C dX8_turn_8 hr hlk h
theorem dX8_perform_0 : decode cX8_perform 0 = .ok (.iload_n 1, 1) := by decide +kernel
theorem dX8_perform_1 : decode cX8_perform 1 = .ok (.bipush 8, 2) := by decide +kernel
theorem dX8_perform_3 : decode cX8_perform 3 = .ok (.aload_n 0, 1) := by decide +kernel
theorem dX8_perform_4 : decode cX8_perform 4 = .ok (.getfield 41, 3) := by decide +kernel
theorem dX8_perform_7 : decode cX8_perform 7 = .ok (.arraylength, 1) := by decide +kernel
theorem dX8_perform_8 : decode cX8_perform 8 = .ok (.invokestatic 45, 3) := by decide +kernel
theorem dX8_perform_11 : decode cX8_perform 11 = .ok (.invokestatic 45, 3) := by decide +kernel
theorem dX8_perform_14 : decode cX8_perform 14 = .ok (.istore_n 2, 1) := by decide +kernel
theorem dX8_perform_15 : decode cX8_perform 15 = .ok (.aload_n 0, 1) := by decide +kernel
theorem dX8_perform_16 : decode cX8_perform 16 = .ok (.iconst 1, 1) := by decide +kernel
theorem dX8_perform_17 : decode cX8_perform 17 = .ok (.putfield 51, 3) := by decide +kernel
theorem dX8_perform_20 : decode cX8_perform 20 = .ok (.aload_n 0, 1) := by decide +kernel
theorem dX8_perform_21 : decode cX8_perform 21 = .ok (.iload_n 2, 1) := by decide +kernel
theorem dX8_perform_22 : decode cX8_perform 22 = .ok (.putfield 55, 3) := by decide +kernel
theorem dX8_perform_25 : decode cX8_perform 25 = .ok (.aload_n 0, 1) := by decide +kernel
theorem dX8_perform_26 : decode cX8_perform 26 = .ok (.invokevirtual 59, 3) := by decide +kernel
theorem dX8_perform_29 : decode cX8_perform 29 = .ok (.iconst 0, 1) := by decide +kernel
theorem dX8_perform_30 : decode cX8_perform 30 = .ok (.istore_n 3, 1) := by decide +kernel
theorem dX8_perform_31 : decode cX8_perform 31 = .ok (.iload_n 3, 1) := by decide +kernel
theorem dX8_perform_32 : decode cX8_perform 32 = .ok (.iload_n 2, 1) := by decide +kernel
theorem dX8_perform_33 : decode cX8_perform 33 = .ok (.if_icmp .ge 34, 3) := by decide +kernel
theorem dX8_perform_36 : decode cX8_perform 36 = .ok (.aload_n 0, 1) := by decide +kernel
theorem dX8_perform_37 : decode cX8_perform 37 = .ok (.getfield 41, 3) := by decide +kernel
theorem dX8_perform_40 : decode cX8_perform 40 = .ok (.iload_n 3, 1) := by decide +kernel
theorem dX8_perform_41 : decode cX8_perform 41 = .ok (.aaload, 1) := by decide +kernel
theorem dX8_perform_42 : decode cX8_perform 42 = .ok (.aload_n 0, 1) := by decide +kernel
theorem dX8_perform_43 : decode cX8_perform 43 = .ok (.getfield 33, 3) := by decide +kernel
theorem dX8_perform_46 : decode cX8_perform 46 = .ok (.aload_n 0, 1) := by decide +kernel
theorem dX8_perform_47 : decode cX8_perform 47 = .ok (.getfield 41, 3) := by decide +kernel
theorem dX8_perform_50 : decode cX8_perform 50 = .ok (.iload_n 3, 1) := by decide +kernel
theorem dX8_perform_51 : decode cX8_perform 51 = .ok (.aaload, 1) := by decide +kernel
theorem dX8_perform_52 : decode cX8_perform 52 = .ok (.getfield 62, 3) := by decide +kernel
theorem dX8_perform_55 : decode cX8_perform 55 = .ok (.invokevirtual 67, 3) := by decide +kernel
theorem dX8_perform_58 : decode cX8_perform 58 = .ok (.invokevirtual 73, 3) := by decide +kernel
theorem dX8_perform_61 : decode cX8_perform 61 = .ok (.iinc 3 1, 3) := by decide +kernel
theorem dX8_perform_64 : decode cX8_perform 64 = .ok (.goto (-33), 3) := by decide +kernel
theorem dX8_perform_67 : decode cX8_perform 67 = .ok (.iconst 0, 1) := by decide +kernel
theorem dX8_perform_68 : decode cX8_perform 68 = .ok (.istore_n 3, 1) := by decide +kernel
theorem dX8_perform_69 : decode cX8_perform 69 = .ok (.iload_n 3, 1) := by decide +kernel
theorem dX8_perform_70 : decode cX8_perform 70 = .ok (.bipush 96, 2) := by decide +kernel
theorem dX8_perform_72 : decode cX8_perform 72 = .ok (.if_icmp .ge 74, 3) := by decide +kernel
theorem dX8_perform_75 : decode cX8_perform 75 = .ok (.aload_n 0, 1) := by decide +kernel
theorem dX8_perform_76 : decode cX8_perform 76 = .ok (.iload_n 3, 1) := by decide +kernel
theorem dX8_perform_77 : decode cX8_perform 77 = .ok (.putfield 77, 3) := by decide +kernel
theorem dX8_perform_80 : decode cX8_perform 80 = .ok (.iconst 0, 1) := by decide +kernel
theorem dX8_perform_81 : decode cX8_perform 81 = .ok (.istore 4, 2) := by decide +kernel
theorem dX8_perform_83 : decode cX8_perform 83 = .ok (.iload 4, 2) := by decide +kernel
theorem dX8_perform_85 : decode cX8_perform 85 = .ok (.iload_n 2, 1) := by decide +kernel
theorem dX8_perform_86 : decode cX8_perform 86 = .ok (.if_icmp .ge 26, 3) := by decide +kernel
theorem dX8_perform_89 : decode cX8_perform 89 = .ok (.aload_n 0, 1) := by decide +kernel
theorem dX8_perform_90 : decode cX8_perform 90 = .ok (.getfield 41, 3) := by decide +kernel
theorem dX8_perform_93 : decode cX8_perform 93 = .ok (.iload 4, 2) := by decide +kernel
theorem dX8_perform_95 : decode cX8_perform 95 = .ok (.aaload, 1) := by decide +kernel
theorem dX8_perform_96 : decode cX8_perform 96 = .ok (.iload_n 3, 1) := by decide +kernel
theorem dX8_perform_97 : decode cX8_perform 97 = .ok (.invokevirtual 80, 3) := by decide +kernel
theorem dX8_perform_100 : decode cX8_perform 100 = .ok (.aload_n 0, 1) := by decide +kernel
theorem dX8_perform_101 : decode cX8_perform 101 = .ok (.iload 4, 2) := by decide +kernel
theorem dX8_perform_103 : decode cX8_perform 103 = .ok (.invokevirtual 83, 3) := by decide +kernel
theorem dX8_perform_106 : decode cX8_perform 106 = .ok (.iinc 4 1, 3) := by decide +kernel
theorem dX8_perform_109 : decode cX8_perform 109 = .ok (.goto (-26), 3) := by decide +kernel
theorem dX8_perform_112 : decode cX8_perform 112 = .ok (.iconst 0, 1) := by decide +kernel
theorem dX8_perform_113 : decode cX8_perform 113 = .ok (.istore 4, 2) := by decide +kernel
theorem dX8_perform_115 : decode cX8_perform 115 = .ok (.iload 4, 2) := by decide +kernel
theorem dX8_perform_117 : decode cX8_perform 117 = .ok (.iload_n 2, 1) := by decide +kernel
theorem dX8_perform_118 : decode cX8_perform 118 = .ok (.if_icmp .ge 22, 3) := by decide +kernel
theorem dX8_perform_121 : decode cX8_perform 121 = .ok (.aload_n 0, 1) := by decide +kernel
theorem dX8_perform_122 : decode cX8_perform 122 = .ok (.iload 4, 2) := by decide +kernel
theorem dX8_perform_124 : decode cX8_perform 124 = .ok (.aload_n 0, 1) := by decide +kernel
theorem dX8_perform_125 : decode cX8_perform 125 = .ok (.getfield 41, 3) := by decide +kernel
theorem dX8_perform_128 : decode cX8_perform 128 = .ok (.iload 4, 2) := by decide +kernel
theorem dX8_perform_130 : decode cX8_perform 130 = .ok (.aaload, 1) := by decide +kernel
theorem dX8_perform_131 : decode cX8_perform 131 = .ok (.invokevirtual 86, 3) := by decide +kernel
theorem dX8_perform_134 : decode cX8_perform 134 = .ok (.iinc 4 1, 3) := by decide +kernel
theorem dX8_perform_137 : decode cX8_perform 137 = .ok (.goto (-22), 3) := by decide +kernel
theorem dX8_perform_140 : decode cX8_perform 140 = .ok (.iinc 3 1, 3) := by decide +kernel
theorem dX8_perform_143 : decode cX8_perform 143 = .ok (.goto (-74), 3) := by decide +kernel
theorem dX8_perform_146 : decode cX8_perform 146 = .ok (.aload_n 0, 1) := by decide +kernel
theorem dX8_perform_147 : decode cX8_perform 147 = .ok (.getfield 90, 3) := by decide +kernel
theorem dX8_perform_150 : decode cX8_perform 150 = .ok (.ireturn, 1) := by decide +kernel
abbrev rm_X8_perform : Room := { frames := 6, cells := 0, slots := 0, locals := 141 }
set_option maxRecDepth 100000 in
set_option maxHeartbeats 4000000 in
theorem ct_X8_perform {w : Wd} {l : Launch} {a1 : Int} {σ : St} {y : Int} {σ' : St} (ia1 : InI a1) (h : m_X8_perform a1 σ = some (y, σ')) : Ct w l yX8_perform (Cond.code yX8_perform cX8_perform 5 (some .int) :: TB) rm_X8_perform [rv w 129, iv a1] σ (some (iv y)) (InI y) σ' := by
  refine Ct.of2 [some (rv w 129), some (iv a1), none, none, none] 3 rfl pn_RX8 (Nat.le_of_ble_eq_true rfl) ?_
  intro p e s m args below meth c C hr hlk
  unfold m_X8_perform at h
  refine g_iload_n C dX8_perform_0 rfl ?_
  refine g_bipush C dX8_perform_1 rfl ?_
  refine g_aload_n C dX8_perform_3 rfl ?_
  refine g_getR (j := 10) C dX8_perform_4 rfl (Nat.le_of_ble_eq_true rfl) (Nat.le_of_ble_eq_true rfl) fl_8_41 rfl rfl (r := 38) rfl ?_
  refine g_alen (t0 := 4) (n := 8) (ty := .int) C dX8_perform_7 (Nat.le_of_ble_eq_true rfl) rfl rfl (Or.inr ⟨rfl, rfl⟩) ?_
  refine g_mmin C dX8_perform_8 (by decide) (by decide) ml_8_45 ⟨Nat.le_of_ble_eq_true rfl, Nat.le_of_ble_eq_true rfl⟩ ⟨Nat.zero_le _, Nat.zero_le _⟩ ?_
  refine g_mmin C dX8_perform_11 ia1 (imin (by decide) (by decide)) ml_8_45 ⟨Nat.le_of_ble_eq_true rfl, Nat.le_of_ble_eq_true rfl⟩ ⟨Nat.zero_le _, Nat.zero_le _⟩ ?_
  obtain ⟨x1, qx1, h⟩ := bnd h
  have qx1 := Option.some.inj qx1
  have ix1 : InI x1 := by rw [← qx1]; exact (imin ia1 (imin (by decide) (by decide)))
  refine g_E qx1 ?_
  refine g_istore_n (L1 := [some (rv w 129), some (iv a1), some (iv x1), none, none]) C dX8_perform_14 rfl (Nat.le_of_ble_eq_true rfl) rfl ?_
  refine g_aload_n C dX8_perform_15 rfl ?_
  refine g_iconst C dX8_perform_16 ?_
  obtain ⟨σ2, qσ2, h⟩ := bnd h
  refine g_putZ (j := 0) C dX8_perform_17 rfl (Nat.le_of_ble_eq_true rfl) (Nat.le_of_ble_eq_true rfl) fl_8_51 rfl rfl rfl rfl qσ2 (Or.inr rfl) ?_
  refine g_aload_n C dX8_perform_20 rfl ?_
  refine g_iload_n C dX8_perform_21 rfl ?_
  obtain ⟨σ3, qσ3, h⟩ := bnd h
  refine g_putI (j := 1) C dX8_perform_22 rfl (Nat.le_of_ble_eq_true rfl) (Nat.le_of_ble_eq_true rfl) fl_8_55 rfl rfl rfl rfl qσ3 ix1 ?_
  refine g_aload_n C dX8_perform_25 rfl ?_
  obtain ⟨σ4, qσ4, h⟩ := bnd h
  refine g_callV0 (As := []) C dX8_perform_26 mi_X8_clear ml_8_59 (ct_X8_clear qσ4) rfl rfl ⟨rfl, rfl⟩ ⟨Nat.le_of_ble_eq_true rfl, Nat.le_of_ble_eq_true rfl⟩ ⟨Nat.zero_le _, Nat.zero_le _⟩ rfl (Nat.le_of_ble_eq_true rfl) (fun _ => ?_)
  refine g_iconst C dX8_perform_29 ?_
  refine g_istore_n (L1 := [some (rv w 129), some (iv a1), some (iv x1), some (iv 0), none]) C dX8_perform_30 rfl (Nat.le_of_ble_eq_true rfl) rfl ?_
  refine g_mask [true, false, true, true, true] ?_
  obtain ⟨b5, hb5, hF5⟩ := bnd h
  have hX5 : ∀ (σ14 : St) , σ14 = b5 → GM w p l e rm_X8_perform s m args below meth c (some (iv y)) (InI y) σ' 5 67 [some (rv w 129), none, some (iv x1), none, none] [] σ14 := by
    intro σ14 q
    subst q
    have h := hF5
    refine g_iconst C dX8_perform_67 ?_
    refine g_istore_n (L1 := [some (rv w 129), none, some (iv x1), some (iv 0), none]) C dX8_perform_68 rfl (Nat.le_of_ble_eq_true rfl) rfl ?_
    obtain ⟨b15, hb15, hF15⟩ := bnd h
    have hX15 : ∀ (σ35 : St) , σ35 = b15 → GM w p l e rm_X8_perform s m args below meth c (some (iv y)) (InI y) σ' 5 146 [some (rv w 129), none, none, none, none] [] σ35 := by
      intro σ35 q
      subst q
      have h := hF15
      refine g_aload_n C dX8_perform_146 rfl ?_
      refine g_getI (j := 13) C dX8_perform_147 rfl (Nat.le_of_ble_eq_true rfl) (Nat.le_of_ble_eq_true rfl) fl_8_90 rfl rfl (fun i36 => ?_)
      exact g_iretP C dX8_perform_150 hr hlk h i36
    have hL15 : ∀ (n : Nat) (x16 : Int) (σ17 : St) , InI x16 → lpN (fun a => m_X8_perform_L69 x1 a.1 a.2) n (x16, σ17) = some b15 → GM w p l e rm_X8_perform s m args below meth c (some (iv y)) (InI y) σ' 5 69 [some (rv w 129), none, some (iv x1), some (iv x16), none] [] σ17 := by
      intro n
      induction n with
      | zero => intro x16 σ17 ix16 q; cases q
      | succ n ih15 =>
        intro x16 σ17 ix16 q
        obtain ⟨o15, h, hk15⟩ := lp_step q
        replace h : m_X8_perform_L69 x1 x16 σ17 = some o15 := h
        unfold m_X8_perform_L69 at h
        refine g_iload_n C dX8_perform_69 rfl ?_
        refine g_bipush C dX8_perform_70 rfl ?_
        refine g_icmp_ge C dX8_perform_72 ix16 (by decide) rfl (tgt := 146) (fun c18 => ?_) (fun c18 => ?_)
        · have h := ifT c18 h
          refine g_mask [true, true, false, false, true] ?_
          obtain rfl := Option.some.inj h
          exact hX15 σ17 (lpR hk15).symm
        · have h := ifF c18 h
          refine g_aload_n C dX8_perform_75 rfl ?_
          refine g_iload_n C dX8_perform_76 rfl ?_
          obtain ⟨σ19, qσ19, h⟩ := bnd h
          refine g_putI (j := 12) C dX8_perform_77 rfl (Nat.le_of_ble_eq_true rfl) (Nat.le_of_ble_eq_true rfl) fl_8_77 rfl rfl rfl rfl qσ19 ix16 ?_
          refine g_iconst C dX8_perform_80 ?_
          refine g_istore (L1 := [some (rv w 129), none, some (iv x1), some (iv x16), some (iv 0)]) C dX8_perform_81 rfl (Nat.le_of_ble_eq_true rfl) rfl ?_
          obtain ⟨b20, hb20, hF20⟩ := bnd h
          have hX20 : ∀ (σ27 : St) , σ27 = b20 → GM w p l e rm_X8_perform s m args below meth c (some (iv y)) (InI y) σ' 5 112 [some (rv w 129), none, some (iv x1), some (iv x16), none] [] σ27 := by
            intro σ27 q
            subst q
            have h := hF20
            refine g_iconst C dX8_perform_112 ?_
            refine g_istore (L1 := [some (rv w 129), none, some (iv x1), some (iv x16), some (iv 0)]) C dX8_perform_113 rfl (Nat.le_of_ble_eq_true rfl) rfl ?_
            obtain ⟨b28, hb28, hF28⟩ := bnd h
            have hX28 : ∀ (σ34 : St) , σ34 = b28 → GM w p l e rm_X8_perform s m args below meth c (some (iv y)) (InI y) σ' 5 140 [some (rv w 129), none, some (iv x1), some (iv x16), none] [] σ34 := by
              intro σ34 q
              subst q
              have h := hF28
              refine g_iinc (L1 := [some (rv w 129), none, some (iv x1), some (iv (wr (x16 + 1))), none]) C dX8_perform_140 rfl rfl (Nat.le_of_ble_eq_true rfl) rfl ?_
              refine g_goto C dX8_perform_143 rfl (tgt := 69) ?_
              obtain rfl := Option.some.inj h
              exact ih15 _ _ (iwr _) (lpL hk15)
            have hL28 : ∀ (n : Nat) (x29 : Int) (σ30 : St) , InI x29 → lpN (fun a => m_X8_perform_L115 x1 a.1 a.2) n (x29, σ30) = some b28 → GM w p l e rm_X8_perform s m args below meth c (some (iv y)) (InI y) σ' 5 115 [some (rv w 129), none, some (iv x1), some (iv x16), some (iv x29)] [] σ30 := by
              intro n
              induction n with
              | zero => intro x29 σ30 ix29 q; cases q
              | succ n ih28 =>
                intro x29 σ30 ix29 q
                obtain ⟨o28, h, hk28⟩ := lp_step q
                replace h : m_X8_perform_L115 x1 x29 σ30 = some o28 := h
                unfold m_X8_perform_L115 at h
                refine g_iload C dX8_perform_115 rfl ?_
                refine g_iload_n C dX8_perform_117 rfl ?_
                refine g_icmp_ge C dX8_perform_118 ix29 ix1 rfl (tgt := 140) (fun c31 => ?_) (fun c31 => ?_)
                · have h := ifT c31 h
                  refine g_mask [true, true, true, true, false] ?_
                  obtain rfl := Option.some.inj h
                  exact hX28 σ30 (lpR hk28).symm
                · have h := ifF c31 h
                  refine g_aload_n C dX8_perform_121 rfl ?_
                  refine g_iload C dX8_perform_122 rfl ?_
                  refine g_aload_n C dX8_perform_124 rfl ?_
                  refine g_getR (j := 10) C dX8_perform_125 rfl (Nat.le_of_ble_eq_true rfl) (Nat.le_of_ble_eq_true rfl) fl_8_41 rfl rfl (r := 38) rfl ?_
                  refine g_iload C dX8_perform_128 rfl ?_
                  obtain ⟨k32, qk32, h⟩ := bnd h
                  refine g_aald C dX8_perform_130 rfl rfl qk32 ix29 ?_
                  obtain ⟨σ33, qσ33, h⟩ := bnd h
                  refine g_callV0 (As := [iv x29, rv w k32]) C dX8_perform_131 mi_X8_turn ml_8_86 (ct_X8_turn ix29 (rrB_38 qk32) qσ33) rfl rfl ⟨rfl, rfl⟩ ⟨Nat.le_of_ble_eq_true rfl, Nat.le_of_ble_eq_true rfl⟩ ⟨Nat.zero_le _, Nat.zero_le _⟩ rfl (Nat.le_of_ble_eq_true rfl) (fun _ => ?_)
                  refine g_iinc (L1 := [some (rv w 129), none, some (iv x1), some (iv x16), some (iv (wr (x29 + 1)))]) C dX8_perform_134 rfl rfl (Nat.le_of_ble_eq_true rfl) rfl ?_
                  refine g_goto C dX8_perform_137 rfl (tgt := 115) ?_
                  obtain rfl := Option.some.inj h
                  exact ih28 _ _ (iwr _) (lpL hk28)
            exact hL28 FU _ _ (by decide) hb28
          have hL20 : ∀ (n : Nat) (x21 : Int) (σ22 : St) , InI x21 → lpN (fun a => m_X8_perform_L83 x1 x16 a.1 a.2) n (x21, σ22) = some b20 → GM w p l e rm_X8_perform s m args below meth c (some (iv y)) (InI y) σ' 5 83 [some (rv w 129), none, some (iv x1), some (iv x16), some (iv x21)] [] σ22 := by
            intro n
            induction n with
            | zero => intro x21 σ22 ix21 q; cases q
            | succ n ih20 =>
              intro x21 σ22 ix21 q
              obtain ⟨o20, h, hk20⟩ := lp_step q
              replace h : m_X8_perform_L83 x1 x16 x21 σ22 = some o20 := h
              unfold m_X8_perform_L83 at h
              refine g_iload C dX8_perform_83 rfl ?_
              refine g_iload_n C dX8_perform_85 rfl ?_
              refine g_icmp_ge C dX8_perform_86 ix21 ix1 rfl (tgt := 112) (fun c23 => ?_) (fun c23 => ?_)
              · have h := ifT c23 h
                refine g_mask [true, true, true, true, false] ?_
                obtain rfl := Option.some.inj h
                exact hX20 σ22 (lpR hk20).symm
              · have h := ifF c23 h
                refine g_aload_n C dX8_perform_89 rfl ?_
                refine g_getR (j := 10) C dX8_perform_90 rfl (Nat.le_of_ble_eq_true rfl) (Nat.le_of_ble_eq_true rfl) fl_8_41 rfl rfl (r := 38) rfl ?_
                refine g_iload C dX8_perform_93 rfl ?_
                obtain ⟨k24, qk24, h⟩ := bnd h
                refine g_aald C dX8_perform_95 rfl rfl qk24 ix21 ?_
                refine g_iload_n C dX8_perform_96 rfl ?_
                obtain ⟨σ25, qσ25, h⟩ := bnd h
                refine g_callV0 (As := [iv x16]) C dX8_perform_97 mi_X0_stand ml_8_80 (ct_X0_stand (rrB_38 qk24) ix16 qσ25) (rrB_38 qk24) rfl ⟨rfl, rfl⟩ ⟨Nat.le_of_ble_eq_true rfl, Nat.le_of_ble_eq_true rfl⟩ ⟨Nat.zero_le _, Nat.zero_le _⟩ rfl (Nat.le_of_ble_eq_true rfl) (fun _ => ?_)
                refine g_aload_n C dX8_perform_100 rfl ?_
                refine g_iload C dX8_perform_101 rfl ?_
                obtain ⟨σ26, qσ26, h⟩ := bnd h
                refine g_callV0 (As := [iv x21]) C dX8_perform_103 mi_X8_see ml_8_83 (ct_X8_see ix21 qσ26) rfl rfl ⟨rfl, rfl⟩ ⟨Nat.le_of_ble_eq_true rfl, Nat.le_of_ble_eq_true rfl⟩ ⟨Nat.zero_le _, Nat.zero_le _⟩ rfl (Nat.le_of_ble_eq_true rfl) (fun _ => ?_)
                refine g_iinc (L1 := [some (rv w 129), none, some (iv x1), some (iv x16), some (iv (wr (x21 + 1)))]) C dX8_perform_106 rfl rfl (Nat.le_of_ble_eq_true rfl) rfl ?_
                refine g_goto C dX8_perform_109 rfl (tgt := 83) ?_
                obtain rfl := Option.some.inj h
                exact ih20 _ _ (iwr _) (lpL hk20)
          exact hL20 FU _ _ (by decide) hb20
    exact hL15 FU _ _ (by decide) hb15
  have hL5 : ∀ (n : Nat) (x6 : Int) (σ7 : St) , InI x6 → lpN (fun a => m_X8_perform_L31 x1 a.1 a.2) n (x6, σ7) = some b5 → GM w p l e rm_X8_perform s m args below meth c (some (iv y)) (InI y) σ' 5 31 [some (rv w 129), none, some (iv x1), some (iv x6), none] [] σ7 := by
    intro n
    induction n with
    | zero => intro x6 σ7 ix6 q; cases q
    | succ n ih5 =>
      intro x6 σ7 ix6 q
      obtain ⟨o5, h, hk5⟩ := lp_step q
      replace h : m_X8_perform_L31 x1 x6 σ7 = some o5 := h
      unfold m_X8_perform_L31 at h
      refine g_iload_n C dX8_perform_31 rfl ?_
      refine g_iload_n C dX8_perform_32 rfl ?_
      refine g_icmp_ge C dX8_perform_33 ix6 ix1 rfl (tgt := 67) (fun c8 => ?_) (fun c8 => ?_)
      · have h := ifT c8 h
        refine g_mask [true, true, true, false, true] ?_
        obtain rfl := Option.some.inj h
        exact hX5 σ7 (lpR hk5).symm
      · have h := ifF c8 h
        refine g_aload_n C dX8_perform_36 rfl ?_
        refine g_getR (j := 10) C dX8_perform_37 rfl (Nat.le_of_ble_eq_true rfl) (Nat.le_of_ble_eq_true rfl) fl_8_41 rfl rfl (r := 38) rfl ?_
        refine g_iload_n C dX8_perform_40 rfl ?_
        obtain ⟨k9, qk9, h⟩ := bnd h
        refine g_aald C dX8_perform_41 rfl rfl qk9 ix6 ?_
        refine g_aload_n C dX8_perform_42 rfl ?_
        refine g_getR (j := 8) C dX8_perform_43 rfl (Nat.le_of_ble_eq_true rfl) (Nat.le_of_ble_eq_true rfl) fl_8_33 rfl rfl (r := 22) rfl ?_
        refine g_aload_n C dX8_perform_46 rfl ?_
        refine g_getR (j := 10) C dX8_perform_47 rfl (Nat.le_of_ble_eq_true rfl) (Nat.le_of_ble_eq_true rfl) fl_8_41 rfl rfl (r := 38) rfl ?_
        refine g_iload_n C dX8_perform_50 rfl ?_
        obtain ⟨k10, qk10, h⟩ := bnd h
        refine g_aald C dX8_perform_51 rfl rfl qk10 ix6 ?_
        refine g_getI (j := 2) C dX8_perform_52 (rrB_38 qk10) (Nat.le_of_ble_eq_true rfl) (Nat.le_of_ble_eq_true rfl) fl_8_62 rfl rfl (fun i11 => ?_)
        obtain ⟨x12, qx12, h⟩ := bnd h
        refine g_callV1 (As := [iv (σ7 k10 2)]) C dX8_perform_55 mi_X5_firstStep ml_8_67 (ct_X5_firstStep rfl i11 qx12) rfl rfl ⟨rfl, rfl⟩ ⟨Nat.le_of_ble_eq_true rfl, Nat.le_of_ble_eq_true rfl⟩ ⟨Nat.zero_le _, Nat.zero_le _⟩ rfl (Nat.le_of_ble_eq_true rfl) (fun ix12 => ?_)
        obtain ⟨σ13, qσ13, h⟩ := bnd h
        refine g_callV0 (As := [iv x12]) C dX8_perform_58 mi_X0_enter ml_8_73 (ct_X0_enter (rrB_38 qk9) ix12 qσ13) (rrB_38 qk9) rfl ⟨rfl, rfl⟩ ⟨Nat.le_of_ble_eq_true rfl, Nat.le_of_ble_eq_true rfl⟩ ⟨Nat.zero_le _, Nat.zero_le _⟩ rfl (Nat.le_of_ble_eq_true rfl) (fun _ => ?_)
        refine g_iinc (L1 := [some (rv w 129), none, some (iv x1), some (iv (wr (x6 + 1))), none]) C dX8_perform_61 rfl rfl (Nat.le_of_ble_eq_true rfl) rfl ?_
        refine g_goto C dX8_perform_64 rfl (tgt := 31) ?_
        obtain rfl := Option.some.inj h
        exact ih5 _ _ (iwr _) (lpL hk5)
  exact hL5 FU _ _ (by decide) hb5
theorem dX8_had_0 : decode cX8_had 0 = .ok (.iload_n 1, 1) := by decide +kernel
theorem dX8_had_1 : decode cX8_had 1 = .ok (.ifCond .lt 15, 3) := by decide +kernel
theorem dX8_had_4 : decode cX8_had 4 = .ok (.iload_n 1, 1) := by decide +kernel
theorem dX8_had_5 : decode cX8_had 5 = .ok (.aload_n 0, 1) := by decide +kernel
theorem dX8_had_6 : decode cX8_had 6 = .ok (.getfield 55, 3) := by decide +kernel
theorem dX8_had_9 : decode cX8_had 9 = .ok (.if_icmp .ge 7, 3) := by decide +kernel
theorem dX8_had_12 : decode cX8_had 12 = .ok (.iconst 1, 1) := by decide +kernel
theorem dX8_had_13 : decode cX8_had 13 = .ok (.goto 4, 3) := by decide +kernel
theorem dX8_had_16 : decode cX8_had 16 = .ok (.iconst 0, 1) := by decide +kernel
theorem dX8_had_17 : decode cX8_had 17 = .ok (.ireturn, 1) := by decide +kernel
abbrev rm_X8_had : Room := { frames := 0, cells := 0, slots := 0, locals := 0 }
set_option maxRecDepth 100000 in
set_option maxHeartbeats 4000000 in
theorem ct_X8_had {w : Wd} {l : Launch} {a1 : Int} {σ : St} {y : Int} (ia1 : InI a1) (h : m_X8_had a1 σ = some y) : Ct w l yX8_had (Cond.code yX8_had cX8_had 2 (some .boolean) :: TB) rm_X8_had [rv w 129, iv a1] σ (some (iv y)) (InZ y) σ := by
  refine Ct.of2 [some (rv w 129), some (iv a1)] 0 rfl pn_RX8 (Nat.le_of_ble_eq_true rfl) ?_
  intro p e s m args below meth c C hr hlk
  unfold m_X8_had at h
  refine g_iload_n C dX8_had_0 rfl ?_
  refine g_if_lt C dX8_had_1 ia1 rfl (tgt := 16) (fun c1 => ?_) (fun c1 => ?_)
  · have h := ifT c1 h
    refine g_iconst C dX8_had_16 ?_
    exact g_zretU C dX8_had_17 hr hlk h (Or.inl rfl)
  · have h := ifF c1 h
    refine g_iload_n C dX8_had_4 rfl ?_
    refine g_aload_n C dX8_had_5 rfl ?_
    refine g_getI (j := 1) C dX8_had_6 rfl (Nat.le_of_ble_eq_true rfl) (Nat.le_of_ble_eq_true rfl) fl_8_55 rfl rfl (fun i2 => ?_)
    refine g_icmp_ge C dX8_had_9 ia1 i2 rfl (tgt := 16) (fun c3 => ?_) (fun c3 => ?_)
    · have h := ifT c3 h
      refine g_iconst C dX8_had_16 ?_
      exact g_zretU C dX8_had_17 hr hlk h (Or.inl rfl)
    · have h := ifF c3 h
      refine g_iconst C dX8_had_12 ?_
      refine g_goto C dX8_had_13 rfl (tgt := 17) ?_
      exact g_zretU C dX8_had_17 hr hlk h (Or.inr rfl)
theorem dX8_whoFalls_0 : decode cX8_whoFalls 0 = .ok (.iload_n 1, 1) := by decide +kernel
theorem dX8_whoFalls_1 : decode cX8_whoFalls 1 = .ok (.istore_n 2, 1) := by decide +kernel
theorem dX8_whoFalls_2 : decode cX8_whoFalls 2 = .ok (.iconst 0, 1) := by decide +kernel
theorem dX8_whoFalls_3 : decode cX8_whoFalls 3 = .ok (.istore_n 3, 1) := by decide +kernel
theorem dX8_whoFalls_4 : decode cX8_whoFalls 4 = .ok (.iload_n 3, 1) := by decide +kernel
theorem dX8_whoFalls_5 : decode cX8_whoFalls 5 = .ok (.aload_n 0, 1) := by decide +kernel
theorem dX8_whoFalls_6 : decode cX8_whoFalls 6 = .ok (.getfield 55, 3) := by decide +kernel
theorem dX8_whoFalls_9 : decode cX8_whoFalls 9 = .ok (.if_icmp .ge 68, 3) := by decide +kernel
theorem dX8_whoFalls_12 : decode cX8_whoFalls 12 = .ok (.iload_n 3, 1) := by decide +kernel
theorem dX8_whoFalls_13 : decode cX8_whoFalls 13 = .ok (.bipush 8, 2) := by decide +kernel
theorem dX8_whoFalls_15 : decode cX8_whoFalls 15 = .ok (.if_icmp .ge 62, 3) := by decide +kernel
theorem dX8_whoFalls_18 : decode cX8_whoFalls 18 = .ok (.iconst 0, 1) := by decide +kernel
theorem dX8_whoFalls_19 : decode cX8_whoFalls 19 = .ok (.istore 4, 2) := by decide +kernel
theorem dX8_whoFalls_21 : decode cX8_whoFalls 21 = .ok (.iload 4, 2) := by decide +kernel
theorem dX8_whoFalls_23 : decode cX8_whoFalls 23 = .ok (.aload_n 0, 1) := by decide +kernel
theorem dX8_whoFalls_24 : decode cX8_whoFalls 24 = .ok (.getfield 55, 3) := by decide +kernel
theorem dX8_whoFalls_27 : decode cX8_whoFalls 27 = .ok (.if_icmp .ge 44, 3) := by decide +kernel
theorem dX8_whoFalls_30 : decode cX8_whoFalls 30 = .ok (.iload 4, 2) := by decide +kernel
theorem dX8_whoFalls_32 : decode cX8_whoFalls 32 = .ok (.bipush 8, 2) := by decide +kernel
theorem dX8_whoFalls_34 : decode cX8_whoFalls 34 = .ok (.if_icmp .ge 37, 3) := by decide +kernel
theorem dX8_whoFalls_37 : decode cX8_whoFalls 37 = .ok (.iload_n 1, 1) := by decide +kernel
theorem dX8_whoFalls_38 : decode cX8_whoFalls 38 = .ok (.iload_n 3, 1) := by decide +kernel
theorem dX8_whoFalls_39 : decode cX8_whoFalls 39 = .ok (.ishr, 1) := by decide +kernel
theorem dX8_whoFalls_40 : decode cX8_whoFalls 40 = .ok (.iconst 1, 1) := by decide +kernel
theorem dX8_whoFalls_41 : decode cX8_whoFalls 41 = .ok (.iand, 1) := by decide +kernel
theorem dX8_whoFalls_42 : decode cX8_whoFalls 42 = .ok (.ifCond .eq 23, 3) := by decide +kernel
theorem dX8_whoFalls_45 : decode cX8_whoFalls 45 = .ok (.aload_n 0, 1) := by decide +kernel
theorem dX8_whoFalls_46 : decode cX8_whoFalls 46 = .ok (.getfield 20, 3) := by decide +kernel
theorem dX8_whoFalls_49 : decode cX8_whoFalls 49 = .ok (.iload_n 3, 1) := by decide +kernel
theorem dX8_whoFalls_50 : decode cX8_whoFalls 50 = .ok (.aaload, 1) := by decide +kernel
theorem dX8_whoFalls_51 : decode cX8_whoFalls 51 = .ok (.iload 4, 2) := by decide +kernel
theorem dX8_whoFalls_53 : decode cX8_whoFalls 53 = .ok (.iaload, 1) := by decide +kernel
theorem dX8_whoFalls_54 : decode cX8_whoFalls 54 = .ok (.iconst (-1), 1) := by decide +kernel
theorem dX8_whoFalls_55 : decode cX8_whoFalls 55 = .ok (.if_icmp .eq 10, 3) := by decide +kernel
theorem dX8_whoFalls_58 : decode cX8_whoFalls 58 = .ok (.iload_n 2, 1) := by decide +kernel
theorem dX8_whoFalls_59 : decode cX8_whoFalls 59 = .ok (.iconst 1, 1) := by decide +kernel
theorem dX8_whoFalls_60 : decode cX8_whoFalls 60 = .ok (.iload 4, 2) := by decide +kernel
theorem dX8_whoFalls_62 : decode cX8_whoFalls 62 = .ok (.ishl, 1) := by decide +kernel
theorem dX8_whoFalls_63 : decode cX8_whoFalls 63 = .ok (.ior, 1) := by decide +kernel
theorem dX8_whoFalls_64 : decode cX8_whoFalls 64 = .ok (.istore_n 2, 1) := by decide +kernel
theorem dX8_whoFalls_65 : decode cX8_whoFalls 65 = .ok (.iinc 4 1, 3) := by decide +kernel
theorem dX8_whoFalls_68 : decode cX8_whoFalls 68 = .ok (.goto (-47), 3) := by decide +kernel
theorem dX8_whoFalls_71 : decode cX8_whoFalls 71 = .ok (.iinc 3 1, 3) := by decide +kernel
theorem dX8_whoFalls_74 : decode cX8_whoFalls 74 = .ok (.goto (-70), 3) := by decide +kernel
theorem dX8_whoFalls_77 : decode cX8_whoFalls 77 = .ok (.iload_n 2, 1) := by decide +kernel
theorem dX8_whoFalls_78 : decode cX8_whoFalls 78 = .ok (.ireturn, 1) := by decide +kernel
abbrev rm_X8_whoFalls : Room := { frames := 0, cells := 0, slots := 0, locals := 0 }
set_option maxRecDepth 100000 in
set_option maxHeartbeats 4000000 in
theorem ct_X8_whoFalls {w : Wd} {l : Launch} {a1 : Int} {σ : St} {y : Int} (ia1 : InI a1) (h : m_X8_whoFalls a1 σ = some y) : Ct w l yX8_whoFalls (Cond.code yX8_whoFalls cX8_whoFalls 5 (some .int) :: TB) rm_X8_whoFalls [rv w 129, iv a1] σ (some (iv y)) (InI y) σ := by
  refine Ct.of2 [some (rv w 129), some (iv a1), none, none, none] 3 rfl pn_RX8 (Nat.le_of_ble_eq_true rfl) ?_
  intro p e s m args below meth c C hr hlk
  unfold m_X8_whoFalls at h
  refine g_iload_n C dX8_whoFalls_0 rfl ?_
  refine g_istore_n (L1 := [some (rv w 129), some (iv a1), some (iv a1), none, none]) C dX8_whoFalls_1 rfl (Nat.le_of_ble_eq_true rfl) rfl ?_
  refine g_iconst C dX8_whoFalls_2 ?_
  refine g_istore_n (L1 := [some (rv w 129), some (iv a1), some (iv a1), some (iv 0), none]) C dX8_whoFalls_3 rfl (Nat.le_of_ble_eq_true rfl) rfl ?_
  obtain ⟨b1, hb1, hF1⟩ := bnd h
  have hX1 : ∀ (x19 : Int) , InI x19 → x19 = b1 → GM w p l e rm_X8_whoFalls s m args below meth c (some (iv y)) (InI y) σ 5 77 [none, none, some (iv x19), none, none] [] σ := by
    intro x19 ix19 q
    subst q
    have h := hF1
    refine g_iload_n C dX8_whoFalls_77 rfl ?_
    exact g_iretU C dX8_whoFalls_78 hr hlk h ix19
  have hL1 : ∀ (n : Nat) (x2 : Int) (x3 : Int) , InI x2 → InI x3 → lpN (fun a => m_X8_whoFalls_L4 σ a1 a.1 a.2) n (x2, x3) = some b1 → GM w p l e rm_X8_whoFalls s m args below meth c (some (iv y)) (InI y) σ 5 4 [some (rv w 129), some (iv a1), some (iv x2), some (iv x3), none] [] σ := by
    intro n
    induction n with
    | zero => intro x2 x3 ix2 ix3 q; cases q
    | succ n ih1 =>
      intro x2 x3 ix2 ix3 q
      obtain ⟨o1, h, hk1⟩ := lp_step q
      replace h : m_X8_whoFalls_L4 σ a1 x2 x3 = some o1 := h
      unfold m_X8_whoFalls_L4 at h
      refine g_iload_n C dX8_whoFalls_4 rfl ?_
      refine g_aload_n C dX8_whoFalls_5 rfl ?_
      refine g_getI (j := 1) C dX8_whoFalls_6 rfl (Nat.le_of_ble_eq_true rfl) (Nat.le_of_ble_eq_true rfl) fl_8_55 rfl rfl (fun i4 => ?_)
      refine g_icmp_ge C dX8_whoFalls_9 ix3 i4 rfl (tgt := 77) (fun c5 => ?_) (fun c5 => ?_)
      · have h := ifT c5 h
        refine g_mask [false, false, true, false, true] ?_
        obtain rfl := Option.some.inj h
        exact hX1 x2 ix2 (lpR hk1).symm
      · have h := ifF c5 h
        refine g_iload_n C dX8_whoFalls_12 rfl ?_
        refine g_bipush C dX8_whoFalls_13 rfl ?_
        refine g_icmp_ge C dX8_whoFalls_15 ix3 (by decide) rfl (tgt := 77) (fun c6 => ?_) (fun c6 => ?_)
        · have h := ifT c6 h
          refine g_mask [false, false, true, false, true] ?_
          obtain rfl := Option.some.inj h
          exact hX1 x2 ix2 (lpR hk1).symm
        · have h := ifF c6 h
          refine g_iconst C dX8_whoFalls_18 ?_
          refine g_istore (L1 := [some (rv w 129), some (iv a1), some (iv x2), some (iv x3), some (iv 0)]) C dX8_whoFalls_19 rfl (Nat.le_of_ble_eq_true rfl) rfl ?_
          obtain ⟨b7, hb7, hF7⟩ := bnd h
          have hX7 : ∀ (x18 : Int) , InI x18 → x18 = b7 → GM w p l e rm_X8_whoFalls s m args below meth c (some (iv y)) (InI y) σ 5 71 [some (rv w 129), some (iv a1), some (iv x18), some (iv x3), none] [] σ := by
            intro x18 ix18 q
            subst q
            have h := hF7
            refine g_iinc (L1 := [some (rv w 129), some (iv a1), some (iv x18), some (iv (wr (x3 + 1))), none]) C dX8_whoFalls_71 rfl rfl (Nat.le_of_ble_eq_true rfl) rfl ?_
            refine g_goto C dX8_whoFalls_74 rfl (tgt := 4) ?_
            obtain rfl := Option.some.inj h
            exact ih1 _ _ ix18 (iwr _) (lpL hk1)
          have hL7 : ∀ (n : Nat) (x8 : Int) (x9 : Int) , InI x8 → InI x9 → lpN (fun a => m_X8_whoFalls_L21 σ a1 x3 a.1 a.2) n (x8, x9) = some b7 → GM w p l e rm_X8_whoFalls s m args below meth c (some (iv y)) (InI y) σ 5 21 [some (rv w 129), some (iv a1), some (iv x8), some (iv x3), some (iv x9)] [] σ := by
            intro n
            induction n with
            | zero => intro x8 x9 ix8 ix9 q; cases q
            | succ n ih7 =>
              intro x8 x9 ix8 ix9 q
              obtain ⟨o7, h, hk7⟩ := lp_step q
              replace h : m_X8_whoFalls_L21 σ a1 x3 x8 x9 = some o7 := h
              unfold m_X8_whoFalls_L21 at h
              refine g_iload C dX8_whoFalls_21 rfl ?_
              refine g_aload_n C dX8_whoFalls_23 rfl ?_
              refine g_getI (j := 1) C dX8_whoFalls_24 rfl (Nat.le_of_ble_eq_true rfl) (Nat.le_of_ble_eq_true rfl) fl_8_55 rfl rfl (fun i10 => ?_)
              refine g_icmp_ge C dX8_whoFalls_27 ix9 i10 rfl (tgt := 71) (fun c11 => ?_) (fun c11 => ?_)
              · have h := ifT c11 h
                refine g_mask [true, true, true, true, false] ?_
                obtain rfl := Option.some.inj h
                exact hX7 x8 ix8 (lpR hk7).symm
              · have h := ifF c11 h
                refine g_iload C dX8_whoFalls_30 rfl ?_
                refine g_bipush C dX8_whoFalls_32 rfl ?_
                refine g_icmp_ge C dX8_whoFalls_34 ix9 (by decide) rfl (tgt := 71) (fun c12 => ?_) (fun c12 => ?_)
                · have h := ifT c12 h
                  refine g_mask [true, true, true, true, false] ?_
                  obtain rfl := Option.some.inj h
                  exact hX7 x8 ix8 (lpR hk7).symm
                · have h := ifF c12 h
                  refine g_iload_n C dX8_whoFalls_37 rfl ?_
                  refine g_iload_n C dX8_whoFalls_38 rfl ?_
                  refine g_ishr C dX8_whoFalls_39 ?_
                  refine g_iconst C dX8_whoFalls_40 ?_
                  refine g_iand C dX8_whoFalls_41 ?_
                  refine g_if_eq C dX8_whoFalls_42 (iand _ _) rfl (tgt := 65) (fun c13 => ?_) (fun c13 => ?_)
                  · have h := ifT c13 h
                    refine g_iinc (L1 := [some (rv w 129), some (iv a1), some (iv x8), some (iv x3), some (iv (wr (x9 + 1)))]) C dX8_whoFalls_65 rfl rfl (Nat.le_of_ble_eq_true rfl) rfl ?_
                    refine g_goto C dX8_whoFalls_68 rfl (tgt := 21) ?_
                    obtain rfl := Option.some.inj h
                    exact ih7 _ _ ix8 (iwr _) (lpL hk7)
                  · have h := ifF c13 h
                    refine g_aload_n C dX8_whoFalls_45 rfl ?_
                    refine g_getR (j := 4) C dX8_whoFalls_46 rfl (Nat.le_of_ble_eq_true rfl) (Nat.le_of_ble_eq_true rfl) fl_8_20 rfl rfl (r := 132) rfl ?_
                    refine g_iload_n C dX8_whoFalls_49 rfl ?_
                    obtain ⟨k14, qk14, h⟩ := bnd h
                    refine g_aalI C dX8_whoFalls_50 rfl rfl qk14 ix3 ?_
                    refine g_iload C dX8_whoFalls_51 rfl ?_
                    obtain ⟨x15, qx15, h⟩ := bnd h
                    refine g_iald C dX8_whoFalls_53 (rrB_132 qk14).1 (rrB_132 qk14).2 qx15 ix9 (fun ix15 => ?_)
                    refine g_iconst C dX8_whoFalls_54 ?_
                    refine g_icmp_eq C dX8_whoFalls_55 ix15 (by decide) rfl (tgt := 65) (fun c16 => ?_) (fun c16 => ?_)
                    · have h := ifT c16 h
                      refine g_iinc (L1 := [some (rv w 129), some (iv a1), some (iv x8), some (iv x3), some (iv (wr (x9 + 1)))]) C dX8_whoFalls_65 rfl rfl (Nat.le_of_ble_eq_true rfl) rfl ?_
                      refine g_goto C dX8_whoFalls_68 rfl (tgt := 21) ?_
                      obtain rfl := Option.some.inj h
                      exact ih7 _ _ ix8 (iwr _) (lpL hk7)
                    · have h := ifF c16 h
                      refine g_iload_n C dX8_whoFalls_58 rfl ?_
                      refine g_iconst C dX8_whoFalls_59 ?_
                      refine g_iload C dX8_whoFalls_60 rfl ?_
                      refine g_ishl C dX8_whoFalls_62 ?_
                      refine g_ior C dX8_whoFalls_63 ?_
                      obtain ⟨x17, qx17, h⟩ := bnd h
                      have qx17 := Option.some.inj qx17
                      have ix17 : InI x17 := by rw [← qx17]; exact (ior _ _)
                      refine g_E qx17 ?_
                      refine g_istore_n (L1 := [some (rv w 129), some (iv a1), some (iv x17), some (iv x3), some (iv x9)]) C dX8_whoFalls_64 rfl (Nat.le_of_ble_eq_true rfl) rfl ?_
                      refine g_iinc (L1 := [some (rv w 129), some (iv a1), some (iv x17), some (iv x3), some (iv (wr (x9 + 1)))]) C dX8_whoFalls_65 rfl rfl (Nat.le_of_ble_eq_true rfl) rfl ?_
                      refine g_goto C dX8_whoFalls_68 rfl (tgt := 21) ?_
                      obtain rfl := Option.some.inj h
                      exact ih7 _ _ ix17 (iwr _) (lpL hk7)
          exact hL7 FU _ _ ix2 (by decide) hb7
  exact hL1 FU _ _ ia1 (by decide) hb1
