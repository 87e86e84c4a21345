/-! the constructors, each at its time in the making of the world -/
theorem im_obj : Cond.instanceMethod Lib.objectInit ∈ TB := (tbc_1 30 rfl rfl)
theorem cd_obj : Cond.code Lib.objectInit ⟨#[0xb1]⟩ 1 none ∈ TB := (tbc_1 31 rfl rfl)
theorem ac_int : Cond.arrayClass .int ∈ TB := (tbc_1 64 rfl rfl)
theorem ac_byte : Cond.arrayClass .byte ∈ TB := (tbc_4 6 rfl rfl)
theorem ac_boolean : Cond.arrayClass .boolean ∈ TB := (tbc_1 141 rfl rfl)
theorem ac_long : Cond.arrayClass .long ∈ TB := (tbc_1 98 rfl rfl)
theorem ins_0 : Cond.instantiable (RXf 0) (NXf 0) ∈ TB := (tbc_1 186 rfl rfl)
theorem ins_1 : Cond.instantiable (RXf 1) (NXf 1) ∈ TB := (tbc_1 143 rfl rfl)
theorem ins_2 : Cond.instantiable (RXf 2) (NXf 2) ∈ TB := (tbc_2 220 rfl rfl)
theorem ins_3 : Cond.instantiable (RXf 3) (NXf 3) ∈ TB := (tbc_1 192 rfl rfl)
theorem ins_4 : Cond.instantiable (RXf 4) (NXf 4) ∈ TB := (tbc_2 85 rfl rfl)
theorem ins_5 : Cond.instantiable (RXf 5) (NXf 5) ∈ TB := (tbc_1 100 rfl rfl)
theorem ins_6 : Cond.instantiable (RXf 6) (NXf 6) ∈ TB := (tbc_2 51 rfl rfl)
theorem ins_7 : Cond.instantiable (RXf 7) (NXf 7) ∈ TB := (tbc_2 199 rfl rfl)
theorem ins_8 : Cond.instantiable (RXf 8) (NXf 8) ∈ TB := (tbc_2 142 rfl rfl)
theorem ins_9 : Cond.instantiable (RXf 9) (NXf 9) ∈ TB := (tbc_1 66 rfl rfl)
theorem ins_10 : Cond.instantiable (RXf 10) (NXf 10) ∈ TB := (tbc_1 33 rfl rfl)
theorem ins_11 : Cond.instantiable (RXf 11) (NXf 11) ∈ TB := (tbc_1 25 rfl rfl)
theorem ins_12 : Cond.instantiable (RXf 12) (NXf 12) ∈ TB := (tbc_6 67 rfl rfl)
set_option maxRecDepth 100000 in
set_option maxHeartbeats 4000000 in
theorem cp_X12_more {w : Wd} {l : Launch} {nn tt mm : Nat} {a1 : Int} {a2 : Int} {y : Int} {σ : St} (ia1 : InL a1) (ia2 : InI a2) (h : m_X12_more a1 a2 σ = some y) : CtI w l yX12_more (Cond.code yX12_more cX12_more 3 (some .long) :: TB) rm_X12_more [jv a1, iv a2] nn tt mm nn tt mm (some (jv y)) 0 0 := by
  refine CtI.of [some (jv a1), none, some (iv a2)] 0 rfl pn_RX12 (Nat.le_of_ble_eq_true rfl) ?_
  intro p e s m args below meth c C hr hlk hnm
  unfold m_X12_more at h
  refine h_iload_n C dX12_more_0 rfl ?_
  refine h_if_ne C dX12_more_1 ia2 rfl (tgt := 8) (fun c1 => ?_) (fun c1 => ?_)
  · have h := ifF c1 h
    refine h_ldc2 (n := 27) C dX12_more_8 rfl kl_12_232 ?_
    refine h_lload_n C dX12_more_11 rfl ?_
    refine h_lmul C dX12_more_12 ?_
    refine h_iload_n C dX12_more_13 rfl ?_
    refine h_bipush C dX12_more_14 rfl ?_
    refine h_isub C dX12_more_16 ?_
    refine h_iconst C dX12_more_17 ?_
    refine h_iadd C dX12_more_18 ?_
    refine h_i2l C dX12_more_19 (iwr _) ?_
    refine h_ladd C dX12_more_20 ?_
    exact h_lretU C dX12_more_21 hr hlk ⟨rfl, rfl, rfl⟩ ⟨rfl, rfl⟩ h -- (iwl _)
  · have h := ifT c1 h
    refine h_lload_n C dX12_more_4 rfl ?_
    refine h_goto C dX12_more_5 rfl (tgt := 21) ?_
    exact h_lretU C dX12_more_21 hr hlk ⟨rfl, rfl, rfl⟩ ⟨rfl, rfl⟩ h -- ia1
theorem more_L {a1 a2 y : Int} {σ : St} (h : m_X12_more a1 a2 σ = some y) (h1 : InL a1 := by first | decide | assumption) : InL y := by
  unfold m_X12_more at h
  split at h
  · cases h; assumption
  · cases h; exact iwl _
set_option maxRecDepth 100000 in
set_option maxHeartbeats 4000000 in
theorem cp_X12_word {w : Wd} {l : Launch} {nn tt mm : Nat} {a1 : Int} {a2 : Int} {a3 : Int} {a4 : Int} {a5 : Int} {a6 : Int} {a7 : Int} {y : Int} {σ : St} (ia1 : InI a1) (ia2 : InI a2) (ia3 : InI a3) (ia4 : InI a4) (ia5 : InI a5) (ia6 : InI a6) (ia7 : InI a7) (h : m_X12_word a1 a2 a3 a4 a5 a6 a7 σ = some y) : CtI w l yX12_word (Cond.code yX12_word cX12_word 7 (some .long) :: TB) rm_X12_word [iv a1, iv a2, iv a3, iv a4, iv a5, iv a6, iv a7] nn tt mm nn tt mm (some (jv y)) 0 0 := by
  refine CtI.of [some (iv a1), some (iv a2), some (iv a3), some (iv a4), some (iv a5), some (iv a6), some (iv a7)] 0 rfl pn_RX12 (Nat.le_of_ble_eq_true rfl) ?_
  intro p e s m args below meth c C hr hlk hnm
  unfold m_X12_word at h
  refine h_lconst0 C dX12_word_0 ?_
  refine h_iload_n C dX12_word_1 rfl ?_
  obtain ⟨x1, qx1, h⟩ := bnd h
  have ix1 : InL x1 := more_L qx1
  refine h_callS1 (As := [jv 0, iv a1]) C dX12_word_2 mi_X12_more ml_12_234 (cp_X12_more (by decide) ia1 qx1) rfl ⟨rfl, rfl⟩ ⟨Nat.le_of_ble_eq_true rfl, Nat.le_of_ble_eq_true rfl⟩ ⟨Nat.zero_le _, Nat.zero_le _⟩ rfl (Nat.le_of_ble_eq_true rfl) ?_
  refine h_iload_n C dX12_word_5 rfl ?_
  obtain ⟨x2, qx2, h⟩ := bnd h
  have ix2 : InL x2 := more_L qx2
  refine h_callS1 (As := [jv x1, iv a2]) C dX12_word_6 mi_X12_more ml_12_234 (cp_X12_more ix1 ia2 qx2) rfl ⟨rfl, rfl⟩ ⟨Nat.le_of_ble_eq_true rfl, Nat.le_of_ble_eq_true rfl⟩ ⟨Nat.zero_le _, Nat.zero_le _⟩ rfl (Nat.le_of_ble_eq_true rfl) ?_
  refine h_iload_n C dX12_word_9 rfl ?_
  obtain ⟨x3, qx3, h⟩ := bnd h
  have ix3 : InL x3 := more_L qx3
  refine h_callS1 (As := [jv x2, iv a3]) C dX12_word_10 mi_X12_more ml_12_234 (cp_X12_more ix2 ia3 qx3) rfl ⟨rfl, rfl⟩ ⟨Nat.le_of_ble_eq_true rfl, Nat.le_of_ble_eq_true rfl⟩ ⟨Nat.zero_le _, Nat.zero_le _⟩ rfl (Nat.le_of_ble_eq_true rfl) ?_
  refine h_iload_n C dX12_word_13 rfl ?_
  obtain ⟨x4, qx4, h⟩ := bnd h
  have ix4 : InL x4 := more_L qx4
  refine h_callS1 (As := [jv x3, iv a4]) C dX12_word_14 mi_X12_more ml_12_234 (cp_X12_more ix3 ia4 qx4) rfl ⟨rfl, rfl⟩ ⟨Nat.le_of_ble_eq_true rfl, Nat.le_of_ble_eq_true rfl⟩ ⟨Nat.zero_le _, Nat.zero_le _⟩ rfl (Nat.le_of_ble_eq_true rfl) ?_
  refine h_iload C dX12_word_17 rfl ?_
  obtain ⟨x5, qx5, h⟩ := bnd h
  have ix5 : InL x5 := more_L qx5
  refine h_callS1 (As := [jv x4, iv a5]) C dX12_word_19 mi_X12_more ml_12_234 (cp_X12_more ix4 ia5 qx5) rfl ⟨rfl, rfl⟩ ⟨Nat.le_of_ble_eq_true rfl, Nat.le_of_ble_eq_true rfl⟩ ⟨Nat.zero_le _, Nat.zero_le _⟩ rfl (Nat.le_of_ble_eq_true rfl) ?_
  refine h_iload C dX12_word_22 rfl ?_
  obtain ⟨x6, qx6, h⟩ := bnd h
  have ix6 : InL x6 := more_L qx6
  refine h_callS1 (As := [jv x5, iv a6]) C dX12_word_24 mi_X12_more ml_12_234 (cp_X12_more ix5 ia6 qx6) rfl ⟨rfl, rfl⟩ ⟨Nat.le_of_ble_eq_true rfl, Nat.le_of_ble_eq_true rfl⟩ ⟨Nat.zero_le _, Nat.zero_le _⟩ rfl (Nat.le_of_ble_eq_true rfl) ?_
  refine h_iload C dX12_word_27 rfl ?_
  obtain ⟨x7, qx7, h⟩ := bnd h
  have ix7 : InL x7 := more_L qx7
  refine h_callS1 (As := [jv x6, iv a7]) C dX12_word_29 mi_X12_more ml_12_234 (cp_X12_more ix6 ia7 qx7) rfl ⟨rfl, rfl⟩ ⟨Nat.le_of_ble_eq_true rfl, Nat.le_of_ble_eq_true rfl⟩ ⟨Nat.zero_le _, Nat.zero_le _⟩ rfl (Nat.le_of_ble_eq_true rfl) ?_
  exact h_lretU C dX12_word_32 hr hlk ⟨rfl, rfl, rfl⟩ ⟨rfl, rfl⟩ h -- ix7
theorem dX11_init_0 : decode cX11_init 0 = .ok (.aload_n 0, 1) := by decide +kernel
theorem dX11_init_1 : decode cX11_init 1 = .ok (.invokespecial 1, 3) := by decide +kernel
theorem dX11_init_4 : decode cX11_init 4 = .ok (.new 7, 3) := by decide +kernel
theorem dX11_init_7 : decode cX11_init 7 = .ok (.dup, 1) := by decide +kernel
theorem dX11_init_8 : decode cX11_init 8 = .ok (.invokespecial 9, 3) := by decide +kernel
theorem dX11_init_11 : decode cX11_init 11 = .ok (.astore_n 1, 1) := by decide +kernel
theorem dX11_init_12 : decode cX11_init 12 = .ok (.new 10, 3) := by decide +kernel
theorem dX11_init_15 : decode cX11_init 15 = .ok (.dup, 1) := by decide +kernel
theorem dX11_init_16 : decode cX11_init 16 = .ok (.invokespecial 12, 3) := by decide +kernel
theorem dX11_init_19 : decode cX11_init 19 = .ok (.astore_n 2, 1) := by decide +kernel
theorem dX11_init_20 : decode cX11_init 20 = .ok (.new 13, 3) := by decide +kernel
theorem dX11_init_23 : decode cX11_init 23 = .ok (.dup, 1) := by decide +kernel
theorem dX11_init_24 : decode cX11_init 24 = .ok (.invokespecial 15, 3) := by decide +kernel
theorem dX11_init_27 : decode cX11_init 27 = .ok (.astore_n 3, 1) := by decide +kernel
theorem dX11_init_28 : decode cX11_init 28 = .ok (.new 16, 3) := by decide +kernel
theorem dX11_init_31 : decode cX11_init 31 = .ok (.dup, 1) := by decide +kernel
theorem dX11_init_32 : decode cX11_init 32 = .ok (.invokespecial 18, 3) := by decide +kernel
theorem dX11_init_35 : decode cX11_init 35 = .ok (.astore 4, 2) := by decide +kernel
theorem dX11_init_37 : decode cX11_init 37 = .ok (.bipush 8, 2) := by decide +kernel
theorem dX11_init_39 : decode cX11_init 39 = .ok (.anewarray 21, 3) := by decide +kernel
theorem dX11_init_42 : decode cX11_init 42 = .ok (.astore 5, 2) := by decide +kernel
theorem dX11_init_44 : decode cX11_init 44 = .ok (.iconst 0, 1) := by decide +kernel
theorem dX11_init_45 : decode cX11_init 45 = .ok (.istore 6, 2) := by decide +kernel
theorem dX11_init_47 : decode cX11_init 47 = .ok (.iload 6, 2) := by decide +kernel
theorem dX11_init_49 : decode cX11_init 49 = .ok (.bipush 8, 2) := by decide +kernel
theorem dX11_init_51 : decode cX11_init 51 = .ok (.if_icmp .ge 21, 3) := by decide +kernel
theorem dX11_init_54 : decode cX11_init 54 = .ok (.aload 5, 2) := by decide +kernel
theorem dX11_init_56 : decode cX11_init 56 = .ok (.iload 6, 2) := by decide +kernel
theorem dX11_init_58 : decode cX11_init 58 = .ok (.new 21, 3) := by decide +kernel
theorem dX11_init_61 : decode cX11_init 61 = .ok (.dup, 1) := by decide +kernel
theorem dX11_init_62 : decode cX11_init 62 = .ok (.invokespecial 23, 3) := by decide +kernel
theorem dX11_init_65 : decode cX11_init 65 = .ok (.aastore, 1) := by decide +kernel
theorem dX11_init_66 : decode cX11_init 66 = .ok (.iinc 6 1, 3) := by decide +kernel
theorem dX11_init_69 : decode cX11_init 69 = .ok (.goto (-22), 3) := by decide +kernel
theorem dX11_init_72 : decode cX11_init 72 = .ok (.new 24, 3) := by decide +kernel
theorem dX11_init_75 : decode cX11_init 75 = .ok (.dup, 1) := by decide +kernel
theorem dX11_init_76 : decode cX11_init 76 = .ok (.aload_n 1, 1) := by decide +kernel
theorem dX11_init_77 : decode cX11_init 77 = .ok (.aload 4, 2) := by decide +kernel
theorem dX11_init_79 : decode cX11_init 79 = .ok (.invokespecial 26, 3) := by decide +kernel
theorem dX11_init_82 : decode cX11_init 82 = .ok (.astore 6, 2) := by decide +kernel
theorem dX11_init_84 : decode cX11_init 84 = .ok (.aload_n 0, 1) := by decide +kernel
theorem dX11_init_85 : decode cX11_init 85 = .ok (.aload_n 1, 1) := by decide +kernel
theorem dX11_init_86 : decode cX11_init 86 = .ok (.putfield 29, 3) := by decide +kernel
theorem dX11_init_89 : decode cX11_init 89 = .ok (.aload_n 0, 1) := by decide +kernel
theorem dX11_init_90 : decode cX11_init 90 = .ok (.aload_n 2, 1) := by decide +kernel
theorem dX11_init_91 : decode cX11_init 91 = .ok (.putfield 33, 3) := by decide +kernel
theorem dX11_init_94 : decode cX11_init 94 = .ok (.aload_n 0, 1) := by decide +kernel
theorem dX11_init_95 : decode cX11_init 95 = .ok (.aload_n 3, 1) := by decide +kernel
theorem dX11_init_96 : decode cX11_init 96 = .ok (.putfield 37, 3) := by decide +kernel
theorem dX11_init_99 : decode cX11_init 99 = .ok (.aload_n 0, 1) := by decide +kernel
theorem dX11_init_100 : decode cX11_init 100 = .ok (.new 41, 3) := by decide +kernel
theorem dX11_init_103 : decode cX11_init 103 = .ok (.dup, 1) := by decide +kernel
theorem dX11_init_104 : decode cX11_init 104 = .ok (.aload_n 2, 1) := by decide +kernel
theorem dX11_init_105 : decode cX11_init 105 = .ok (.invokespecial 43, 3) := by decide +kernel
theorem dX11_init_108 : decode cX11_init 108 = .ok (.putfield 46, 3) := by decide +kernel
theorem dX11_init_111 : decode cX11_init 111 = .ok (.aload_n 0, 1) := by decide +kernel
theorem dX11_init_112 : decode cX11_init 112 = .ok (.aload 4, 2) := by decide +kernel
theorem dX11_init_114 : decode cX11_init 114 = .ok (.putfield 50, 3) := by decide +kernel
theorem dX11_init_117 : decode cX11_init 117 = .ok (.aload_n 0, 1) := by decide +kernel
theorem dX11_init_118 : decode cX11_init 118 = .ok (.aload 5, 2) := by decide +kernel
theorem dX11_init_120 : decode cX11_init 120 = .ok (.putfield 54, 3) := by decide +kernel
theorem dX11_init_123 : decode cX11_init 123 = .ok (.aload_n 0, 1) := by decide +kernel
theorem dX11_init_124 : decode cX11_init 124 = .ok (.new 58, 3) := by decide +kernel
theorem dX11_init_127 : decode cX11_init 127 = .ok (.dup, 1) := by decide +kernel
theorem dX11_init_128 : decode cX11_init 128 = .ok (.aload_n 1, 1) := by decide +kernel
theorem dX11_init_129 : decode cX11_init 129 = .ok (.aload_n 3, 1) := by decide +kernel
theorem dX11_init_130 : decode cX11_init 130 = .ok (.aload 4, 2) := by decide +kernel
theorem dX11_init_132 : decode cX11_init 132 = .ok (.aload 5, 2) := by decide +kernel
theorem dX11_init_134 : decode cX11_init 134 = .ok (.invokespecial 60, 3) := by decide +kernel
theorem dX11_init_137 : decode cX11_init 137 = .ok (.putfield 63, 3) := by decide +kernel
theorem dX11_init_140 : decode cX11_init 140 = .ok (.aload_n 0, 1) := by decide +kernel
theorem dX11_init_141 : decode cX11_init 141 = .ok (.aload 6, 2) := by decide +kernel
theorem dX11_init_143 : decode cX11_init 143 = .ok (.putfield 67, 3) := by decide +kernel
theorem dX11_init_146 : decode cX11_init 146 = .ok (.aload_n 0, 1) := by decide +kernel
theorem dX11_init_147 : decode cX11_init 147 = .ok (.new 71, 3) := by decide +kernel
theorem dX11_init_150 : decode cX11_init 150 = .ok (.dup, 1) := by decide +kernel
theorem dX11_init_151 : decode cX11_init 151 = .ok (.aload_n 1, 1) := by decide +kernel
theorem dX11_init_152 : decode cX11_init 152 = .ok (.aload 6, 2) := by decide +kernel
theorem dX11_init_154 : decode cX11_init 154 = .ok (.invokespecial 73, 3) := by decide +kernel
theorem dX11_init_157 : decode cX11_init 157 = .ok (.putfield 76, 3) := by decide +kernel
theorem dX11_init_160 : decode cX11_init 160 = .ok (.aload_n 0, 1) := by decide +kernel
theorem dX11_init_161 : decode cX11_init 161 = .ok (.new 80, 3) := by decide +kernel
theorem dX11_init_164 : decode cX11_init 164 = .ok (.dup, 1) := by decide +kernel
theorem dX11_init_165 : decode cX11_init 165 = .ok (.invokespecial 82, 3) := by decide +kernel
theorem dX11_init_168 : decode cX11_init 168 = .ok (.putfield 83, 3) := by decide +kernel
theorem dX11_init_171 : decode cX11_init 171 = .ok (.return_, 1) := by decide +kernel
theorem mlo_11 : Cond.methodLink RX11 1 Lib.objectInit ∈ TB := (tbc_1 29 rfl rfl)
theorem cl_11_7 : Cond.classLink RX11 7 (RXf 10) ∈ TB := (tbc_1 32 rfl rfl)
theorem dX10_init_0 : decode cX10_init 0 = .ok (.aload_n 0, 1) := by decide +kernel
theorem dX10_init_1 : decode cX10_init 1 = .ok (.invokespecial 3, 3) := by decide +kernel
theorem dX10_init_4 : decode cX10_init 4 = .ok (.aload_n 0, 1) := by decide +kernel
theorem dX10_init_5 : decode cX10_init 5 = .ok (.bipush 24, 2) := by decide +kernel
theorem dX10_init_7 : decode cX10_init 7 = .ok (.newarray .int, 2) := by decide +kernel
theorem dX10_init_9 : decode cX10_init 9 = .ok (.putfield 9, 3) := by decide +kernel
theorem dX10_init_12 : decode cX10_init 12 = .ok (.aload_n 0, 1) := by decide +kernel
theorem dX10_init_13 : decode cX10_init 13 = .ok (.bipush 24, 2) := by decide +kernel
theorem dX10_init_15 : decode cX10_init 15 = .ok (.newarray .int, 2) := by decide +kernel
theorem dX10_init_17 : decode cX10_init 17 = .ok (.putfield 15, 3) := by decide +kernel
theorem dX10_init_20 : decode cX10_init 20 = .ok (.aload_n 0, 1) := by decide +kernel
theorem dX10_init_21 : decode cX10_init 21 = .ok (.bipush 24, 2) := by decide +kernel
theorem dX10_init_23 : decode cX10_init 23 = .ok (.newarray .int, 2) := by decide +kernel
theorem dX10_init_25 : decode cX10_init 25 = .ok (.putfield 18, 3) := by decide +kernel
theorem dX10_init_28 : decode cX10_init 28 = .ok (.aload_n 0, 1) := by decide +kernel
theorem dX10_init_29 : decode cX10_init 29 = .ok (.bipush 10, 2) := by decide +kernel
theorem dX10_init_31 : decode cX10_init 31 = .ok (.bipush 10, 2) := by decide +kernel
theorem dX10_init_33 : decode cX10_init 33 = .ok (.multianewarray 21 2, 4) := by decide +kernel
theorem dX10_init_37 : decode cX10_init 37 = .ok (.putfield 23, 3) := by decide +kernel
theorem dX10_init_40 : decode cX10_init 40 = .ok (.iconst 0, 1) := by decide +kernel
theorem dX10_init_41 : decode cX10_init 41 = .ok (.istore_n 1, 1) := by decide +kernel
theorem dX10_init_42 : decode cX10_init 42 = .ok (.iload_n 1, 1) := by decide +kernel
theorem dX10_init_43 : decode cX10_init 43 = .ok (.bipush 10, 2) := by decide +kernel
theorem dX10_init_45 : decode cX10_init 45 = .ok (.if_icmp .ge 41, 3) := by decide +kernel
theorem dX10_init_48 : decode cX10_init 48 = .ok (.iconst 0, 1) := by decide +kernel
theorem dX10_init_49 : decode cX10_init 49 = .ok (.istore_n 2, 1) := by decide +kernel
theorem dX10_init_50 : decode cX10_init 50 = .ok (.iload_n 2, 1) := by decide +kernel
theorem dX10_init_51 : decode cX10_init 51 = .ok (.bipush 10, 2) := by decide +kernel
theorem dX10_init_53 : decode cX10_init 53 = .ok (.if_icmp .ge 27, 3) := by decide +kernel
theorem dX10_init_56 : decode cX10_init 56 = .ok (.aload_n 0, 1) := by decide +kernel
theorem dX10_init_57 : decode cX10_init 57 = .ok (.getfield 23, 3) := by decide +kernel
theorem dX10_init_60 : decode cX10_init 60 = .ok (.iload_n 1, 1) := by decide +kernel
theorem dX10_init_61 : decode cX10_init 61 = .ok (.aaload, 1) := by decide +kernel
theorem dX10_init_62 : decode cX10_init 62 = .ok (.iload_n 2, 1) := by decide +kernel
theorem dX10_init_63 : decode cX10_init 63 = .ok (.iload_n 1, 1) := by decide +kernel
theorem dX10_init_64 : decode cX10_init 64 = .ok (.iload_n 2, 1) := by decide +kernel
theorem dX10_init_65 : decode cX10_init 65 = .ok (.if_icmp .ne 7, 3) := by decide +kernel
theorem dX10_init_68 : decode cX10_init 68 = .ok (.iconst 0, 1) := by decide +kernel
theorem dX10_init_69 : decode cX10_init 69 = .ok (.goto 4, 3) := by decide +kernel
theorem dX10_init_72 : decode cX10_init 72 = .ok (.iconst (-1), 1) := by decide +kernel
theorem dX10_init_73 : decode cX10_init 73 = .ok (.iastore, 1) := by decide +kernel
theorem dX10_init_74 : decode cX10_init 74 = .ok (.iinc 2 1, 3) := by decide +kernel
theorem dX10_init_77 : decode cX10_init 77 = .ok (.goto (-27), 3) := by decide +kernel
theorem dX10_init_80 : decode cX10_init 80 = .ok (.iinc 1 1, 3) := by decide +kernel
theorem dX10_init_83 : decode cX10_init 83 = .ok (.goto (-41), 3) := by decide +kernel
theorem dX10_init_86 : decode cX10_init 86 = .ok (.return_, 1) := by decide +kernel
theorem mlo_10 : Cond.methodLink RX10 3 Lib.objectInit ∈ TB := (tbc_1 37 rfl rfl)
theorem cl_10_21 : Cond.classLink RX10 21 ("[" ++ (FieldType.array .int).toString) ∈ TB := (tbc_1 38 rfl rfl)
set_option maxRecDepth 100000 in
set_option maxHeartbeats 4000000 in
theorem ci_X10_init_1 {w : Wd} {l : Launch} : CtI w l yX10_init (Cond.code yX10_init cX10_init 3 none :: TB) { frames := 1, cells := 14, slots := 182, locals := 20 } [rv w 1] 2 0 0 16 14 100 none 14 182 := by
  refine CtI.of [some (rv w 1), none, none] 2 rfl pn_RX10 (Nat.le_of_ble_eq_true rfl) ?_
  intro p e s m args below meth c C hr hlk hnm
  refine h_aload_n C dX10_init_0 rfl ?_
  refine h_objInit C dX10_init_1 mlo_10 im_obj cd_obj ⟨Nat.le_of_ble_eq_true rfl, Nat.le_of_ble_eq_true rfl⟩ ?_
  refine h_aload_n C dX10_init_4 rfl ?_
  refine h_bipush C dX10_init_5 rfl ?_
  refine h_newa20 (N := 24) (n1 := 3) (c1 := 1) (s1 := 24) C dX10_init_7 rfl rfl rfl (by decide) ac_int (Nat.le_of_ble_eq_true rfl) ⟨Nat.le_of_ble_eq_true rfl, Nat.le_of_ble_eq_true rfl⟩ rfl rfl rfl ?_
  refine h_putR (j := 0) (t1 := 1) C dX10_init_9 rfl (Nat.le_of_ble_eq_true rfl) (Nat.le_of_ble_eq_true rfl) (Nat.le_of_ble_eq_true rfl) (Nat.le_of_ble_eq_true rfl) fl_10_9 rfl rfl rfl hnm rfl rfl (fun _ => rfl) (fun _ => rfl) rfl rfl rfl rfl ?_
  refine h_aload_n C dX10_init_12 rfl ?_
  refine h_bipush C dX10_init_13 rfl ?_
  refine h_newa20 (N := 24) (n1 := 4) (c1 := 2) (s1 := 48) C dX10_init_15 rfl rfl rfl (by decide) ac_int (Nat.le_of_ble_eq_true rfl) ⟨Nat.le_of_ble_eq_true rfl, Nat.le_of_ble_eq_true rfl⟩ rfl rfl rfl ?_
  refine h_putR (j := 1) (t1 := 2) C dX10_init_17 rfl (Nat.le_of_ble_eq_true rfl) (Nat.le_of_ble_eq_true rfl) (Nat.le_of_ble_eq_true rfl) (Nat.le_of_ble_eq_true rfl) fl_10_15 rfl rfl rfl hnm rfl rfl (fun _ => rfl) (fun _ => rfl) rfl rfl rfl rfl ?_
  refine h_aload_n C dX10_init_20 rfl ?_
  refine h_bipush C dX10_init_21 rfl ?_
  refine h_newa20 (N := 24) (n1 := 5) (c1 := 3) (s1 := 72) C dX10_init_23 rfl rfl rfl (by decide) ac_int (Nat.le_of_ble_eq_true rfl) ⟨Nat.le_of_ble_eq_true rfl, Nat.le_of_ble_eq_true rfl⟩ rfl rfl rfl ?_
  refine h_putR (j := 2) (t1 := 3) C dX10_init_25 rfl (Nat.le_of_ble_eq_true rfl) (Nat.le_of_ble_eq_true rfl) (Nat.le_of_ble_eq_true rfl) (Nat.le_of_ble_eq_true rfl) fl_10_18 rfl rfl rfl hnm rfl rfl (fun _ => rfl) (fun _ => rfl) rfl rfl rfl rfl ?_
  refine h_aload_n C dX10_init_28 rfl ?_
  refine h_bipush C dX10_init_29 rfl ?_
  refine h_bipush C dX10_init_31 rfl ?_
  refine h_mna (N := 10) (K := 10) (n1 := 16) (t1 := 13) (c1 := 14) (s1 := 182) C dX10_init_33 rfl rfl rfl (by decide) rfl (by decide) ⟨Nat.le_of_ble_eq_true rfl, Nat.le_of_ble_eq_true rfl, Nat.le_of_ble_eq_true rfl⟩ (by decide +kernel) (Nat.le_of_ble_eq_true rfl) cl_10_21 ac_int ⟨Nat.le_of_ble_eq_true rfl, Nat.le_of_ble_eq_true rfl⟩ rfl rfl rfl rfl ?_
  refine h_putR (j := 3) (t1 := 14) C dX10_init_37 rfl (Nat.le_of_ble_eq_true rfl) (Nat.le_of_ble_eq_true rfl) (Nat.le_of_ble_eq_true rfl) (Nat.le_of_ble_eq_true rfl) fl_10_23 rfl rfl rfl hnm rfl rfl (fun _ => rfl) (fun _ => rfl) rfl rfl rfl rfl ?_
  refine h_iconst C dX10_init_40 ?_
  refine h_istore_n (L1 := [some (rv w 1), some (iv 0), none]) C dX10_init_41 rfl (Nat.le_of_ble_eq_true rfl) rfl ?_
  refine h_iload_n C dX10_init_42 rfl ?_
  refine h_bipush C dX10_init_43 rfl ?_
  refine h_icmp_ge C dX10_init_45 (by decide) (by decide) rfl (tgt := 86) (fun c9 => absurd c9 (by decide)) (fun _ => ?_)
  refine h_iconst C dX10_init_48 ?_
  refine h_istore_n (L1 := [some (rv w 1), some (iv 0), some (iv 0)]) C dX10_init_49 rfl (Nat.le_of_ble_eq_true rfl) rfl ?_
  refine h_iload_n C dX10_init_50 rfl ?_
  refine h_bipush C dX10_init_51 rfl ?_
  refine h_icmp_ge C dX10_init_53 (by decide) (by decide) rfl (tgt := 80) (fun c9 => absurd c9 (by decide)) (fun _ => ?_)
  refine h_aload_n C dX10_init_56 rfl ?_
  refine h_getR (j := 3) C dX10_init_57 rfl (Nat.le_of_ble_eq_true rfl) (Nat.le_of_ble_eq_true rfl) (Nat.le_of_ble_eq_true rfl) (Nat.le_of_ble_eq_true rfl) fl_10_23 rfl rfl (r := 5) rfl (Nat.le_of_ble_eq_true rfl) ?_
  refine h_iload_n C dX10_init_60 rfl ?_
  refine h_aaldI (r := 6) C dX10_init_61 rfl (Nat.le_of_ble_eq_true rfl) (by decide) (by decide) rfl (Nat.le_of_ble_eq_true rfl) ?_
  refine h_iload_n C dX10_init_62 rfl ?_
  refine h_iload_n C dX10_init_63 rfl ?_
  refine h_iload_n C dX10_init_64 rfl ?_
  refine h_icmp_ne C dX10_init_65 (by decide) (by decide) rfl (tgt := 72) (fun c9 => absurd rfl c9) (fun _ => ?_)
  refine h_iconst C dX10_init_68 ?_
  refine h_goto C dX10_init_69 rfl (tgt := 73) ?_
  refine h_iast (m1 := 1) C dX10_init_73 rfl (Nat.le_of_ble_eq_true rfl) (by decide) (by decide) rfl rfl ?_
  refine h_iinc (L1 := [some (rv w 1), some (iv 0), some (iv 1)]) C dX10_init_74 rfl rfl (Nat.le_of_ble_eq_true rfl) rfl ?_
  refine h_goto C dX10_init_77 rfl (tgt := 50) ?_
  refine h_iload_n C dX10_init_50 rfl ?_
  refine h_bipush C dX10_init_51 rfl ?_
  refine h_icmp_ge C dX10_init_53 (by decide) (by decide) rfl (tgt := 80) (fun c9 => absurd c9 (by decide)) (fun _ => ?_)
  refine h_aload_n C dX10_init_56 rfl ?_
  refine h_getR (j := 3) C dX10_init_57 rfl (Nat.le_of_ble_eq_true rfl) (Nat.le_of_ble_eq_true rfl) (Nat.le_of_ble_eq_true rfl) (Nat.le_of_ble_eq_true rfl) fl_10_23 rfl rfl (r := 5) rfl (Nat.le_of_ble_eq_true rfl) ?_
  refine h_iload_n C dX10_init_60 rfl ?_
  refine h_aaldI (r := 6) C dX10_init_61 rfl (Nat.le_of_ble_eq_true rfl) (by decide) (by decide) rfl (Nat.le_of_ble_eq_true rfl) ?_
  refine h_iload_n C dX10_init_62 rfl ?_
  refine h_iload_n C dX10_init_63 rfl ?_
  refine h_iload_n C dX10_init_64 rfl ?_
  refine h_icmp_ne C dX10_init_65 (by decide) (by decide) rfl (tgt := 72) (fun _ => ?_) (fun c9 => absurd c9 (by decide))
  refine h_iconst C dX10_init_72 ?_
  refine h_iast (m1 := 2) C dX10_init_73 rfl (Nat.le_of_ble_eq_true rfl) (by decide) (by decide) rfl rfl ?_
  refine h_iinc (L1 := [some (rv w 1), some (iv 0), some (iv 2)]) C dX10_init_74 rfl rfl (Nat.le_of_ble_eq_true rfl) rfl ?_
  refine h_goto C dX10_init_77 rfl (tgt := 50) ?_
  refine h_iload_n C dX10_init_50 rfl ?_
  refine h_bipush C dX10_init_51 rfl ?_
  refine h_icmp_ge C dX10_init_53 (by decide) (by decide) rfl (tgt := 80) (fun c9 => absurd c9 (by decide)) (fun _ => ?_)
  refine h_aload_n C dX10_init_56 rfl ?_
  refine h_getR (j := 3) C dX10_init_57 rfl (Nat.le_of_ble_eq_true rfl) (Nat.le_of_ble_eq_true rfl) (Nat.le_of_ble_eq_true rfl) (Nat.le_of_ble_eq_true rfl) fl_10_23 rfl rfl (r := 5) rfl (Nat.le_of_ble_eq_true rfl) ?_
  refine h_iload_n C dX10_init_60 rfl ?_
  refine h_aaldI (r := 6) C dX10_init_61 rfl (Nat.le_of_ble_eq_true rfl) (by decide) (by decide) rfl (Nat.le_of_ble_eq_true rfl) ?_
  refine h_iload_n C dX10_init_62 rfl ?_
  refine h_iload_n C dX10_init_63 rfl ?_
  refine h_iload_n C dX10_init_64 rfl ?_
  refine h_icmp_ne C dX10_init_65 (by decide) (by decide) rfl (tgt := 72) (fun _ => ?_) (fun c9 => absurd c9 (by decide))
  refine h_iconst C dX10_init_72 ?_
  refine h_iast (m1 := 3) C dX10_init_73 rfl (Nat.le_of_ble_eq_true rfl) (by decide) (by decide) rfl rfl ?_
  refine h_iinc (L1 := [some (rv w 1), some (iv 0), some (iv 3)]) C dX10_init_74 rfl rfl (Nat.le_of_ble_eq_true rfl) rfl ?_
  refine h_goto C dX10_init_77 rfl (tgt := 50) ?_
  refine h_iload_n C dX10_init_50 rfl ?_
  refine h_bipush C dX10_init_51 rfl ?_
  refine h_icmp_ge C dX10_init_53 (by decide) (by decide) rfl (tgt := 80) (fun c9 => absurd c9 (by decide)) (fun _ => ?_)
  refine h_aload_n C dX10_init_56 rfl ?_
  refine h_getR (j := 3) C dX10_init_57 rfl (Nat.le_of_ble_eq_true rfl) (Nat.le_of_ble_eq_true rfl) (Nat.le_of_ble_eq_true rfl) (Nat.le_of_ble_eq_true rfl) fl_10_23 rfl rfl (r := 5) rfl (Nat.le_of_ble_eq_true rfl) ?_
  refine h_iload_n C dX10_init_60 rfl ?_
  refine h_aaldI (r := 6) C dX10_init_61 rfl (Nat.le_of_ble_eq_true rfl) (by decide) (by decide) rfl (Nat.le_of_ble_eq_true rfl) ?_
  refine h_iload_n C dX10_init_62 rfl ?_
  refine h_iload_n C dX10_init_63 rfl ?_
  refine h_iload_n C dX10_init_64 rfl ?_
  refine h_icmp_ne C dX10_init_65 (by decide) (by decide) rfl (tgt := 72) (fun _ => ?_) (fun c9 => absurd c9 (by decide))
  refine h_iconst C dX10_init_72 ?_
  refine h_iast (m1 := 4) C dX10_init_73 rfl (Nat.le_of_ble_eq_true rfl) (by decide) (by decide) rfl rfl ?_
  refine h_iinc (L1 := [some (rv w 1), some (iv 0), some (iv 4)]) C dX10_init_74 rfl rfl (Nat.le_of_ble_eq_true rfl) rfl ?_
  refine h_goto C dX10_init_77 rfl (tgt := 50) ?_
  refine h_iload_n C dX10_init_50 rfl ?_
  refine h_bipush C dX10_init_51 rfl ?_
  refine h_icmp_ge C dX10_init_53 (by decide) (by decide) rfl (tgt := 80) (fun c9 => absurd c9 (by decide)) (fun _ => ?_)
  refine h_aload_n C dX10_init_56 rfl ?_
  refine h_getR (j := 3) C dX10_init_57 rfl (Nat.le_of_ble_eq_true rfl) (Nat.le_of_ble_eq_true rfl) (Nat.le_of_ble_eq_true rfl) (Nat.le_of_ble_eq_true rfl) fl_10_23 rfl rfl (r := 5) rfl (Nat.le_of_ble_eq_true rfl) ?_
  refine h_iload_n C dX10_init_60 rfl ?_
  refine h_aaldI (r := 6) C dX10_init_61 rfl (Nat.le_of_ble_eq_true rfl) (by decide) (by decide) rfl (Nat.le_of_ble_eq_true rfl) ?_
  refine h_iload_n C dX10_init_62 rfl ?_
  refine h_iload_n C dX10_init_63 rfl ?_
  refine h_iload_n C dX10_init_64 rfl ?_
  refine h_icmp_ne C dX10_init_65 (by decide) (by decide) rfl (tgt := 72) (fun _ => ?_) (fun c9 => absurd c9 (by decide))
  refine h_iconst C dX10_init_72 ?_
  refine h_iast (m1 := 5) C dX10_init_73 rfl (Nat.le_of_ble_eq_true rfl) (by decide) (by decide) rfl rfl ?_
  refine h_iinc (L1 := [some (rv w 1), some (iv 0), some (iv 5)]) C dX10_init_74 rfl rfl (Nat.le_of_ble_eq_true rfl) rfl ?_
  refine h_goto C dX10_init_77 rfl (tgt := 50) ?_
  refine h_iload_n C dX10_init_50 rfl ?_
  refine h_bipush C dX10_init_51 rfl ?_
  refine h_icmp_ge C dX10_init_53 (by decide) (by decide) rfl (tgt := 80) (fun c9 => absurd c9 (by decide)) (fun _ => ?_)
  refine h_aload_n C dX10_init_56 rfl ?_
  refine h_getR (j := 3) C dX10_init_57 rfl (Nat.le_of_ble_eq_true rfl) (Nat.le_of_ble_eq_true rfl) (Nat.le_of_ble_eq_true rfl) (Nat.le_of_ble_eq_true rfl) fl_10_23 rfl rfl (r := 5) rfl (Nat.le_of_ble_eq_true rfl) ?_
  refine h_iload_n C dX10_init_60 rfl ?_
  refine h_aaldI (r := 6) C dX10_init_61 rfl (Nat.le_of_ble_eq_true rfl) (by decide) (by decide) rfl (Nat.le_of_ble_eq_true rfl) ?_
  refine h_iload_n C dX10_init_62 rfl ?_
  refine h_iload_n C dX10_init_63 rfl ?_
  refine h_iload_n C dX10_init_64 rfl ?_
  refine h_icmp_ne C dX10_init_65 (by decide) (by decide) rfl (tgt := 72) (fun _ => ?_) (fun c9 => absurd c9 (by decide))
  refine h_iconst C dX10_init_72 ?_
  refine h_iast (m1 := 6) C dX10_init_73 rfl (Nat.le_of_ble_eq_true rfl) (by decide) (by decide) rfl rfl ?_
  refine h_iinc (L1 := [some (rv w 1), some (iv 0), some (iv 6)]) C dX10_init_74 rfl rfl (Nat.le_of_ble_eq_true rfl) rfl ?_
  refine h_goto C dX10_init_77 rfl (tgt := 50) ?_
  refine h_iload_n C dX10_init_50 rfl ?_
  refine h_bipush C dX10_init_51 rfl ?_
  refine h_icmp_ge C dX10_init_53 (by decide) (by decide) rfl (tgt := 80) (fun c9 => absurd c9 (by decide)) (fun _ => ?_)
  refine h_aload_n C dX10_init_56 rfl ?_
  refine h_getR (j := 3) C dX10_init_57 rfl (Nat.le_of_ble_eq_true rfl) (Nat.le_of_ble_eq_true rfl) (Nat.le_of_ble_eq_true rfl) (Nat.le_of_ble_eq_true rfl) fl_10_23 rfl rfl (r := 5) rfl (Nat.le_of_ble_eq_true rfl) ?_
  refine h_iload_n C dX10_init_60 rfl ?_
  refine h_aaldI (r := 6) C dX10_init_61 rfl (Nat.le_of_ble_eq_true rfl) (by decide) (by decide) rfl (Nat.le_of_ble_eq_true rfl) ?_
  refine h_iload_n C dX10_init_62 rfl ?_
  refine h_iload_n C dX10_init_63 rfl ?_
  refine h_iload_n C dX10_init_64 rfl ?_
  refine h_icmp_ne C dX10_init_65 (by decide) (by decide) rfl (tgt := 72) (fun _ => ?_) (fun c9 => absurd c9 (by decide))
  refine h_iconst C dX10_init_72 ?_
  refine h_iast (m1 := 7) C dX10_init_73 rfl (Nat.le_of_ble_eq_true rfl) (by decide) (by decide) rfl rfl ?_
  refine h_iinc (L1 := [some (rv w 1), some (iv 0), some (iv 7)]) C dX10_init_74 rfl rfl (Nat.le_of_ble_eq_true rfl) rfl ?_
  refine h_goto C dX10_init_77 rfl (tgt := 50) ?_
  refine h_iload_n C dX10_init_50 rfl ?_
  refine h_bipush C dX10_init_51 rfl ?_
  refine h_icmp_ge C dX10_init_53 (by decide) (by decide) rfl (tgt := 80) (fun c9 => absurd c9 (by decide)) (fun _ => ?_)
  refine h_aload_n C dX10_init_56 rfl ?_
  refine h_getR (j := 3) C dX10_init_57 rfl (Nat.le_of_ble_eq_true rfl) (Nat.le_of_ble_eq_true rfl) (Nat.le_of_ble_eq_true rfl) (Nat.le_of_ble_eq_true rfl) fl_10_23 rfl rfl (r := 5) rfl (Nat.le_of_ble_eq_true rfl) ?_
  refine h_iload_n C dX10_init_60 rfl ?_
  refine h_aaldI (r := 6) C dX10_init_61 rfl (Nat.le_of_ble_eq_true rfl) (by decide) (by decide) rfl (Nat.le_of_ble_eq_true rfl) ?_
  refine h_iload_n C dX10_init_62 rfl ?_
  refine h_iload_n C dX10_init_63 rfl ?_
  refine h_iload_n C dX10_init_64 rfl ?_
  refine h_icmp_ne C dX10_init_65 (by decide) (by decide) rfl (tgt := 72) (fun _ => ?_) (fun c9 => absurd c9 (by decide))
  refine h_iconst C dX10_init_72 ?_
  refine h_iast (m1 := 8) C dX10_init_73 rfl (Nat.le_of_ble_eq_true rfl) (by decide) (by decide) rfl rfl ?_
  refine h_iinc (L1 := [some (rv w 1), some (iv 0), some (iv 8)]) C dX10_init_74 rfl rfl (Nat.le_of_ble_eq_true rfl) rfl ?_
  refine h_goto C dX10_init_77 rfl (tgt := 50) ?_
  refine h_iload_n C dX10_init_50 rfl ?_
  refine h_bipush C dX10_init_51 rfl ?_
  refine h_icmp_ge C dX10_init_53 (by decide) (by decide) rfl (tgt := 80) (fun c9 => absurd c9 (by decide)) (fun _ => ?_)
  refine h_aload_n C dX10_init_56 rfl ?_
  refine h_getR (j := 3) C dX10_init_57 rfl (Nat.le_of_ble_eq_true rfl) (Nat.le_of_ble_eq_true rfl) (Nat.le_of_ble_eq_true rfl) (Nat.le_of_ble_eq_true rfl) fl_10_23 rfl rfl (r := 5) rfl (Nat.le_of_ble_eq_true rfl) ?_
  refine h_iload_n C dX10_init_60 rfl ?_
  refine h_aaldI (r := 6) C dX10_init_61 rfl (Nat.le_of_ble_eq_true rfl) (by decide) (by decide) rfl (Nat.le_of_ble_eq_true rfl) ?_
  refine h_iload_n C dX10_init_62 rfl ?_
  refine h_iload_n C dX10_init_63 rfl ?_
  refine h_iload_n C dX10_init_64 rfl ?_
  refine h_icmp_ne C dX10_init_65 (by decide) (by decide) rfl (tgt := 72) (fun _ => ?_) (fun c9 => absurd c9 (by decide))
  refine h_iconst C dX10_init_72 ?_
  refine h_iast (m1 := 9) C dX10_init_73 rfl (Nat.le_of_ble_eq_true rfl) (by decide) (by decide) rfl rfl ?_
  refine h_iinc (L1 := [some (rv w 1), some (iv 0), some (iv 9)]) C dX10_init_74 rfl rfl (Nat.le_of_ble_eq_true rfl) rfl ?_
  refine h_goto C dX10_init_77 rfl (tgt := 50) ?_
  refine h_iload_n C dX10_init_50 rfl ?_
  refine h_bipush C dX10_init_51 rfl ?_
  refine h_icmp_ge C dX10_init_53 (by decide) (by decide) rfl (tgt := 80) (fun c9 => absurd c9 (by decide)) (fun _ => ?_)
  refine h_aload_n C dX10_init_56 rfl ?_
  refine h_getR (j := 3) C dX10_init_57 rfl (Nat.le_of_ble_eq_true rfl) (Nat.le_of_ble_eq_true rfl) (Nat.le_of_ble_eq_true rfl) (Nat.le_of_ble_eq_true rfl) fl_10_23 rfl rfl (r := 5) rfl (Nat.le_of_ble_eq_true rfl) ?_
  refine h_iload_n C dX10_init_60 rfl ?_
  refine h_aaldI (r := 6) C dX10_init_61 rfl (Nat.le_of_ble_eq_true rfl) (by decide) (by decide) rfl (Nat.le_of_ble_eq_true rfl) ?_
  refine h_iload_n C dX10_init_62 rfl ?_
  refine h_iload_n C dX10_init_63 rfl ?_
  refine h_iload_n C dX10_init_64 rfl ?_
  refine h_icmp_ne C dX10_init_65 (by decide) (by decide) rfl (tgt := 72) (fun _ => ?_) (fun c9 => absurd c9 (by decide))
  refine h_iconst C dX10_init_72 ?_
  refine h_iast (m1 := 10) C dX10_init_73 rfl (Nat.le_of_ble_eq_true rfl) (by decide) (by decide) rfl rfl ?_
  refine h_iinc (L1 := [some (rv w 1), some (iv 0), some (iv 10)]) C dX10_init_74 rfl rfl (Nat.le_of_ble_eq_true rfl) rfl ?_
  refine h_goto C dX10_init_77 rfl (tgt := 50) ?_
  refine h_iload_n C dX10_init_50 rfl ?_
  refine h_bipush C dX10_init_51 rfl ?_
  refine h_icmp_ge C dX10_init_53 (by decide) (by decide) rfl (tgt := 80) (fun _ => ?_) (fun c9 => absurd (by decide) c9)
  refine h_iinc (L1 := [some (rv w 1), some (iv 1), some (iv 10)]) C dX10_init_80 rfl rfl (Nat.le_of_ble_eq_true rfl) rfl ?_
  refine h_goto C dX10_init_83 rfl (tgt := 42) ?_
  refine h_iload_n C dX10_init_42 rfl ?_
  refine h_bipush C dX10_init_43 rfl ?_
  refine h_icmp_ge C dX10_init_45 (by decide) (by decide) rfl (tgt := 86) (fun c9 => absurd c9 (by decide)) (fun _ => ?_)
  refine h_iconst C dX10_init_48 ?_
  refine h_istore_n (L1 := [some (rv w 1), some (iv 1), some (iv 0)]) C dX10_init_49 rfl (Nat.le_of_ble_eq_true rfl) rfl ?_
  refine h_iload_n C dX10_init_50 rfl ?_
  refine h_bipush C dX10_init_51 rfl ?_
  refine h_icmp_ge C dX10_init_53 (by decide) (by decide) rfl (tgt := 80) (fun c9 => absurd c9 (by decide)) (fun _ => ?_)
  refine h_aload_n C dX10_init_56 rfl ?_
  refine h_getR (j := 3) C dX10_init_57 rfl (Nat.le_of_ble_eq_true rfl) (Nat.le_of_ble_eq_true rfl) (Nat.le_of_ble_eq_true rfl) (Nat.le_of_ble_eq_true rfl) fl_10_23 rfl rfl (r := 5) rfl (Nat.le_of_ble_eq_true rfl) ?_
  refine h_iload_n C dX10_init_60 rfl ?_
  refine h_aaldI (r := 7) C dX10_init_61 rfl (Nat.le_of_ble_eq_true rfl) (by decide) (by decide) rfl (Nat.le_of_ble_eq_true rfl) ?_
  refine h_iload_n C dX10_init_62 rfl ?_
  refine h_iload_n C dX10_init_63 rfl ?_
  refine h_iload_n C dX10_init_64 rfl ?_
  refine h_icmp_ne C dX10_init_65 (by decide) (by decide) rfl (tgt := 72) (fun _ => ?_) (fun c9 => absurd c9 (by decide))
  refine h_iconst C dX10_init_72 ?_
  refine h_iast (m1 := 11) C dX10_init_73 rfl (Nat.le_of_ble_eq_true rfl) (by decide) (by decide) rfl rfl ?_
  refine h_iinc (L1 := [some (rv w 1), some (iv 1), some (iv 1)]) C dX10_init_74 rfl rfl (Nat.le_of_ble_eq_true rfl) rfl ?_
  refine h_goto C dX10_init_77 rfl (tgt := 50) ?_
  refine h_iload_n C dX10_init_50 rfl ?_
  refine h_bipush C dX10_init_51 rfl ?_
  refine h_icmp_ge C dX10_init_53 (by decide) (by decide) rfl (tgt := 80) (fun c9 => absurd c9 (by decide)) (fun _ => ?_)
  refine h_aload_n C dX10_init_56 rfl ?_
  refine h_getR (j := 3) C dX10_init_57 rfl (Nat.le_of_ble_eq_true rfl) (Nat.le_of_ble_eq_true rfl) (Nat.le_of_ble_eq_true rfl) (Nat.le_of_ble_eq_true rfl) fl_10_23 rfl rfl (r := 5) rfl (Nat.le_of_ble_eq_true rfl) ?_
  refine h_iload_n C dX10_init_60 rfl ?_
  refine h_aaldI (r := 7) C dX10_init_61 rfl (Nat.le_of_ble_eq_true rfl) (by decide) (by decide) rfl (Nat.le_of_ble_eq_true rfl) ?_
  refine h_iload_n C dX10_init_62 rfl ?_
  refine h_iload_n C dX10_init_63 rfl ?_
  refine h_iload_n C dX10_init_64 rfl ?_
  refine h_icmp_ne C dX10_init_65 (by decide) (by decide) rfl (tgt := 72) (fun c9 => absurd rfl c9) (fun _ => ?_)
  refine h_iconst C dX10_init_68 ?_
  refine h_goto C dX10_init_69 rfl (tgt := 73) ?_
  refine h_iast (m1 := 12) C dX10_init_73 rfl (Nat.le_of_ble_eq_true rfl) (by decide) (by decide) rfl rfl ?_
  refine h_iinc (L1 := [some (rv w 1), some (iv 1), some (iv 2)]) C dX10_init_74 rfl rfl (Nat.le_of_ble_eq_true rfl) rfl ?_
  refine h_goto C dX10_init_77 rfl (tgt := 50) ?_
  refine h_iload_n C dX10_init_50 rfl ?_
  refine h_bipush C dX10_init_51 rfl ?_
  refine h_icmp_ge C dX10_init_53 (by decide) (by decide) rfl (tgt := 80) (fun c9 => absurd c9 (by decide)) (fun _ => ?_)
  refine h_aload_n C dX10_init_56 rfl ?_
  refine h_getR (j := 3) C dX10_init_57 rfl (Nat.le_of_ble_eq_true rfl) (Nat.le_of_ble_eq_true rfl) (Nat.le_of_ble_eq_true rfl) (Nat.le_of_ble_eq_true rfl) fl_10_23 rfl rfl (r := 5) rfl (Nat.le_of_ble_eq_true rfl) ?_
  refine h_iload_n C dX10_init_60 rfl ?_
  refine h_aaldI (r := 7) C dX10_init_61 rfl (Nat.le_of_ble_eq_true rfl) (by decide) (by decide) rfl (Nat.le_of_ble_eq_true rfl) ?_
  refine h_iload_n C dX10_init_62 rfl ?_
  refine h_iload_n C dX10_init_63 rfl ?_
  refine h_iload_n C dX10_init_64 rfl ?_
  refine h_icmp_ne C dX10_init_65 (by decide) (by decide) rfl (tgt := 72) (fun _ => ?_) (fun c9 => absurd c9 (by decide))
  refine h_iconst C dX10_init_72 ?_
  refine h_iast (m1 := 13) C dX10_init_73 rfl (Nat.le_of_ble_eq_true rfl) (by decide) (by decide) rfl rfl ?_
  refine h_iinc (L1 := [some (rv w 1), some (iv 1), some (iv 3)]) C dX10_init_74 rfl rfl (Nat.le_of_ble_eq_true rfl) rfl ?_
  refine h_goto C dX10_init_77 rfl (tgt := 50) ?_
  refine h_iload_n C dX10_init_50 rfl ?_
  refine h_bipush C dX10_init_51 rfl ?_
  refine h_icmp_ge C dX10_init_53 (by decide) (by decide) rfl (tgt := 80) (fun c9 => absurd c9 (by decide)) (fun _ => ?_)
  refine h_aload_n C dX10_init_56 rfl ?_
  refine h_getR (j := 3) C dX10_init_57 rfl (Nat.le_of_ble_eq_true rfl) (Nat.le_of_ble_eq_true rfl) (Nat.le_of_ble_eq_true rfl) (Nat.le_of_ble_eq_true rfl) fl_10_23 rfl rfl (r := 5) rfl (Nat.le_of_ble_eq_true rfl) ?_
  refine h_iload_n C dX10_init_60 rfl ?_
  refine h_aaldI (r := 7) C dX10_init_61 rfl (Nat.le_of_ble_eq_true rfl) (by decide) (by decide) rfl (Nat.le_of_ble_eq_true rfl) ?_
  refine h_iload_n C dX10_init_62 rfl ?_
  refine h_iload_n C dX10_init_63 rfl ?_
  refine h_iload_n C dX10_init_64 rfl ?_
  refine h_icmp_ne C dX10_init_65 (by decide) (by decide) rfl (tgt := 72) (fun _ => ?_) (fun c9 => absurd c9 (by decide))
  refine h_iconst C dX10_init_72 ?_
  refine h_iast (m1 := 14) C dX10_init_73 rfl (Nat.le_of_ble_eq_true rfl) (by decide) (by decide) rfl rfl ?_
  refine h_iinc (L1 := [some (rv w 1), some (iv 1), some (iv 4)]) C dX10_init_74 rfl rfl (Nat.le_of_ble_eq_true rfl) rfl ?_
  refine h_goto C dX10_init_77 rfl (tgt := 50) ?_
  refine h_iload_n C dX10_init_50 rfl ?_
  refine h_bipush C dX10_init_51 rfl ?_
  refine h_icmp_ge C dX10_init_53 (by decide) (by decide) rfl (tgt := 80) (fun c9 => absurd c9 (by decide)) (fun _ => ?_)
  refine h_aload_n C dX10_init_56 rfl ?_
  refine h_getR (j := 3) C dX10_init_57 rfl (Nat.le_of_ble_eq_true rfl) (Nat.le_of_ble_eq_true rfl) (Nat.le_of_ble_eq_true rfl) (Nat.le_of_ble_eq_true rfl) fl_10_23 rfl rfl (r := 5) rfl (Nat.le_of_ble_eq_true rfl) ?_
  refine h_iload_n C dX10_init_60 rfl ?_
  refine h_aaldI (r := 7) C dX10_init_61 rfl (Nat.le_of_ble_eq_true rfl) (by decide) (by decide) rfl (Nat.le_of_ble_eq_true rfl) ?_
  refine h_iload_n C dX10_init_62 rfl ?_
  refine h_iload_n C dX10_init_63 rfl ?_
  refine h_iload_n C dX10_init_64 rfl ?_
  refine h_icmp_ne C dX10_init_65 (by decide) (by decide) rfl (tgt := 72) (fun _ => ?_) (fun c9 => absurd c9 (by decide))
  refine h_iconst C dX10_init_72 ?_
  refine h_iast (m1 := 15) C dX10_init_73 rfl (Nat.le_of_ble_eq_true rfl) (by decide) (by decide) rfl rfl ?_
  refine h_iinc (L1 := [some (rv w 1), some (iv 1), some (iv 5)]) C dX10_init_74 rfl rfl (Nat.le_of_ble_eq_true rfl) rfl ?_
  refine h_goto C dX10_init_77 rfl (tgt := 50) ?_
  refine h_iload_n C dX10_init_50 rfl ?_
  refine h_bipush C dX10_init_51 rfl ?_
  refine h_icmp_ge C dX10_init_53 (by decide) (by decide) rfl (tgt := 80) (fun c9 => absurd c9 (by decide)) (fun _ => ?_)
  refine h_aload_n C dX10_init_56 rfl ?_
  refine h_getR (j := 3) C dX10_init_57 rfl (Nat.le_of_ble_eq_true rfl) (Nat.le_of_ble_eq_true rfl) (Nat.le_of_ble_eq_true rfl) (Nat.le_of_ble_eq_true rfl) fl_10_23 rfl rfl (r := 5) rfl (Nat.le_of_ble_eq_true rfl) ?_
  refine h_iload_n C dX10_init_60 rfl ?_
  refine h_aaldI (r := 7) C dX10_init_61 rfl (Nat.le_of_ble_eq_true rfl) (by decide) (by decide) rfl (Nat.le_of_ble_eq_true rfl) ?_
  refine h_iload_n C dX10_init_62 rfl ?_
  refine h_iload_n C dX10_init_63 rfl ?_
  refine h_iload_n C dX10_init_64 rfl ?_
  refine h_icmp_ne C dX10_init_65 (by decide) (by decide) rfl (tgt := 72) (fun _ => ?_) (fun c9 => absurd c9 (by decide))
  refine h_iconst C dX10_init_72 ?_
  refine h_iast (m1 := 16) C dX10_init_73 rfl (Nat.le_of_ble_eq_true rfl) (by decide) (by decide) rfl rfl ?_
  refine h_iinc (L1 := [some (rv w 1), some (iv 1), some (iv 6)]) C dX10_init_74 rfl rfl (Nat.le_of_ble_eq_true rfl) rfl ?_
  refine h_goto C dX10_init_77 rfl (tgt := 50) ?_
  refine h_iload_n C dX10_init_50 rfl ?_
  refine h_bipush C dX10_init_51 rfl ?_
  refine h_icmp_ge C dX10_init_53 (by decide) (by decide) rfl (tgt := 80) (fun c9 => absurd c9 (by decide)) (fun _ => ?_)
  refine h_aload_n C dX10_init_56 rfl ?_
  refine h_getR (j := 3) C dX10_init_57 rfl (Nat.le_of_ble_eq_true rfl) (Nat.le_of_ble_eq_true rfl) (Nat.le_of_ble_eq_true rfl) (Nat.le_of_ble_eq_true rfl) fl_10_23 rfl rfl (r := 5) rfl (Nat.le_of_ble_eq_true rfl) ?_
  refine h_iload_n C dX10_init_60 rfl ?_
  refine h_aaldI (r := 7) C dX10_init_61 rfl (Nat.le_of_ble_eq_true rfl) (by decide) (by decide) rfl (Nat.le_of_ble_eq_true rfl) ?_
  refine h_iload_n C dX10_init_62 rfl ?_
  refine h_iload_n C dX10_init_63 rfl ?_
  refine h_iload_n C dX10_init_64 rfl ?_
  refine h_icmp_ne C dX10_init_65 (by decide) (by decide) rfl (tgt := 72) (fun _ => ?_) (fun c9 => absurd c9 (by decide))
  refine h_iconst C dX10_init_72 ?_
  refine h_iast (m1 := 17) C dX10_init_73 rfl (Nat.le_of_ble_eq_true rfl) (by decide) (by decide) rfl rfl ?_
  refine h_iinc (L1 := [some (rv w 1), some (iv 1), some (iv 7)]) C dX10_init_74 rfl rfl (Nat.le_of_ble_eq_true rfl) rfl ?_
  refine h_goto C dX10_init_77 rfl (tgt := 50) ?_
  refine h_iload_n C dX10_init_50 rfl ?_
  refine h_bipush C dX10_init_51 rfl ?_
  refine h_icmp_ge C dX10_init_53 (by decide) (by decide) rfl (tgt := 80) (fun c9 => absurd c9 (by decide)) (fun _ => ?_)
  refine h_aload_n C dX10_init_56 rfl ?_
  refine h_getR (j := 3) C dX10_init_57 rfl (Nat.le_of_ble_eq_true rfl) (Nat.le_of_ble_eq_true rfl) (Nat.le_of_ble_eq_true rfl) (Nat.le_of_ble_eq_true rfl) fl_10_23 rfl rfl (r := 5) rfl (Nat.le_of_ble_eq_true rfl) ?_
  refine h_iload_n C dX10_init_60 rfl ?_
  refine h_aaldI (r := 7) C dX10_init_61 rfl (Nat.le_of_ble_eq_true rfl) (by decide) (by decide) rfl (Nat.le_of_ble_eq_true rfl) ?_
  refine h_iload_n C dX10_init_62 rfl ?_
  refine h_iload_n C dX10_init_63 rfl ?_
  refine h_iload_n C dX10_init_64 rfl ?_
  refine h_icmp_ne C dX10_init_65 (by decide) (by decide) rfl (tgt := 72) (fun _ => ?_) (fun c9 => absurd c9 (by decide))
  refine h_iconst C dX10_init_72 ?_
  refine h_iast (m1 := 18) C dX10_init_73 rfl (Nat.le_of_ble_eq_true rfl) (by decide) (by decide) rfl rfl ?_
  refine h_iinc (L1 := [some (rv w 1), some (iv 1), some (iv 8)]) C dX10_init_74 rfl rfl (Nat.le_of_ble_eq_true rfl) rfl ?_
  refine h_goto C dX10_init_77 rfl (tgt := 50) ?_
  refine h_iload_n C dX10_init_50 rfl ?_
  refine h_bipush C dX10_init_51 rfl ?_
  refine h_icmp_ge C dX10_init_53 (by decide) (by decide) rfl (tgt := 80) (fun c9 => absurd c9 (by decide)) (fun _ => ?_)
  refine h_aload_n C dX10_init_56 rfl ?_
  refine h_getR (j := 3) C dX10_init_57 rfl (Nat.le_of_ble_eq_true rfl) (Nat.le_of_ble_eq_true rfl) (Nat.le_of_ble_eq_true rfl) (Nat.le_of_ble_eq_true rfl) fl_10_23 rfl rfl (r := 5) rfl (Nat.le_of_ble_eq_true rfl) ?_
  refine h_iload_n C dX10_init_60 rfl ?_
  refine h_aaldI (r := 7) C dX10_init_61 rfl (Nat.le_of_ble_eq_true rfl) (by decide) (by decide) rfl (Nat.le_of_ble_eq_true rfl) ?_
  refine h_iload_n C dX10_init_62 rfl ?_
  refine h_iload_n C dX10_init_63 rfl ?_
  refine h_iload_n C dX10_init_64 rfl ?_
  refine h_icmp_ne C dX10_init_65 (by decide) (by decide) rfl (tgt := 72) (fun _ => ?_) (fun c9 => absurd c9 (by decide))
  refine h_iconst C dX10_init_72 ?_
  refine h_iast (m1 := 19) C dX10_init_73 rfl (Nat.le_of_ble_eq_true rfl) (by decide) (by decide) rfl rfl ?_
  refine h_iinc (L1 := [some (rv w 1), some (iv 1), some (iv 9)]) C dX10_init_74 rfl rfl (Nat.le_of_ble_eq_true rfl) rfl ?_
  refine h_goto C dX10_init_77 rfl (tgt := 50) ?_
  refine h_iload_n C dX10_init_50 rfl ?_
  refine h_bipush C dX10_init_51 rfl ?_
  refine h_icmp_ge C dX10_init_53 (by decide) (by decide) rfl (tgt := 80) (fun c9 => absurd c9 (by decide)) (fun _ => ?_)
  refine h_aload_n C dX10_init_56 rfl ?_
  refine h_getR (j := 3) C dX10_init_57 rfl (Nat.le_of_ble_eq_true rfl) (Nat.le_of_ble_eq_true rfl) (Nat.le_of_ble_eq_true rfl) (Nat.le_of_ble_eq_true rfl) fl_10_23 rfl rfl (r := 5) rfl (Nat.le_of_ble_eq_true rfl) ?_
  refine h_iload_n C dX10_init_60 rfl ?_
  refine h_aaldI (r := 7) C dX10_init_61 rfl (Nat.le_of_ble_eq_true rfl) (by decide) (by decide) rfl (Nat.le_of_ble_eq_true rfl) ?_
  refine h_iload_n C dX10_init_62 rfl ?_
  refine h_iload_n C dX10_init_63 rfl ?_
  refine h_iload_n C dX10_init_64 rfl ?_
  refine h_icmp_ne C dX10_init_65 (by decide) (by decide) rfl (tgt := 72) (fun _ => ?_) (fun c9 => absurd c9 (by decide))
  refine h_iconst C dX10_init_72 ?_
  refine h_iast (m1 := 20) C dX10_init_73 rfl (Nat.le_of_ble_eq_true rfl) (by decide) (by decide) rfl rfl ?_
  refine h_iinc (L1 := [some (rv w 1), some (iv 1), some (iv 10)]) C dX10_init_74 rfl rfl (Nat.le_of_ble_eq_true rfl) rfl ?_
  refine h_goto C dX10_init_77 rfl (tgt := 50) ?_
  refine h_iload_n C dX10_init_50 rfl ?_
  refine h_bipush C dX10_init_51 rfl ?_
  refine h_icmp_ge C dX10_init_53 (by decide) (by decide) rfl (tgt := 80) (fun _ => ?_) (fun c9 => absurd (by decide) c9)
  refine h_iinc (L1 := [some (rv w 1), some (iv 2), some (iv 10)]) C dX10_init_80 rfl rfl (Nat.le_of_ble_eq_true rfl) rfl ?_
  refine h_goto C dX10_init_83 rfl (tgt := 42) ?_
  refine h_iload_n C dX10_init_42 rfl ?_
  refine h_bipush C dX10_init_43 rfl ?_
  refine h_icmp_ge C dX10_init_45 (by decide) (by decide) rfl (tgt := 86) (fun c9 => absurd c9 (by decide)) (fun _ => ?_)
  refine h_iconst C dX10_init_48 ?_
  refine h_istore_n (L1 := [some (rv w 1), some (iv 2), some (iv 0)]) C dX10_init_49 rfl (Nat.le_of_ble_eq_true rfl) rfl ?_
  refine h_iload_n C dX10_init_50 rfl ?_
  refine h_bipush C dX10_init_51 rfl ?_
  refine h_icmp_ge C dX10_init_53 (by decide) (by decide) rfl (tgt := 80) (fun c9 => absurd c9 (by decide)) (fun _ => ?_)
  refine h_aload_n C dX10_init_56 rfl ?_
  refine h_getR (j := 3) C dX10_init_57 rfl (Nat.le_of_ble_eq_true rfl) (Nat.le_of_ble_eq_true rfl) (Nat.le_of_ble_eq_true rfl) (Nat.le_of_ble_eq_true rfl) fl_10_23 rfl rfl (r := 5) rfl (Nat.le_of_ble_eq_true rfl) ?_
  refine h_iload_n C dX10_init_60 rfl ?_
  refine h_aaldI (r := 8) C dX10_init_61 rfl (Nat.le_of_ble_eq_true rfl) (by decide) (by decide) rfl (Nat.le_of_ble_eq_true rfl) ?_
  refine h_iload_n C dX10_init_62 rfl ?_
  refine h_iload_n C dX10_init_63 rfl ?_
  refine h_iload_n C dX10_init_64 rfl ?_
  refine h_icmp_ne C dX10_init_65 (by decide) (by decide) rfl (tgt := 72) (fun _ => ?_) (fun c9 => absurd c9 (by decide))
  refine h_iconst C dX10_init_72 ?_
  refine h_iast (m1 := 21) C dX10_init_73 rfl (Nat.le_of_ble_eq_true rfl) (by decide) (by decide) rfl rfl ?_
  refine h_iinc (L1 := [some (rv w 1), some (iv 2), some (iv 1)]) C dX10_init_74 rfl rfl (Nat.le_of_ble_eq_true rfl) rfl ?_
  refine h_goto C dX10_init_77 rfl (tgt := 50) ?_
  refine h_iload_n C dX10_init_50 rfl ?_
  refine h_bipush C dX10_init_51 rfl ?_
  refine h_icmp_ge C dX10_init_53 (by decide) (by decide) rfl (tgt := 80) (fun c9 => absurd c9 (by decide)) (fun _ => ?_)
  refine h_aload_n C dX10_init_56 rfl ?_
  refine h_getR (j := 3) C dX10_init_57 rfl (Nat.le_of_ble_eq_true rfl) (Nat.le_of_ble_eq_true rfl) (Nat.le_of_ble_eq_true rfl) (Nat.le_of_ble_eq_true rfl) fl_10_23 rfl rfl (r := 5) rfl (Nat.le_of_ble_eq_true rfl) ?_
  refine h_iload_n C dX10_init_60 rfl ?_
  refine h_aaldI (r := 8) C dX10_init_61 rfl (Nat.le_of_ble_eq_true rfl) (by decide) (by decide) rfl (Nat.le_of_ble_eq_true rfl) ?_
  refine h_iload_n C dX10_init_62 rfl ?_
  refine h_iload_n C dX10_init_63 rfl ?_
  refine h_iload_n C dX10_init_64 rfl ?_
  refine h_icmp_ne C dX10_init_65 (by decide) (by decide) rfl (tgt := 72) (fun _ => ?_) (fun c9 => absurd c9 (by decide))
  refine h_iconst C dX10_init_72 ?_
  refine h_iast (m1 := 22) C dX10_init_73 rfl (Nat.le_of_ble_eq_true rfl) (by decide) (by decide) rfl rfl ?_
  refine h_iinc (L1 := [some (rv w 1), some (iv 2), some (iv 2)]) C dX10_init_74 rfl rfl (Nat.le_of_ble_eq_true rfl) rfl ?_
  refine h_goto C dX10_init_77 rfl (tgt := 50) ?_
  refine h_iload_n C dX10_init_50 rfl ?_
  refine h_bipush C dX10_init_51 rfl ?_
  refine h_icmp_ge C dX10_init_53 (by decide) (by decide) rfl (tgt := 80) (fun c9 => absurd c9 (by decide)) (fun _ => ?_)
  refine h_aload_n C dX10_init_56 rfl ?_
  refine h_getR (j := 3) C dX10_init_57 rfl (Nat.le_of_ble_eq_true rfl) (Nat.le_of_ble_eq_true rfl) (Nat.le_of_ble_eq_true rfl) (Nat.le_of_ble_eq_true rfl) fl_10_23 rfl rfl (r := 5) rfl (Nat.le_of_ble_eq_true rfl) ?_
  refine h_iload_n C dX10_init_60 rfl ?_
  refine h_aaldI (r := 8) C dX10_init_61 rfl (Nat.le_of_ble_eq_true rfl) (by decide) (by decide) rfl (Nat.le_of_ble_eq_true rfl) ?_
  refine h_iload_n C dX10_init_62 rfl ?_
  refine h_iload_n C dX10_init_63 rfl ?_
  refine h_iload_n C dX10_init_64 rfl ?_
  refine h_icmp_ne C dX10_init_65 (by decide) (by decide) rfl (tgt := 72) (fun c9 => absurd rfl c9) (fun _ => ?_)
  refine h_iconst C dX10_init_68 ?_
  refine h_goto C dX10_init_69 rfl (tgt := 73) ?_
  refine h_iast (m1 := 23) C dX10_init_73 rfl (Nat.le_of_ble_eq_true rfl) (by decide) (by decide) rfl rfl ?_
  refine h_iinc (L1 := [some (rv w 1), some (iv 2), some (iv 3)]) C dX10_init_74 rfl rfl (Nat.le_of_ble_eq_true rfl) rfl ?_
  refine h_goto C dX10_init_77 rfl (tgt := 50) ?_
  refine h_iload_n C dX10_init_50 rfl ?_
  refine h_bipush C dX10_init_51 rfl ?_
  refine h_icmp_ge C dX10_init_53 (by decide) (by decide) rfl (tgt := 80) (fun c9 => absurd c9 (by decide)) (fun _ => ?_)
  refine h_aload_n C dX10_init_56 rfl ?_
  refine h_getR (j := 3) C dX10_init_57 rfl (Nat.le_of_ble_eq_true rfl) (Nat.le_of_ble_eq_true rfl) (Nat.le_of_ble_eq_true rfl) (Nat.le_of_ble_eq_true rfl) fl_10_23 rfl rfl (r := 5) rfl (Nat.le_of_ble_eq_true rfl) ?_
  refine h_iload_n C dX10_init_60 rfl ?_
  refine h_aaldI (r := 8) C dX10_init_61 rfl (Nat.le_of_ble_eq_true rfl) (by decide) (by decide) rfl (Nat.le_of_ble_eq_true rfl) ?_
  refine h_iload_n C dX10_init_62 rfl ?_
  refine h_iload_n C dX10_init_63 rfl ?_
  refine h_iload_n C dX10_init_64 rfl ?_
  refine h_icmp_ne C dX10_init_65 (by decide) (by decide) rfl (tgt := 72) (fun _ => ?_) (fun c9 => absurd c9 (by decide))
  refine h_iconst C dX10_init_72 ?_
  refine h_iast (m1 := 24) C dX10_init_73 rfl (Nat.le_of_ble_eq_true rfl) (by decide) (by decide) rfl rfl ?_
  refine h_iinc (L1 := [some (rv w 1), some (iv 2), some (iv 4)]) C dX10_init_74 rfl rfl (Nat.le_of_ble_eq_true rfl) rfl ?_
  refine h_goto C dX10_init_77 rfl (tgt := 50) ?_
  refine h_iload_n C dX10_init_50 rfl ?_
  refine h_bipush C dX10_init_51 rfl ?_
  refine h_icmp_ge C dX10_init_53 (by decide) (by decide) rfl (tgt := 80) (fun c9 => absurd c9 (by decide)) (fun _ => ?_)
  refine h_aload_n C dX10_init_56 rfl ?_
  refine h_getR (j := 3) C dX10_init_57 rfl (Nat.le_of_ble_eq_true rfl) (Nat.le_of_ble_eq_true rfl) (Nat.le_of_ble_eq_true rfl) (Nat.le_of_ble_eq_true rfl) fl_10_23 rfl rfl (r := 5) rfl (Nat.le_of_ble_eq_true rfl) ?_
  refine h_iload_n C dX10_init_60 rfl ?_
  refine h_aaldI (r := 8) C dX10_init_61 rfl (Nat.le_of_ble_eq_true rfl) (by decide) (by decide) rfl (Nat.le_of_ble_eq_true rfl) ?_
  refine h_iload_n C dX10_init_62 rfl ?_
  refine h_iload_n C dX10_init_63 rfl ?_
  refine h_iload_n C dX10_init_64 rfl ?_
  refine h_icmp_ne C dX10_init_65 (by decide) (by decide) rfl (tgt := 72) (fun _ => ?_) (fun c9 => absurd c9 (by decide))
  refine h_iconst C dX10_init_72 ?_
  refine h_iast (m1 := 25) C dX10_init_73 rfl (Nat.le_of_ble_eq_true rfl) (by decide) (by decide) rfl rfl ?_
  refine h_iinc (L1 := [some (rv w 1), some (iv 2), some (iv 5)]) C dX10_init_74 rfl rfl (Nat.le_of_ble_eq_true rfl) rfl ?_
  refine h_goto C dX10_init_77 rfl (tgt := 50) ?_
  refine h_iload_n C dX10_init_50 rfl ?_
  refine h_bipush C dX10_init_51 rfl ?_
  refine h_icmp_ge C dX10_init_53 (by decide) (by decide) rfl (tgt := 80) (fun c9 => absurd c9 (by decide)) (fun _ => ?_)
  refine h_aload_n C dX10_init_56 rfl ?_
  refine h_getR (j := 3) C dX10_init_57 rfl (Nat.le_of_ble_eq_true rfl) (Nat.le_of_ble_eq_true rfl) (Nat.le_of_ble_eq_true rfl) (Nat.le_of_ble_eq_true rfl) fl_10_23 rfl rfl (r := 5) rfl (Nat.le_of_ble_eq_true rfl) ?_
  refine h_iload_n C dX10_init_60 rfl ?_
  refine h_aaldI (r := 8) C dX10_init_61 rfl (Nat.le_of_ble_eq_true rfl) (by decide) (by decide) rfl (Nat.le_of_ble_eq_true rfl) ?_
  refine h_iload_n C dX10_init_62 rfl ?_
  refine h_iload_n C dX10_init_63 rfl ?_
  refine h_iload_n C dX10_init_64 rfl ?_
  refine h_icmp_ne C dX10_init_65 (by decide) (by decide) rfl (tgt := 72) (fun _ => ?_) (fun c9 => absurd c9 (by decide))
  refine h_iconst C dX10_init_72 ?_
  refine h_iast (m1 := 26) C dX10_init_73 rfl (Nat.le_of_ble_eq_true rfl) (by decide) (by decide) rfl rfl ?_
  refine h_iinc (L1 := [some (rv w 1), some (iv 2), some (iv 6)]) C dX10_init_74 rfl rfl (Nat.le_of_ble_eq_true rfl) rfl ?_
  refine h_goto C dX10_init_77 rfl (tgt := 50) ?_
  refine h_iload_n C dX10_init_50 rfl ?_
  refine h_bipush C dX10_init_51 rfl ?_
  refine h_icmp_ge C dX10_init_53 (by decide) (by decide) rfl (tgt := 80) (fun c9 => absurd c9 (by decide)) (fun _ => ?_)
  refine h_aload_n C dX10_init_56 rfl ?_
  refine h_getR (j := 3) C dX10_init_57 rfl (Nat.le_of_ble_eq_true rfl) (Nat.le_of_ble_eq_true rfl) (Nat.le_of_ble_eq_true rfl) (Nat.le_of_ble_eq_true rfl) fl_10_23 rfl rfl (r := 5) rfl (Nat.le_of_ble_eq_true rfl) ?_
  refine h_iload_n C dX10_init_60 rfl ?_
  refine h_aaldI (r := 8) C dX10_init_61 rfl (Nat.le_of_ble_eq_true rfl) (by decide) (by decide) rfl (Nat.le_of_ble_eq_true rfl) ?_
  refine h_iload_n C dX10_init_62 rfl ?_
  refine h_iload_n C dX10_init_63 rfl ?_
  refine h_iload_n C dX10_init_64 rfl ?_
  refine h_icmp_ne C dX10_init_65 (by decide) (by decide) rfl (tgt := 72) (fun _ => ?_) (fun c9 => absurd c9 (by decide))
  refine h_iconst C dX10_init_72 ?_
  refine h_iast (m1 := 27) C dX10_init_73 rfl (Nat.le_of_ble_eq_true rfl) (by decide) (by decide) rfl rfl ?_
  refine h_iinc (L1 := [some (rv w 1), some (iv 2), some (iv 7)]) C dX10_init_74 rfl rfl (Nat.le_of_ble_eq_true rfl) rfl ?_
  refine h_goto C dX10_init_77 rfl (tgt := 50) ?_
  refine h_iload_n C dX10_init_50 rfl ?_
  refine h_bipush C dX10_init_51 rfl ?_
  refine h_icmp_ge C dX10_init_53 (by decide) (by decide) rfl (tgt := 80) (fun c9 => absurd c9 (by decide)) (fun _ => ?_)
  refine h_aload_n C dX10_init_56 rfl ?_
  refine h_getR (j := 3) C dX10_init_57 rfl (Nat.le_of_ble_eq_true rfl) (Nat.le_of_ble_eq_true rfl) (Nat.le_of_ble_eq_true rfl) (Nat.le_of_ble_eq_true rfl) fl_10_23 rfl rfl (r := 5) rfl (Nat.le_of_ble_eq_true rfl) ?_
  refine h_iload_n C dX10_init_60 rfl ?_
  refine h_aaldI (r := 8) C dX10_init_61 rfl (Nat.le_of_ble_eq_true rfl) (by decide) (by decide) rfl (Nat.le_of_ble_eq_true rfl) ?_
  refine h_iload_n C dX10_init_62 rfl ?_
  refine h_iload_n C dX10_init_63 rfl ?_
  refine h_iload_n C dX10_init_64 rfl ?_
  refine h_icmp_ne C dX10_init_65 (by decide) (by decide) rfl (tgt := 72) (fun _ => ?_) (fun c9 => absurd c9 (by decide))
  refine h_iconst C dX10_init_72 ?_
  refine h_iast (m1 := 28) C dX10_init_73 rfl (Nat.le_of_ble_eq_true rfl) (by decide) (by decide) rfl rfl ?_
  refine h_iinc (L1 := [some (rv w 1), some (iv 2), some (iv 8)]) C dX10_init_74 rfl rfl (Nat.le_of_ble_eq_true rfl) rfl ?_
  refine h_goto C dX10_init_77 rfl (tgt := 50) ?_
  refine h_iload_n C dX10_init_50 rfl ?_
  refine h_bipush C dX10_init_51 rfl ?_
  refine h_icmp_ge C dX10_init_53 (by decide) (by decide) rfl (tgt := 80) (fun c9 => absurd c9 (by decide)) (fun _ => ?_)
  refine h_aload_n C dX10_init_56 rfl ?_
  refine h_getR (j := 3) C dX10_init_57 rfl (Nat.le_of_ble_eq_true rfl) (Nat.le_of_ble_eq_true rfl) (Nat.le_of_ble_eq_true rfl) (Nat.le_of_ble_eq_true rfl) fl_10_23 rfl rfl (r := 5) rfl (Nat.le_of_ble_eq_true rfl) ?_
  refine h_iload_n C dX10_init_60 rfl ?_
  refine h_aaldI (r := 8) C dX10_init_61 rfl (Nat.le_of_ble_eq_true rfl) (by decide) (by decide) rfl (Nat.le_of_ble_eq_true rfl) ?_
  refine h_iload_n C dX10_init_62 rfl ?_
  refine h_iload_n C dX10_init_63 rfl ?_
  refine h_iload_n C dX10_init_64 rfl ?_
  refine h_icmp_ne C dX10_init_65 (by decide) (by decide) rfl (tgt := 72) (fun _ => ?_) (fun c9 => absurd c9 (by decide))
  refine h_iconst C dX10_init_72 ?_
  refine h_iast (m1 := 29) C dX10_init_73 rfl (Nat.le_of_ble_eq_true rfl) (by decide) (by decide) rfl rfl ?_
  refine h_iinc (L1 := [some (rv w 1), some (iv 2), some (iv 9)]) C dX10_init_74 rfl rfl (Nat.le_of_ble_eq_true rfl) rfl ?_
  refine h_goto C dX10_init_77 rfl (tgt := 50) ?_
  refine h_iload_n C dX10_init_50 rfl ?_
  refine h_bipush C dX10_init_51 rfl ?_
  refine h_icmp_ge C dX10_init_53 (by decide) (by decide) rfl (tgt := 80) (fun c9 => absurd c9 (by decide)) (fun _ => ?_)
  refine h_aload_n C dX10_init_56 rfl ?_
  refine h_getR (j := 3) C dX10_init_57 rfl (Nat.le_of_ble_eq_true rfl) (Nat.le_of_ble_eq_true rfl) (Nat.le_of_ble_eq_true rfl) (Nat.le_of_ble_eq_true rfl) fl_10_23 rfl rfl (r := 5) rfl (Nat.le_of_ble_eq_true rfl) ?_
  refine h_iload_n C dX10_init_60 rfl ?_
  refine h_aaldI (r := 8) C dX10_init_61 rfl (Nat.le_of_ble_eq_true rfl) (by decide) (by decide) rfl (Nat.le_of_ble_eq_true rfl) ?_
  refine h_iload_n C dX10_init_62 rfl ?_
  refine h_iload_n C dX10_init_63 rfl ?_
  refine h_iload_n C dX10_init_64 rfl ?_
  refine h_icmp_ne C dX10_init_65 (by decide) (by decide) rfl (tgt := 72) (fun _ => ?_) (fun c9 => absurd c9 (by decide))
  refine h_iconst C dX10_init_72 ?_
  refine h_iast (m1 := 30) C dX10_init_73 rfl (Nat.le_of_ble_eq_true rfl) (by decide) (by decide) rfl rfl ?_
  refine h_iinc (L1 := [some (rv w 1), some (iv 2), some (iv 10)]) C dX10_init_74 rfl rfl (Nat.le_of_ble_eq_true rfl) rfl ?_
  refine h_goto C dX10_init_77 rfl (tgt := 50) ?_
  refine h_iload_n C dX10_init_50 rfl ?_
  refine h_bipush C dX10_init_51 rfl ?_
  refine h_icmp_ge C dX10_init_53 (by decide) (by decide) rfl (tgt := 80) (fun _ => ?_) (fun c9 => absurd (by decide) c9)
  refine h_iinc (L1 := [some (rv w 1), some (iv 3), some (iv 10)]) C dX10_init_80 rfl rfl (Nat.le_of_ble_eq_true rfl) rfl ?_
  refine h_goto C dX10_init_83 rfl (tgt := 42) ?_
  refine h_iload_n C dX10_init_42 rfl ?_
  refine h_bipush C dX10_init_43 rfl ?_
  refine h_icmp_ge C dX10_init_45 (by decide) (by decide) rfl (tgt := 86) (fun c9 => absurd c9 (by decide)) (fun _ => ?_)
  refine h_iconst C dX10_init_48 ?_
  refine h_istore_n (L1 := [some (rv w 1), some (iv 3), some (iv 0)]) C dX10_init_49 rfl (Nat.le_of_ble_eq_true rfl) rfl ?_
  refine h_iload_n C dX10_init_50 rfl ?_
  refine h_bipush C dX10_init_51 rfl ?_
  refine h_icmp_ge C dX10_init_53 (by decide) (by decide) rfl (tgt := 80) (fun c9 => absurd c9 (by decide)) (fun _ => ?_)
  refine h_aload_n C dX10_init_56 rfl ?_
  refine h_getR (j := 3) C dX10_init_57 rfl (Nat.le_of_ble_eq_true rfl) (Nat.le_of_ble_eq_true rfl) (Nat.le_of_ble_eq_true rfl) (Nat.le_of_ble_eq_true rfl) fl_10_23 rfl rfl (r := 5) rfl (Nat.le_of_ble_eq_true rfl) ?_
  refine h_iload_n C dX10_init_60 rfl ?_
  refine h_aaldI (r := 9) C dX10_init_61 rfl (Nat.le_of_ble_eq_true rfl) (by decide) (by decide) rfl (Nat.le_of_ble_eq_true rfl) ?_
  refine h_iload_n C dX10_init_62 rfl ?_
  refine h_iload_n C dX10_init_63 rfl ?_
  refine h_iload_n C dX10_init_64 rfl ?_
  refine h_icmp_ne C dX10_init_65 (by decide) (by decide) rfl (tgt := 72) (fun _ => ?_) (fun c9 => absurd c9 (by decide))
  refine h_iconst C dX10_init_72 ?_
  refine h_iast (m1 := 31) C dX10_init_73 rfl (Nat.le_of_ble_eq_true rfl) (by decide) (by decide) rfl rfl ?_
  refine h_iinc (L1 := [some (rv w 1), some (iv 3), some (iv 1)]) C dX10_init_74 rfl rfl (Nat.le_of_ble_eq_true rfl) rfl ?_
  refine h_goto C dX10_init_77 rfl (tgt := 50) ?_
  refine h_iload_n C dX10_init_50 rfl ?_
  refine h_bipush C dX10_init_51 rfl ?_
  refine h_icmp_ge C dX10_init_53 (by decide) (by decide) rfl (tgt := 80) (fun c9 => absurd c9 (by decide)) (fun _ => ?_)
  refine h_aload_n C dX10_init_56 rfl ?_
  refine h_getR (j := 3) C dX10_init_57 rfl (Nat.le_of_ble_eq_true rfl) (Nat.le_of_ble_eq_true rfl) (Nat.le_of_ble_eq_true rfl) (Nat.le_of_ble_eq_true rfl) fl_10_23 rfl rfl (r := 5) rfl (Nat.le_of_ble_eq_true rfl) ?_
  refine h_iload_n C dX10_init_60 rfl ?_
  refine h_aaldI (r := 9) C dX10_init_61 rfl (Nat.le_of_ble_eq_true rfl) (by decide) (by decide) rfl (Nat.le_of_ble_eq_true rfl) ?_
  refine h_iload_n C dX10_init_62 rfl ?_
  refine h_iload_n C dX10_init_63 rfl ?_
  refine h_iload_n C dX10_init_64 rfl ?_
  refine h_icmp_ne C dX10_init_65 (by decide) (by decide) rfl (tgt := 72) (fun _ => ?_) (fun c9 => absurd c9 (by decide))
  refine h_iconst C dX10_init_72 ?_
  refine h_iast (m1 := 32) C dX10_init_73 rfl (Nat.le_of_ble_eq_true rfl) (by decide) (by decide) rfl rfl ?_
  refine h_iinc (L1 := [some (rv w 1), some (iv 3), some (iv 2)]) C dX10_init_74 rfl rfl (Nat.le_of_ble_eq_true rfl) rfl ?_
  refine h_goto C dX10_init_77 rfl (tgt := 50) ?_
  refine h_iload_n C dX10_init_50 rfl ?_
  refine h_bipush C dX10_init_51 rfl ?_
  refine h_icmp_ge C dX10_init_53 (by decide) (by decide) rfl (tgt := 80) (fun c9 => absurd c9 (by decide)) (fun _ => ?_)
  refine h_aload_n C dX10_init_56 rfl ?_
  refine h_getR (j := 3) C dX10_init_57 rfl (Nat.le_of_ble_eq_true rfl) (Nat.le_of_ble_eq_true rfl) (Nat.le_of_ble_eq_true rfl) (Nat.le_of_ble_eq_true rfl) fl_10_23 rfl rfl (r := 5) rfl (Nat.le_of_ble_eq_true rfl) ?_
  refine h_iload_n C dX10_init_60 rfl ?_
  refine h_aaldI (r := 9) C dX10_init_61 rfl (Nat.le_of_ble_eq_true rfl) (by decide) (by decide) rfl (Nat.le_of_ble_eq_true rfl) ?_
  refine h_iload_n C dX10_init_62 rfl ?_
  refine h_iload_n C dX10_init_63 rfl ?_
  refine h_iload_n C dX10_init_64 rfl ?_
  refine h_icmp_ne C dX10_init_65 (by decide) (by decide) rfl (tgt := 72) (fun _ => ?_) (fun c9 => absurd c9 (by decide))
  refine h_iconst C dX10_init_72 ?_
  refine h_iast (m1 := 33) C dX10_init_73 rfl (Nat.le_of_ble_eq_true rfl) (by decide) (by decide) rfl rfl ?_
  refine h_iinc (L1 := [some (rv w 1), some (iv 3), some (iv 3)]) C dX10_init_74 rfl rfl (Nat.le_of_ble_eq_true rfl) rfl ?_
  refine h_goto C dX10_init_77 rfl (tgt := 50) ?_
  refine h_iload_n C dX10_init_50 rfl ?_
  refine h_bipush C dX10_init_51 rfl ?_
  refine h_icmp_ge C dX10_init_53 (by decide) (by decide) rfl (tgt := 80) (fun c9 => absurd c9 (by decide)) (fun _ => ?_)
  refine h_aload_n C dX10_init_56 rfl ?_
  refine h_getR (j := 3) C dX10_init_57 rfl (Nat.le_of_ble_eq_true rfl) (Nat.le_of_ble_eq_true rfl) (Nat.le_of_ble_eq_true rfl) (Nat.le_of_ble_eq_true rfl) fl_10_23 rfl rfl (r := 5) rfl (Nat.le_of_ble_eq_true rfl) ?_
  refine h_iload_n C dX10_init_60 rfl ?_
  refine h_aaldI (r := 9) C dX10_init_61 rfl (Nat.le_of_ble_eq_true rfl) (by decide) (by decide) rfl (Nat.le_of_ble_eq_true rfl) ?_
  refine h_iload_n C dX10_init_62 rfl ?_
  refine h_iload_n C dX10_init_63 rfl ?_
  refine h_iload_n C dX10_init_64 rfl ?_
  refine h_icmp_ne C dX10_init_65 (by decide) (by decide) rfl (tgt := 72) (fun c9 => absurd rfl c9) (fun _ => ?_)
  refine h_iconst C dX10_init_68 ?_
  refine h_goto C dX10_init_69 rfl (tgt := 73) ?_
  refine h_iast (m1 := 34) C dX10_init_73 rfl (Nat.le_of_ble_eq_true rfl) (by decide) (by decide) rfl rfl ?_
  refine h_iinc (L1 := [some (rv w 1), some (iv 3), some (iv 4)]) C dX10_init_74 rfl rfl (Nat.le_of_ble_eq_true rfl) rfl ?_
  refine h_goto C dX10_init_77 rfl (tgt := 50) ?_
  refine h_iload_n C dX10_init_50 rfl ?_
  refine h_bipush C dX10_init_51 rfl ?_
  refine h_icmp_ge C dX10_init_53 (by decide) (by decide) rfl (tgt := 80) (fun c9 => absurd c9 (by decide)) (fun _ => ?_)
  refine h_aload_n C dX10_init_56 rfl ?_
  refine h_getR (j := 3) C dX10_init_57 rfl (Nat.le_of_ble_eq_true rfl) (Nat.le_of_ble_eq_true rfl) (Nat.le_of_ble_eq_true rfl) (Nat.le_of_ble_eq_true rfl) fl_10_23 rfl rfl (r := 5) rfl (Nat.le_of_ble_eq_true rfl) ?_
  refine h_iload_n C dX10_init_60 rfl ?_
  refine h_aaldI (r := 9) C dX10_init_61 rfl (Nat.le_of_ble_eq_true rfl) (by decide) (by decide) rfl (Nat.le_of_ble_eq_true rfl) ?_
  refine h_iload_n C dX10_init_62 rfl ?_
  refine h_iload_n C dX10_init_63 rfl ?_
  refine h_iload_n C dX10_init_64 rfl ?_
  refine h_icmp_ne C dX10_init_65 (by decide) (by decide) rfl (tgt := 72) (fun _ => ?_) (fun c9 => absurd c9 (by decide))
  refine h_iconst C dX10_init_72 ?_
  refine h_iast (m1 := 35) C dX10_init_73 rfl (Nat.le_of_ble_eq_true rfl) (by decide) (by decide) rfl rfl ?_
  refine h_iinc (L1 := [some (rv w 1), some (iv 3), some (iv 5)]) C dX10_init_74 rfl rfl (Nat.le_of_ble_eq_true rfl) rfl ?_
  refine h_goto C dX10_init_77 rfl (tgt := 50) ?_
  refine h_iload_n C dX10_init_50 rfl ?_
  refine h_bipush C dX10_init_51 rfl ?_
  refine h_icmp_ge C dX10_init_53 (by decide) (by decide) rfl (tgt := 80) (fun c9 => absurd c9 (by decide)) (fun _ => ?_)
  refine h_aload_n C dX10_init_56 rfl ?_
  refine h_getR (j := 3) C dX10_init_57 rfl (Nat.le_of_ble_eq_true rfl) (Nat.le_of_ble_eq_true rfl) (Nat.le_of_ble_eq_true rfl) (Nat.le_of_ble_eq_true rfl) fl_10_23 rfl rfl (r := 5) rfl (Nat.le_of_ble_eq_true rfl) ?_
  refine h_iload_n C dX10_init_60 rfl ?_
  refine h_aaldI (r := 9) C dX10_init_61 rfl (Nat.le_of_ble_eq_true rfl) (by decide) (by decide) rfl (Nat.le_of_ble_eq_true rfl) ?_
  refine h_iload_n C dX10_init_62 rfl ?_
  refine h_iload_n C dX10_init_63 rfl ?_
  refine h_iload_n C dX10_init_64 rfl ?_
  refine h_icmp_ne C dX10_init_65 (by decide) (by decide) rfl (tgt := 72) (fun _ => ?_) (fun c9 => absurd c9 (by decide))
  refine h_iconst C dX10_init_72 ?_
  refine h_iast (m1 := 36) C dX10_init_73 rfl (Nat.le_of_ble_eq_true rfl) (by decide) (by decide) rfl rfl ?_
  refine h_iinc (L1 := [some (rv w 1), some (iv 3), some (iv 6)]) C dX10_init_74 rfl rfl (Nat.le_of_ble_eq_true rfl) rfl ?_
  refine h_goto C dX10_init_77 rfl (tgt := 50) ?_
  refine h_iload_n C dX10_init_50 rfl ?_
  refine h_bipush C dX10_init_51 rfl ?_
  refine h_icmp_ge C dX10_init_53 (by decide) (by decide) rfl (tgt := 80) (fun c9 => absurd c9 (by decide)) (fun _ => ?_)
  refine h_aload_n C dX10_init_56 rfl ?_
  refine h_getR (j := 3) C dX10_init_57 rfl (Nat.le_of_ble_eq_true rfl) (Nat.le_of_ble_eq_true rfl) (Nat.le_of_ble_eq_true rfl) (Nat.le_of_ble_eq_true rfl) fl_10_23 rfl rfl (r := 5) rfl (Nat.le_of_ble_eq_true rfl) ?_
  refine h_iload_n C dX10_init_60 rfl ?_
  refine h_aaldI (r := 9) C dX10_init_61 rfl (Nat.le_of_ble_eq_true rfl) (by decide) (by decide) rfl (Nat.le_of_ble_eq_true rfl) ?_
  refine h_iload_n C dX10_init_62 rfl ?_
  refine h_iload_n C dX10_init_63 rfl ?_
  refine h_iload_n C dX10_init_64 rfl ?_
  refine h_icmp_ne C dX10_init_65 (by decide) (by decide) rfl (tgt := 72) (fun _ => ?_) (fun c9 => absurd c9 (by decide))
  refine h_iconst C dX10_init_72 ?_
  refine h_iast (m1 := 37) C dX10_init_73 rfl (Nat.le_of_ble_eq_true rfl) (by decide) (by decide) rfl rfl ?_
  refine h_iinc (L1 := [some (rv w 1), some (iv 3), some (iv 7)]) C dX10_init_74 rfl rfl (Nat.le_of_ble_eq_true rfl) rfl ?_
  refine h_goto C dX10_init_77 rfl (tgt := 50) ?_
  refine h_iload_n C dX10_init_50 rfl ?_
  refine h_bipush C dX10_init_51 rfl ?_
  refine h_icmp_ge C dX10_init_53 (by decide) (by decide) rfl (tgt := 80) (fun c9 => absurd c9 (by decide)) (fun _ => ?_)
  refine h_aload_n C dX10_init_56 rfl ?_
  refine h_getR (j := 3) C dX10_init_57 rfl (Nat.le_of_ble_eq_true rfl) (Nat.le_of_ble_eq_true rfl) (Nat.le_of_ble_eq_true rfl) (Nat.le_of_ble_eq_true rfl) fl_10_23 rfl rfl (r := 5) rfl (Nat.le_of_ble_eq_true rfl) ?_
  refine h_iload_n C dX10_init_60 rfl ?_
  refine h_aaldI (r := 9) C dX10_init_61 rfl (Nat.le_of_ble_eq_true rfl) (by decide) (by decide) rfl (Nat.le_of_ble_eq_true rfl) ?_
  refine h_iload_n C dX10_init_62 rfl ?_
  refine h_iload_n C dX10_init_63 rfl ?_
  refine h_iload_n C dX10_init_64 rfl ?_
  refine h_icmp_ne C dX10_init_65 (by decide) (by decide) rfl (tgt := 72) (fun _ => ?_) (fun c9 => absurd c9 (by decide))
  refine h_iconst C dX10_init_72 ?_
  refine h_iast (m1 := 38) C dX10_init_73 rfl (Nat.le_of_ble_eq_true rfl) (by decide) (by decide) rfl rfl ?_
  refine h_iinc (L1 := [some (rv w 1), some (iv 3), some (iv 8)]) C dX10_init_74 rfl rfl (Nat.le_of_ble_eq_true rfl) rfl ?_
  refine h_goto C dX10_init_77 rfl (tgt := 50) ?_
  refine h_iload_n C dX10_init_50 rfl ?_
  refine h_bipush C dX10_init_51 rfl ?_
  refine h_icmp_ge C dX10_init_53 (by decide) (by decide) rfl (tgt := 80) (fun c9 => absurd c9 (by decide)) (fun _ => ?_)
  refine h_aload_n C dX10_init_56 rfl ?_
  refine h_getR (j := 3) C dX10_init_57 rfl (Nat.le_of_ble_eq_true rfl) (Nat.le_of_ble_eq_true rfl) (Nat.le_of_ble_eq_true rfl) (Nat.le_of_ble_eq_true rfl) fl_10_23 rfl rfl (r := 5) rfl (Nat.le_of_ble_eq_true rfl) ?_
  refine h_iload_n C dX10_init_60 rfl ?_
  refine h_aaldI (r := 9) C dX10_init_61 rfl (Nat.le_of_ble_eq_true rfl) (by decide) (by decide) rfl (Nat.le_of_ble_eq_true rfl) ?_
  refine h_iload_n C dX10_init_62 rfl ?_
  refine h_iload_n C dX10_init_63 rfl ?_
  refine h_iload_n C dX10_init_64 rfl ?_
  refine h_icmp_ne C dX10_init_65 (by decide) (by decide) rfl (tgt := 72) (fun _ => ?_) (fun c9 => absurd c9 (by decide))
  refine h_iconst C dX10_init_72 ?_
  refine h_iast (m1 := 39) C dX10_init_73 rfl (Nat.le_of_ble_eq_true rfl) (by decide) (by decide) rfl rfl ?_
  refine h_iinc (L1 := [some (rv w 1), some (iv 3), some (iv 9)]) C dX10_init_74 rfl rfl (Nat.le_of_ble_eq_true rfl) rfl ?_
  refine h_goto C dX10_init_77 rfl (tgt := 50) ?_
  refine h_iload_n C dX10_init_50 rfl ?_
  refine h_bipush C dX10_init_51 rfl ?_
  refine h_icmp_ge C dX10_init_53 (by decide) (by decide) rfl (tgt := 80) (fun c9 => absurd c9 (by decide)) (fun _ => ?_)
  refine h_aload_n C dX10_init_56 rfl ?_
  refine h_getR (j := 3) C dX10_init_57 rfl (Nat.le_of_ble_eq_true rfl) (Nat.le_of_ble_eq_true rfl) (Nat.le_of_ble_eq_true rfl) (Nat.le_of_ble_eq_true rfl) fl_10_23 rfl rfl (r := 5) rfl (Nat.le_of_ble_eq_true rfl) ?_
  refine h_iload_n C dX10_init_60 rfl ?_
  refine h_aaldI (r := 9) C dX10_init_61 rfl (Nat.le_of_ble_eq_true rfl) (by decide) (by decide) rfl (Nat.le_of_ble_eq_true rfl) ?_
  refine h_iload_n C dX10_init_62 rfl ?_
  refine h_iload_n C dX10_init_63 rfl ?_
  refine h_iload_n C dX10_init_64 rfl ?_
  refine h_icmp_ne C dX10_init_65 (by decide) (by decide) rfl (tgt := 72) (fun _ => ?_) (fun c9 => absurd c9 (by decide))
  refine h_iconst C dX10_init_72 ?_
  refine h_iast (m1 := 40) C dX10_init_73 rfl (Nat.le_of_ble_eq_true rfl) (by decide) (by decide) rfl rfl ?_
  refine h_iinc (L1 := [some (rv w 1), some (iv 3), some (iv 10)]) C dX10_init_74 rfl rfl (Nat.le_of_ble_eq_true rfl) rfl ?_
  refine h_goto C dX10_init_77 rfl (tgt := 50) ?_
  refine h_iload_n C dX10_init_50 rfl ?_
  refine h_bipush C dX10_init_51 rfl ?_
  refine h_icmp_ge C dX10_init_53 (by decide) (by decide) rfl (tgt := 80) (fun _ => ?_) (fun c9 => absurd (by decide) c9)
  refine h_iinc (L1 := [some (rv w 1), some (iv 4), some (iv 10)]) C dX10_init_80 rfl rfl (Nat.le_of_ble_eq_true rfl) rfl ?_
  refine h_goto C dX10_init_83 rfl (tgt := 42) ?_
  refine h_iload_n C dX10_init_42 rfl ?_
  refine h_bipush C dX10_init_43 rfl ?_
  refine h_icmp_ge C dX10_init_45 (by decide) (by decide) rfl (tgt := 86) (fun c9 => absurd c9 (by decide)) (fun _ => ?_)
  refine h_iconst C dX10_init_48 ?_
  refine h_istore_n (L1 := [some (rv w 1), some (iv 4), some (iv 0)]) C dX10_init_49 rfl (Nat.le_of_ble_eq_true rfl) rfl ?_
  refine h_iload_n C dX10_init_50 rfl ?_
  refine h_bipush C dX10_init_51 rfl ?_
  refine h_icmp_ge C dX10_init_53 (by decide) (by decide) rfl (tgt := 80) (fun c9 => absurd c9 (by decide)) (fun _ => ?_)
  refine h_aload_n C dX10_init_56 rfl ?_
  refine h_getR (j := 3) C dX10_init_57 rfl (Nat.le_of_ble_eq_true rfl) (Nat.le_of_ble_eq_true rfl) (Nat.le_of_ble_eq_true rfl) (Nat.le_of_ble_eq_true rfl) fl_10_23 rfl rfl (r := 5) rfl (Nat.le_of_ble_eq_true rfl) ?_
  refine h_iload_n C dX10_init_60 rfl ?_
  refine h_aaldI (r := 10) C dX10_init_61 rfl (Nat.le_of_ble_eq_true rfl) (by decide) (by decide) rfl (Nat.le_of_ble_eq_true rfl) ?_
  refine h_iload_n C dX10_init_62 rfl ?_
  refine h_iload_n C dX10_init_63 rfl ?_
  refine h_iload_n C dX10_init_64 rfl ?_
  refine h_icmp_ne C dX10_init_65 (by decide) (by decide) rfl (tgt := 72) (fun _ => ?_) (fun c9 => absurd c9 (by decide))
  refine h_iconst C dX10_init_72 ?_
  refine h_iast (m1 := 41) C dX10_init_73 rfl (Nat.le_of_ble_eq_true rfl) (by decide) (by decide) rfl rfl ?_
  refine h_iinc (L1 := [some (rv w 1), some (iv 4), some (iv 1)]) C dX10_init_74 rfl rfl (Nat.le_of_ble_eq_true rfl) rfl ?_
  refine h_goto C dX10_init_77 rfl (tgt := 50) ?_
  refine h_iload_n C dX10_init_50 rfl ?_
  refine h_bipush C dX10_init_51 rfl ?_
  refine h_icmp_ge C dX10_init_53 (by decide) (by decide) rfl (tgt := 80) (fun c9 => absurd c9 (by decide)) (fun _ => ?_)
  refine h_aload_n C dX10_init_56 rfl ?_
  refine h_getR (j := 3) C dX10_init_57 rfl (Nat.le_of_ble_eq_true rfl) (Nat.le_of_ble_eq_true rfl) (Nat.le_of_ble_eq_true rfl) (Nat.le_of_ble_eq_true rfl) fl_10_23 rfl rfl (r := 5) rfl (Nat.le_of_ble_eq_true rfl) ?_
  refine h_iload_n C dX10_init_60 rfl ?_
  refine h_aaldI (r := 10) C dX10_init_61 rfl (Nat.le_of_ble_eq_true rfl) (by decide) (by decide) rfl (Nat.le_of_ble_eq_true rfl) ?_
  refine h_iload_n C dX10_init_62 rfl ?_
  refine h_iload_n C dX10_init_63 rfl ?_
  refine h_iload_n C dX10_init_64 rfl ?_
  refine h_icmp_ne C dX10_init_65 (by decide) (by decide) rfl (tgt := 72) (fun _ => ?_) (fun c9 => absurd c9 (by decide))
  refine h_iconst C dX10_init_72 ?_
  refine h_iast (m1 := 42) C dX10_init_73 rfl (Nat.le_of_ble_eq_true rfl) (by decide) (by decide) rfl rfl ?_
  refine h_iinc (L1 := [some (rv w 1), some (iv 4), some (iv 2)]) C dX10_init_74 rfl rfl (Nat.le_of_ble_eq_true rfl) rfl ?_
  refine h_goto C dX10_init_77 rfl (tgt := 50) ?_
  refine h_iload_n C dX10_init_50 rfl ?_
  refine h_bipush C dX10_init_51 rfl ?_
  refine h_icmp_ge C dX10_init_53 (by decide) (by decide) rfl (tgt := 80) (fun c9 => absurd c9 (by decide)) (fun _ => ?_)
  refine h_aload_n C dX10_init_56 rfl ?_
  refine h_getR (j := 3) C dX10_init_57 rfl (Nat.le_of_ble_eq_true rfl) (Nat.le_of_ble_eq_true rfl) (Nat.le_of_ble_eq_true rfl) (Nat.le_of_ble_eq_true rfl) fl_10_23 rfl rfl (r := 5) rfl (Nat.le_of_ble_eq_true rfl) ?_
  refine h_iload_n C dX10_init_60 rfl ?_
  refine h_aaldI (r := 10) C dX10_init_61 rfl (Nat.le_of_ble_eq_true rfl) (by decide) (by decide) rfl (Nat.le_of_ble_eq_true rfl) ?_
  refine h_iload_n C dX10_init_62 rfl ?_
  refine h_iload_n C dX10_init_63 rfl ?_
  refine h_iload_n C dX10_init_64 rfl ?_
  refine h_icmp_ne C dX10_init_65 (by decide) (by decide) rfl (tgt := 72) (fun _ => ?_) (fun c9 => absurd c9 (by decide))
  refine h_iconst C dX10_init_72 ?_
  refine h_iast (m1 := 43) C dX10_init_73 rfl (Nat.le_of_ble_eq_true rfl) (by decide) (by decide) rfl rfl ?_
  refine h_iinc (L1 := [some (rv w 1), some (iv 4), some (iv 3)]) C dX10_init_74 rfl rfl (Nat.le_of_ble_eq_true rfl) rfl ?_
  refine h_goto C dX10_init_77 rfl (tgt := 50) ?_
  refine h_iload_n C dX10_init_50 rfl ?_
  refine h_bipush C dX10_init_51 rfl ?_
  refine h_icmp_ge C dX10_init_53 (by decide) (by decide) rfl (tgt := 80) (fun c9 => absurd c9 (by decide)) (fun _ => ?_)
  refine h_aload_n C dX10_init_56 rfl ?_
  refine h_getR (j := 3) C dX10_init_57 rfl (Nat.le_of_ble_eq_true rfl) (Nat.le_of_ble_eq_true rfl) (Nat.le_of_ble_eq_true rfl) (Nat.le_of_ble_eq_true rfl) fl_10_23 rfl rfl (r := 5) rfl (Nat.le_of_ble_eq_true rfl) ?_
  refine h_iload_n C dX10_init_60 rfl ?_
  refine h_aaldI (r := 10) C dX10_init_61 rfl (Nat.le_of_ble_eq_true rfl) (by decide) (by decide) rfl (Nat.le_of_ble_eq_true rfl) ?_
  refine h_iload_n C dX10_init_62 rfl ?_
  refine h_iload_n C dX10_init_63 rfl ?_
  refine h_iload_n C dX10_init_64 rfl ?_
  refine h_icmp_ne C dX10_init_65 (by decide) (by decide) rfl (tgt := 72) (fun _ => ?_) (fun c9 => absurd c9 (by decide))
  refine h_iconst C dX10_init_72 ?_
  refine h_iast (m1 := 44) C dX10_init_73 rfl (Nat.le_of_ble_eq_true rfl) (by decide) (by decide) rfl rfl ?_
  refine h_iinc (L1 := [some (rv w 1), some (iv 4), some (iv 4)]) C dX10_init_74 rfl rfl (Nat.le_of_ble_eq_true rfl) rfl ?_
  refine h_goto C dX10_init_77 rfl (tgt := 50) ?_
  refine h_iload_n C dX10_init_50 rfl ?_
  refine h_bipush C dX10_init_51 rfl ?_
  refine h_icmp_ge C dX10_init_53 (by decide) (by decide) rfl (tgt := 80) (fun c9 => absurd c9 (by decide)) (fun _ => ?_)
  refine h_aload_n C dX10_init_56 rfl ?_
  refine h_getR (j := 3) C dX10_init_57 rfl (Nat.le_of_ble_eq_true rfl) (Nat.le_of_ble_eq_true rfl) (Nat.le_of_ble_eq_true rfl) (Nat.le_of_ble_eq_true rfl) fl_10_23 rfl rfl (r := 5) rfl (Nat.le_of_ble_eq_true rfl) ?_
  refine h_iload_n C dX10_init_60 rfl ?_
  refine h_aaldI (r := 10) C dX10_init_61 rfl (Nat.le_of_ble_eq_true rfl) (by decide) (by decide) rfl (Nat.le_of_ble_eq_true rfl) ?_
  refine h_iload_n C dX10_init_62 rfl ?_
  refine h_iload_n C dX10_init_63 rfl ?_
  refine h_iload_n C dX10_init_64 rfl ?_
  refine h_icmp_ne C dX10_init_65 (by decide) (by decide) rfl (tgt := 72) (fun c9 => absurd rfl c9) (fun _ => ?_)
  refine h_iconst C dX10_init_68 ?_
  refine h_goto C dX10_init_69 rfl (tgt := 73) ?_
  refine h_iast (m1 := 45) C dX10_init_73 rfl (Nat.le_of_ble_eq_true rfl) (by decide) (by decide) rfl rfl ?_
  refine h_iinc (L1 := [some (rv w 1), some (iv 4), some (iv 5)]) C dX10_init_74 rfl rfl (Nat.le_of_ble_eq_true rfl) rfl ?_
  refine h_goto C dX10_init_77 rfl (tgt := 50) ?_
  refine h_iload_n C dX10_init_50 rfl ?_
  refine h_bipush C dX10_init_51 rfl ?_
  refine h_icmp_ge C dX10_init_53 (by decide) (by decide) rfl (tgt := 80) (fun c9 => absurd c9 (by decide)) (fun _ => ?_)
  refine h_aload_n C dX10_init_56 rfl ?_
  refine h_getR (j := 3) C dX10_init_57 rfl (Nat.le_of_ble_eq_true rfl) (Nat.le_of_ble_eq_true rfl) (Nat.le_of_ble_eq_true rfl) (Nat.le_of_ble_eq_true rfl) fl_10_23 rfl rfl (r := 5) rfl (Nat.le_of_ble_eq_true rfl) ?_
  refine h_iload_n C dX10_init_60 rfl ?_
  refine h_aaldI (r := 10) C dX10_init_61 rfl (Nat.le_of_ble_eq_true rfl) (by decide) (by decide) rfl (Nat.le_of_ble_eq_true rfl) ?_
  refine h_iload_n C dX10_init_62 rfl ?_
  refine h_iload_n C dX10_init_63 rfl ?_
  refine h_iload_n C dX10_init_64 rfl ?_
  refine h_icmp_ne C dX10_init_65 (by decide) (by decide) rfl (tgt := 72) (fun _ => ?_) (fun c9 => absurd c9 (by decide))
  refine h_iconst C dX10_init_72 ?_
  refine h_iast (m1 := 46) C dX10_init_73 rfl (Nat.le_of_ble_eq_true rfl) (by decide) (by decide) rfl rfl ?_
  refine h_iinc (L1 := [some (rv w 1), some (iv 4), some (iv 6)]) C dX10_init_74 rfl rfl (Nat.le_of_ble_eq_true rfl) rfl ?_
  refine h_goto C dX10_init_77 rfl (tgt := 50) ?_
  refine h_iload_n C dX10_init_50 rfl ?_
  refine h_bipush C dX10_init_51 rfl ?_
  refine h_icmp_ge C dX10_init_53 (by decide) (by decide) rfl (tgt := 80) (fun c9 => absurd c9 (by decide)) (fun _ => ?_)
  refine h_aload_n C dX10_init_56 rfl ?_
  refine h_getR (j := 3) C dX10_init_57 rfl (Nat.le_of_ble_eq_true rfl) (Nat.le_of_ble_eq_true rfl) (Nat.le_of_ble_eq_true rfl) (Nat.le_of_ble_eq_true rfl) fl_10_23 rfl rfl (r := 5) rfl (Nat.le_of_ble_eq_true rfl) ?_
  refine h_iload_n C dX10_init_60 rfl ?_
  refine h_aaldI (r := 10) C dX10_init_61 rfl (Nat.le_of_ble_eq_true rfl) (by decide) (by decide) rfl (Nat.le_of_ble_eq_true rfl) ?_
  refine h_iload_n C dX10_init_62 rfl ?_
  refine h_iload_n C dX10_init_63 rfl ?_
  refine h_iload_n C dX10_init_64 rfl ?_
  refine h_icmp_ne C dX10_init_65 (by decide) (by decide) rfl (tgt := 72) (fun _ => ?_) (fun c9 => absurd c9 (by decide))
  refine h_iconst C dX10_init_72 ?_
  refine h_iast (m1 := 47) C dX10_init_73 rfl (Nat.le_of_ble_eq_true rfl) (by decide) (by decide) rfl rfl ?_
  refine h_iinc (L1 := [some (rv w 1), some (iv 4), some (iv 7)]) C dX10_init_74 rfl rfl (Nat.le_of_ble_eq_true rfl) rfl ?_
  refine h_goto C dX10_init_77 rfl (tgt := 50) ?_
  refine h_iload_n C dX10_init_50 rfl ?_
  refine h_bipush C dX10_init_51 rfl ?_
  refine h_icmp_ge C dX10_init_53 (by decide) (by decide) rfl (tgt := 80) (fun c9 => absurd c9 (by decide)) (fun _ => ?_)
  refine h_aload_n C dX10_init_56 rfl ?_
  refine h_getR (j := 3) C dX10_init_57 rfl (Nat.le_of_ble_eq_true rfl) (Nat.le_of_ble_eq_true rfl) (Nat.le_of_ble_eq_true rfl) (Nat.le_of_ble_eq_true rfl) fl_10_23 rfl rfl (r := 5) rfl (Nat.le_of_ble_eq_true rfl) ?_
  refine h_iload_n C dX10_init_60 rfl ?_
  refine h_aaldI (r := 10) C dX10_init_61 rfl (Nat.le_of_ble_eq_true rfl) (by decide) (by decide) rfl (Nat.le_of_ble_eq_true rfl) ?_
  refine h_iload_n C dX10_init_62 rfl ?_
  refine h_iload_n C dX10_init_63 rfl ?_
  refine h_iload_n C dX10_init_64 rfl ?_
  refine h_icmp_ne C dX10_init_65 (by decide) (by decide) rfl (tgt := 72) (fun _ => ?_) (fun c9 => absurd c9 (by decide))
  refine h_iconst C dX10_init_72 ?_
  refine h_iast (m1 := 48) C dX10_init_73 rfl (Nat.le_of_ble_eq_true rfl) (by decide) (by decide) rfl rfl ?_
  refine h_iinc (L1 := [some (rv w 1), some (iv 4), some (iv 8)]) C dX10_init_74 rfl rfl (Nat.le_of_ble_eq_true rfl) rfl ?_
  refine h_goto C dX10_init_77 rfl (tgt := 50) ?_
  refine h_iload_n C dX10_init_50 rfl ?_
  refine h_bipush C dX10_init_51 rfl ?_
  refine h_icmp_ge C dX10_init_53 (by decide) (by decide) rfl (tgt := 80) (fun c9 => absurd c9 (by decide)) (fun _ => ?_)
  refine h_aload_n C dX10_init_56 rfl ?_
  refine h_getR (j := 3) C dX10_init_57 rfl (Nat.le_of_ble_eq_true rfl) (Nat.le_of_ble_eq_true rfl) (Nat.le_of_ble_eq_true rfl) (Nat.le_of_ble_eq_true rfl) fl_10_23 rfl rfl (r := 5) rfl (Nat.le_of_ble_eq_true rfl) ?_
  refine h_iload_n C dX10_init_60 rfl ?_
  refine h_aaldI (r := 10) C dX10_init_61 rfl (Nat.le_of_ble_eq_true rfl) (by decide) (by decide) rfl (Nat.le_of_ble_eq_true rfl) ?_
  refine h_iload_n C dX10_init_62 rfl ?_
  refine h_iload_n C dX10_init_63 rfl ?_
  refine h_iload_n C dX10_init_64 rfl ?_
  refine h_icmp_ne C dX10_init_65 (by decide) (by decide) rfl (tgt := 72) (fun _ => ?_) (fun c9 => absurd c9 (by decide))
  refine h_iconst C dX10_init_72 ?_
  refine h_iast (m1 := 49) C dX10_init_73 rfl (Nat.le_of_ble_eq_true rfl) (by decide) (by decide) rfl rfl ?_
  refine h_iinc (L1 := [some (rv w 1), some (iv 4), some (iv 9)]) C dX10_init_74 rfl rfl (Nat.le_of_ble_eq_true rfl) rfl ?_
  refine h_goto C dX10_init_77 rfl (tgt := 50) ?_
  refine h_iload_n C dX10_init_50 rfl ?_
  refine h_bipush C dX10_init_51 rfl ?_
  refine h_icmp_ge C dX10_init_53 (by decide) (by decide) rfl (tgt := 80) (fun c9 => absurd c9 (by decide)) (fun _ => ?_)
  refine h_aload_n C dX10_init_56 rfl ?_
  refine h_getR (j := 3) C dX10_init_57 rfl (Nat.le_of_ble_eq_true rfl) (Nat.le_of_ble_eq_true rfl) (Nat.le_of_ble_eq_true rfl) (Nat.le_of_ble_eq_true rfl) fl_10_23 rfl rfl (r := 5) rfl (Nat.le_of_ble_eq_true rfl) ?_
  refine h_iload_n C dX10_init_60 rfl ?_
  refine h_aaldI (r := 10) C dX10_init_61 rfl (Nat.le_of_ble_eq_true rfl) (by decide) (by decide) rfl (Nat.le_of_ble_eq_true rfl) ?_
  refine h_iload_n C dX10_init_62 rfl ?_
  refine h_iload_n C dX10_init_63 rfl ?_
  refine h_iload_n C dX10_init_64 rfl ?_
  refine h_icmp_ne C dX10_init_65 (by decide) (by decide) rfl (tgt := 72) (fun _ => ?_) (fun c9 => absurd c9 (by decide))
  refine h_iconst C dX10_init_72 ?_
  refine h_iast (m1 := 50) C dX10_init_73 rfl (Nat.le_of_ble_eq_true rfl) (by decide) (by decide) rfl rfl ?_
  refine h_iinc (L1 := [some (rv w 1), some (iv 4), some (iv 10)]) C dX10_init_74 rfl rfl (Nat.le_of_ble_eq_true rfl) rfl ?_
  refine h_goto C dX10_init_77 rfl (tgt := 50) ?_
  refine h_iload_n C dX10_init_50 rfl ?_
  refine h_bipush C dX10_init_51 rfl ?_
  refine h_icmp_ge C dX10_init_53 (by decide) (by decide) rfl (tgt := 80) (fun _ => ?_) (fun c9 => absurd (by decide) c9)
  refine h_iinc (L1 := [some (rv w 1), some (iv 5), some (iv 10)]) C dX10_init_80 rfl rfl (Nat.le_of_ble_eq_true rfl) rfl ?_
  refine h_goto C dX10_init_83 rfl (tgt := 42) ?_
  refine h_iload_n C dX10_init_42 rfl ?_
  refine h_bipush C dX10_init_43 rfl ?_
  refine h_icmp_ge C dX10_init_45 (by decide) (by decide) rfl (tgt := 86) (fun c9 => absurd c9 (by decide)) (fun _ => ?_)
  refine h_iconst C dX10_init_48 ?_
  refine h_istore_n (L1 := [some (rv w 1), some (iv 5), some (iv 0)]) C dX10_init_49 rfl (Nat.le_of_ble_eq_true rfl) rfl ?_
  refine h_iload_n C dX10_init_50 rfl ?_
  refine h_bipush C dX10_init_51 rfl ?_
  refine h_icmp_ge C dX10_init_53 (by decide) (by decide) rfl (tgt := 80) (fun c9 => absurd c9 (by decide)) (fun _ => ?_)
  refine h_aload_n C dX10_init_56 rfl ?_
  refine h_getR (j := 3) C dX10_init_57 rfl (Nat.le_of_ble_eq_true rfl) (Nat.le_of_ble_eq_true rfl) (Nat.le_of_ble_eq_true rfl) (Nat.le_of_ble_eq_true rfl) fl_10_23 rfl rfl (r := 5) rfl (Nat.le_of_ble_eq_true rfl) ?_
  refine h_iload_n C dX10_init_60 rfl ?_
  refine h_aaldI (r := 11) C dX10_init_61 rfl (Nat.le_of_ble_eq_true rfl) (by decide) (by decide) rfl (Nat.le_of_ble_eq_true rfl) ?_
  refine h_iload_n C dX10_init_62 rfl ?_
  refine h_iload_n C dX10_init_63 rfl ?_
  refine h_iload_n C dX10_init_64 rfl ?_
  refine h_icmp_ne C dX10_init_65 (by decide) (by decide) rfl (tgt := 72) (fun _ => ?_) (fun c9 => absurd c9 (by decide))
  refine h_iconst C dX10_init_72 ?_
  refine h_iast (m1 := 51) C dX10_init_73 rfl (Nat.le_of_ble_eq_true rfl) (by decide) (by decide) rfl rfl ?_
  refine h_iinc (L1 := [some (rv w 1), some (iv 5), some (iv 1)]) C dX10_init_74 rfl rfl (Nat.le_of_ble_eq_true rfl) rfl ?_
  refine h_goto C dX10_init_77 rfl (tgt := 50) ?_
  refine h_iload_n C dX10_init_50 rfl ?_
  refine h_bipush C dX10_init_51 rfl ?_
  refine h_icmp_ge C dX10_init_53 (by decide) (by decide) rfl (tgt := 80) (fun c9 => absurd c9 (by decide)) (fun _ => ?_)
  refine h_aload_n C dX10_init_56 rfl ?_
  refine h_getR (j := 3) C dX10_init_57 rfl (Nat.le_of_ble_eq_true rfl) (Nat.le_of_ble_eq_true rfl) (Nat.le_of_ble_eq_true rfl) (Nat.le_of_ble_eq_true rfl) fl_10_23 rfl rfl (r := 5) rfl (Nat.le_of_ble_eq_true rfl) ?_
  refine h_iload_n C dX10_init_60 rfl ?_
  refine h_aaldI (r := 11) C dX10_init_61 rfl (Nat.le_of_ble_eq_true rfl) (by decide) (by decide) rfl (Nat.le_of_ble_eq_true rfl) ?_
  refine h_iload_n C dX10_init_62 rfl ?_
  refine h_iload_n C dX10_init_63 rfl ?_
  refine h_iload_n C dX10_init_64 rfl ?_
  refine h_icmp_ne C dX10_init_65 (by decide) (by decide) rfl (tgt := 72) (fun _ => ?_) (fun c9 => absurd c9 (by decide))
  refine h_iconst C dX10_init_72 ?_
  refine h_iast (m1 := 52) C dX10_init_73 rfl (Nat.le_of_ble_eq_true rfl) (by decide) (by decide) rfl rfl ?_
  refine h_iinc (L1 := [some (rv w 1), some (iv 5), some (iv 2)]) C dX10_init_74 rfl rfl (Nat.le_of_ble_eq_true rfl) rfl ?_
  refine h_goto C dX10_init_77 rfl (tgt := 50) ?_
  refine h_iload_n C dX10_init_50 rfl ?_
  refine h_bipush C dX10_init_51 rfl ?_
  refine h_icmp_ge C dX10_init_53 (by decide) (by decide) rfl (tgt := 80) (fun c9 => absurd c9 (by decide)) (fun _ => ?_)
  refine h_aload_n C dX10_init_56 rfl ?_
  refine h_getR (j := 3) C dX10_init_57 rfl (Nat.le_of_ble_eq_true rfl) (Nat.le_of_ble_eq_true rfl) (Nat.le_of_ble_eq_true rfl) (Nat.le_of_ble_eq_true rfl) fl_10_23 rfl rfl (r := 5) rfl (Nat.le_of_ble_eq_true rfl) ?_
  refine h_iload_n C dX10_init_60 rfl ?_
  refine h_aaldI (r := 11) C dX10_init_61 rfl (Nat.le_of_ble_eq_true rfl) (by decide) (by decide) rfl (Nat.le_of_ble_eq_true rfl) ?_
  refine h_iload_n C dX10_init_62 rfl ?_
  refine h_iload_n C dX10_init_63 rfl ?_
  refine h_iload_n C dX10_init_64 rfl ?_
  refine h_icmp_ne C dX10_init_65 (by decide) (by decide) rfl (tgt := 72) (fun _ => ?_) (fun c9 => absurd c9 (by decide))
  refine h_iconst C dX10_init_72 ?_
  refine h_iast (m1 := 53) C dX10_init_73 rfl (Nat.le_of_ble_eq_true rfl) (by decide) (by decide) rfl rfl ?_
  refine h_iinc (L1 := [some (rv w 1), some (iv 5), some (iv 3)]) C dX10_init_74 rfl rfl (Nat.le_of_ble_eq_true rfl) rfl ?_
  refine h_goto C dX10_init_77 rfl (tgt := 50) ?_
  refine h_iload_n C dX10_init_50 rfl ?_
  refine h_bipush C dX10_init_51 rfl ?_
  refine h_icmp_ge C dX10_init_53 (by decide) (by decide) rfl (tgt := 80) (fun c9 => absurd c9 (by decide)) (fun _ => ?_)
  refine h_aload_n C dX10_init_56 rfl ?_
  refine h_getR (j := 3) C dX10_init_57 rfl (Nat.le_of_ble_eq_true rfl) (Nat.le_of_ble_eq_true rfl) (Nat.le_of_ble_eq_true rfl) (Nat.le_of_ble_eq_true rfl) fl_10_23 rfl rfl (r := 5) rfl (Nat.le_of_ble_eq_true rfl) ?_
  refine h_iload_n C dX10_init_60 rfl ?_
  refine h_aaldI (r := 11) C dX10_init_61 rfl (Nat.le_of_ble_eq_true rfl) (by decide) (by decide) rfl (Nat.le_of_ble_eq_true rfl) ?_
  refine h_iload_n C dX10_init_62 rfl ?_
  refine h_iload_n C dX10_init_63 rfl ?_
  refine h_iload_n C dX10_init_64 rfl ?_
  refine h_icmp_ne C dX10_init_65 (by decide) (by decide) rfl (tgt := 72) (fun _ => ?_) (fun c9 => absurd c9 (by decide))
  refine h_iconst C dX10_init_72 ?_
  refine h_iast (m1 := 54) C dX10_init_73 rfl (Nat.le_of_ble_eq_true rfl) (by decide) (by decide) rfl rfl ?_
  refine h_iinc (L1 := [some (rv w 1), some (iv 5), some (iv 4)]) C dX10_init_74 rfl rfl (Nat.le_of_ble_eq_true rfl) rfl ?_
  refine h_goto C dX10_init_77 rfl (tgt := 50) ?_
  refine h_iload_n C dX10_init_50 rfl ?_
  refine h_bipush C dX10_init_51 rfl ?_
  refine h_icmp_ge C dX10_init_53 (by decide) (by decide) rfl (tgt := 80) (fun c9 => absurd c9 (by decide)) (fun _ => ?_)
  refine h_aload_n C dX10_init_56 rfl ?_
  refine h_getR (j := 3) C dX10_init_57 rfl (Nat.le_of_ble_eq_true rfl) (Nat.le_of_ble_eq_true rfl) (Nat.le_of_ble_eq_true rfl) (Nat.le_of_ble_eq_true rfl) fl_10_23 rfl rfl (r := 5) rfl (Nat.le_of_ble_eq_true rfl) ?_
  refine h_iload_n C dX10_init_60 rfl ?_
  refine h_aaldI (r := 11) C dX10_init_61 rfl (Nat.le_of_ble_eq_true rfl) (by decide) (by decide) rfl (Nat.le_of_ble_eq_true rfl) ?_
  refine h_iload_n C dX10_init_62 rfl ?_
  refine h_iload_n C dX10_init_63 rfl ?_
  refine h_iload_n C dX10_init_64 rfl ?_
  refine h_icmp_ne C dX10_init_65 (by decide) (by decide) rfl (tgt := 72) (fun _ => ?_) (fun c9 => absurd c9 (by decide))
  refine h_iconst C dX10_init_72 ?_
  refine h_iast (m1 := 55) C dX10_init_73 rfl (Nat.le_of_ble_eq_true rfl) (by decide) (by decide) rfl rfl ?_
  refine h_iinc (L1 := [some (rv w 1), some (iv 5), some (iv 5)]) C dX10_init_74 rfl rfl (Nat.le_of_ble_eq_true rfl) rfl ?_
  refine h_goto C dX10_init_77 rfl (tgt := 50) ?_
  refine h_iload_n C dX10_init_50 rfl ?_
  refine h_bipush C dX10_init_51 rfl ?_
  refine h_icmp_ge C dX10_init_53 (by decide) (by decide) rfl (tgt := 80) (fun c9 => absurd c9 (by decide)) (fun _ => ?_)
  refine h_aload_n C dX10_init_56 rfl ?_
  refine h_getR (j := 3) C dX10_init_57 rfl (Nat.le_of_ble_eq_true rfl) (Nat.le_of_ble_eq_true rfl) (Nat.le_of_ble_eq_true rfl) (Nat.le_of_ble_eq_true rfl) fl_10_23 rfl rfl (r := 5) rfl (Nat.le_of_ble_eq_true rfl) ?_
  refine h_iload_n C dX10_init_60 rfl ?_
  refine h_aaldI (r := 11) C dX10_init_61 rfl (Nat.le_of_ble_eq_true rfl) (by decide) (by decide) rfl (Nat.le_of_ble_eq_true rfl) ?_
  refine h_iload_n C dX10_init_62 rfl ?_
  refine h_iload_n C dX10_init_63 rfl ?_
  refine h_iload_n C dX10_init_64 rfl ?_
  refine h_icmp_ne C dX10_init_65 (by decide) (by decide) rfl (tgt := 72) (fun c9 => absurd rfl c9) (fun _ => ?_)
  refine h_iconst C dX10_init_68 ?_
  refine h_goto C dX10_init_69 rfl (tgt := 73) ?_
  refine h_iast (m1 := 56) C dX10_init_73 rfl (Nat.le_of_ble_eq_true rfl) (by decide) (by decide) rfl rfl ?_
  refine h_iinc (L1 := [some (rv w 1), some (iv 5), some (iv 6)]) C dX10_init_74 rfl rfl (Nat.le_of_ble_eq_true rfl) rfl ?_
  refine h_goto C dX10_init_77 rfl (tgt := 50) ?_
  refine h_iload_n C dX10_init_50 rfl ?_
  refine h_bipush C dX10_init_51 rfl ?_
  refine h_icmp_ge C dX10_init_53 (by decide) (by decide) rfl (tgt := 80) (fun c9 => absurd c9 (by decide)) (fun _ => ?_)
  refine h_aload_n C dX10_init_56 rfl ?_
  refine h_getR (j := 3) C dX10_init_57 rfl (Nat.le_of_ble_eq_true rfl) (Nat.le_of_ble_eq_true rfl) (Nat.le_of_ble_eq_true rfl) (Nat.le_of_ble_eq_true rfl) fl_10_23 rfl rfl (r := 5) rfl (Nat.le_of_ble_eq_true rfl) ?_
  refine h_iload_n C dX10_init_60 rfl ?_
  refine h_aaldI (r := 11) C dX10_init_61 rfl (Nat.le_of_ble_eq_true rfl) (by decide) (by decide) rfl (Nat.le_of_ble_eq_true rfl) ?_
  refine h_iload_n C dX10_init_62 rfl ?_
  refine h_iload_n C dX10_init_63 rfl ?_
  refine h_iload_n C dX10_init_64 rfl ?_
  refine h_icmp_ne C dX10_init_65 (by decide) (by decide) rfl (tgt := 72) (fun _ => ?_) (fun c9 => absurd c9 (by decide))
  refine h_iconst C dX10_init_72 ?_
  refine h_iast (m1 := 57) C dX10_init_73 rfl (Nat.le_of_ble_eq_true rfl) (by decide) (by decide) rfl rfl ?_
  refine h_iinc (L1 := [some (rv w 1), some (iv 5), some (iv 7)]) C dX10_init_74 rfl rfl (Nat.le_of_ble_eq_true rfl) rfl ?_
  refine h_goto C dX10_init_77 rfl (tgt := 50) ?_
  refine h_iload_n C dX10_init_50 rfl ?_
  refine h_bipush C dX10_init_51 rfl ?_
  refine h_icmp_ge C dX10_init_53 (by decide) (by decide) rfl (tgt := 80) (fun c9 => absurd c9 (by decide)) (fun _ => ?_)
  refine h_aload_n C dX10_init_56 rfl ?_
  refine h_getR (j := 3) C dX10_init_57 rfl (Nat.le_of_ble_eq_true rfl) (Nat.le_of_ble_eq_true rfl) (Nat.le_of_ble_eq_true rfl) (Nat.le_of_ble_eq_true rfl) fl_10_23 rfl rfl (r := 5) rfl (Nat.le_of_ble_eq_true rfl) ?_
  refine h_iload_n C dX10_init_60 rfl ?_
  refine h_aaldI (r := 11) C dX10_init_61 rfl (Nat.le_of_ble_eq_true rfl) (by decide) (by decide) rfl (Nat.le_of_ble_eq_true rfl) ?_
  refine h_iload_n C dX10_init_62 rfl ?_
  refine h_iload_n C dX10_init_63 rfl ?_
  refine h_iload_n C dX10_init_64 rfl ?_
  refine h_icmp_ne C dX10_init_65 (by decide) (by decide) rfl (tgt := 72) (fun _ => ?_) (fun c9 => absurd c9 (by decide))
  refine h_iconst C dX10_init_72 ?_
  refine h_iast (m1 := 58) C dX10_init_73 rfl (Nat.le_of_ble_eq_true rfl) (by decide) (by decide) rfl rfl ?_
  refine h_iinc (L1 := [some (rv w 1), some (iv 5), some (iv 8)]) C dX10_init_74 rfl rfl (Nat.le_of_ble_eq_true rfl) rfl ?_
  refine h_goto C dX10_init_77 rfl (tgt := 50) ?_
  refine h_iload_n C dX10_init_50 rfl ?_
  refine h_bipush C dX10_init_51 rfl ?_
  refine h_icmp_ge C dX10_init_53 (by decide) (by decide) rfl (tgt := 80) (fun c9 => absurd c9 (by decide)) (fun _ => ?_)
  refine h_aload_n C dX10_init_56 rfl ?_
  refine h_getR (j := 3) C dX10_init_57 rfl (Nat.le_of_ble_eq_true rfl) (Nat.le_of_ble_eq_true rfl) (Nat.le_of_ble_eq_true rfl) (Nat.le_of_ble_eq_true rfl) fl_10_23 rfl rfl (r := 5) rfl (Nat.le_of_ble_eq_true rfl) ?_
  refine h_iload_n C dX10_init_60 rfl ?_
  refine h_aaldI (r := 11) C dX10_init_61 rfl (Nat.le_of_ble_eq_true rfl) (by decide) (by decide) rfl (Nat.le_of_ble_eq_true rfl) ?_
  refine h_iload_n C dX10_init_62 rfl ?_
  refine h_iload_n C dX10_init_63 rfl ?_
  refine h_iload_n C dX10_init_64 rfl ?_
  refine h_icmp_ne C dX10_init_65 (by decide) (by decide) rfl (tgt := 72) (fun _ => ?_) (fun c9 => absurd c9 (by decide))
  refine h_iconst C dX10_init_72 ?_
  refine h_iast (m1 := 59) C dX10_init_73 rfl (Nat.le_of_ble_eq_true rfl) (by decide) (by decide) rfl rfl ?_
  refine h_iinc (L1 := [some (rv w 1), some (iv 5), some (iv 9)]) C dX10_init_74 rfl rfl (Nat.le_of_ble_eq_true rfl) rfl ?_
  refine h_goto C dX10_init_77 rfl (tgt := 50) ?_
  refine h_iload_n C dX10_init_50 rfl ?_
  refine h_bipush C dX10_init_51 rfl ?_
  refine h_icmp_ge C dX10_init_53 (by decide) (by decide) rfl (tgt := 80) (fun c9 => absurd c9 (by decide)) (fun _ => ?_)
  refine h_aload_n C dX10_init_56 rfl ?_
  refine h_getR (j := 3) C dX10_init_57 rfl (Nat.le_of_ble_eq_true rfl) (Nat.le_of_ble_eq_true rfl) (Nat.le_of_ble_eq_true rfl) (Nat.le_of_ble_eq_true rfl) fl_10_23 rfl rfl (r := 5) rfl (Nat.le_of_ble_eq_true rfl) ?_
  refine h_iload_n C dX10_init_60 rfl ?_
  refine h_aaldI (r := 11) C dX10_init_61 rfl (Nat.le_of_ble_eq_true rfl) (by decide) (by decide) rfl (Nat.le_of_ble_eq_true rfl) ?_
  refine h_iload_n C dX10_init_62 rfl ?_
  refine h_iload_n C dX10_init_63 rfl ?_
  refine h_iload_n C dX10_init_64 rfl ?_
  refine h_icmp_ne C dX10_init_65 (by decide) (by decide) rfl (tgt := 72) (fun _ => ?_) (fun c9 => absurd c9 (by decide))
  refine h_iconst C dX10_init_72 ?_
  refine h_iast (m1 := 60) C dX10_init_73 rfl (Nat.le_of_ble_eq_true rfl) (by decide) (by decide) rfl rfl ?_
  refine h_iinc (L1 := [some (rv w 1), some (iv 5), some (iv 10)]) C dX10_init_74 rfl rfl (Nat.le_of_ble_eq_true rfl) rfl ?_
  refine h_goto C dX10_init_77 rfl (tgt := 50) ?_
  refine h_iload_n C dX10_init_50 rfl ?_
  refine h_bipush C dX10_init_51 rfl ?_
  refine h_icmp_ge C dX10_init_53 (by decide) (by decide) rfl (tgt := 80) (fun _ => ?_) (fun c9 => absurd (by decide) c9)
  refine h_iinc (L1 := [some (rv w 1), some (iv 6), some (iv 10)]) C dX10_init_80 rfl rfl (Nat.le_of_ble_eq_true rfl) rfl ?_
  refine h_goto C dX10_init_83 rfl (tgt := 42) ?_
  refine h_iload_n C dX10_init_42 rfl ?_
  refine h_bipush C dX10_init_43 rfl ?_
  refine h_icmp_ge C dX10_init_45 (by decide) (by decide) rfl (tgt := 86) (fun c9 => absurd c9 (by decide)) (fun _ => ?_)
  refine h_iconst C dX10_init_48 ?_
  refine h_istore_n (L1 := [some (rv w 1), some (iv 6), some (iv 0)]) C dX10_init_49 rfl (Nat.le_of_ble_eq_true rfl) rfl ?_
  refine h_iload_n C dX10_init_50 rfl ?_
  refine h_bipush C dX10_init_51 rfl ?_
  refine h_icmp_ge C dX10_init_53 (by decide) (by decide) rfl (tgt := 80) (fun c9 => absurd c9 (by decide)) (fun _ => ?_)
  refine h_aload_n C dX10_init_56 rfl ?_
  refine h_getR (j := 3) C dX10_init_57 rfl (Nat.le_of_ble_eq_true rfl) (Nat.le_of_ble_eq_true rfl) (Nat.le_of_ble_eq_true rfl) (Nat.le_of_ble_eq_true rfl) fl_10_23 rfl rfl (r := 5) rfl (Nat.le_of_ble_eq_true rfl) ?_
  refine h_iload_n C dX10_init_60 rfl ?_
  refine h_aaldI (r := 12) C dX10_init_61 rfl (Nat.le_of_ble_eq_true rfl) (by decide) (by decide) rfl (Nat.le_of_ble_eq_true rfl) ?_
  refine h_iload_n C dX10_init_62 rfl ?_
  refine h_iload_n C dX10_init_63 rfl ?_
  refine h_iload_n C dX10_init_64 rfl ?_
  refine h_icmp_ne C dX10_init_65 (by decide) (by decide) rfl (tgt := 72) (fun _ => ?_) (fun c9 => absurd c9 (by decide))
  refine h_iconst C dX10_init_72 ?_
  refine h_iast (m1 := 61) C dX10_init_73 rfl (Nat.le_of_ble_eq_true rfl) (by decide) (by decide) rfl rfl ?_
  refine h_iinc (L1 := [some (rv w 1), some (iv 6), some (iv 1)]) C dX10_init_74 rfl rfl (Nat.le_of_ble_eq_true rfl) rfl ?_
  refine h_goto C dX10_init_77 rfl (tgt := 50) ?_
  refine h_iload_n C dX10_init_50 rfl ?_
  refine h_bipush C dX10_init_51 rfl ?_
  refine h_icmp_ge C dX10_init_53 (by decide) (by decide) rfl (tgt := 80) (fun c9 => absurd c9 (by decide)) (fun _ => ?_)
  refine h_aload_n C dX10_init_56 rfl ?_
  refine h_getR (j := 3) C dX10_init_57 rfl (Nat.le_of_ble_eq_true rfl) (Nat.le_of_ble_eq_true rfl) (Nat.le_of_ble_eq_true rfl) (Nat.le_of_ble_eq_true rfl) fl_10_23 rfl rfl (r := 5) rfl (Nat.le_of_ble_eq_true rfl) ?_
  refine h_iload_n C dX10_init_60 rfl ?_
  refine h_aaldI (r := 12) C dX10_init_61 rfl (Nat.le_of_ble_eq_true rfl) (by decide) (by decide) rfl (Nat.le_of_ble_eq_true rfl) ?_
  refine h_iload_n C dX10_init_62 rfl ?_
  refine h_iload_n C dX10_init_63 rfl ?_
  refine h_iload_n C dX10_init_64 rfl ?_
  refine h_icmp_ne C dX10_init_65 (by decide) (by decide) rfl (tgt := 72) (fun _ => ?_) (fun c9 => absurd c9 (by decide))
  refine h_iconst C dX10_init_72 ?_
  refine h_iast (m1 := 62) C dX10_init_73 rfl (Nat.le_of_ble_eq_true rfl) (by decide) (by decide) rfl rfl ?_
  refine h_iinc (L1 := [some (rv w 1), some (iv 6), some (iv 2)]) C dX10_init_74 rfl rfl (Nat.le_of_ble_eq_true rfl) rfl ?_
  refine h_goto C dX10_init_77 rfl (tgt := 50) ?_
  refine h_iload_n C dX10_init_50 rfl ?_
  refine h_bipush C dX10_init_51 rfl ?_
  refine h_icmp_ge C dX10_init_53 (by decide) (by decide) rfl (tgt := 80) (fun c9 => absurd c9 (by decide)) (fun _ => ?_)
  refine h_aload_n C dX10_init_56 rfl ?_
  refine h_getR (j := 3) C dX10_init_57 rfl (Nat.le_of_ble_eq_true rfl) (Nat.le_of_ble_eq_true rfl) (Nat.le_of_ble_eq_true rfl) (Nat.le_of_ble_eq_true rfl) fl_10_23 rfl rfl (r := 5) rfl (Nat.le_of_ble_eq_true rfl) ?_
  refine h_iload_n C dX10_init_60 rfl ?_
  refine h_aaldI (r := 12) C dX10_init_61 rfl (Nat.le_of_ble_eq_true rfl) (by decide) (by decide) rfl (Nat.le_of_ble_eq_true rfl) ?_
  refine h_iload_n C dX10_init_62 rfl ?_
  refine h_iload_n C dX10_init_63 rfl ?_
  refine h_iload_n C dX10_init_64 rfl ?_
  refine h_icmp_ne C dX10_init_65 (by decide) (by decide) rfl (tgt := 72) (fun _ => ?_) (fun c9 => absurd c9 (by decide))
  refine h_iconst C dX10_init_72 ?_
  refine h_iast (m1 := 63) C dX10_init_73 rfl (Nat.le_of_ble_eq_true rfl) (by decide) (by decide) rfl rfl ?_
  refine h_iinc (L1 := [some (rv w 1), some (iv 6), some (iv 3)]) C dX10_init_74 rfl rfl (Nat.le_of_ble_eq_true rfl) rfl ?_
  refine h_goto C dX10_init_77 rfl (tgt := 50) ?_
  refine h_iload_n C dX10_init_50 rfl ?_
  refine h_bipush C dX10_init_51 rfl ?_
  refine h_icmp_ge C dX10_init_53 (by decide) (by decide) rfl (tgt := 80) (fun c9 => absurd c9 (by decide)) (fun _ => ?_)
  refine h_aload_n C dX10_init_56 rfl ?_
  refine h_getR (j := 3) C dX10_init_57 rfl (Nat.le_of_ble_eq_true rfl) (Nat.le_of_ble_eq_true rfl) (Nat.le_of_ble_eq_true rfl) (Nat.le_of_ble_eq_true rfl) fl_10_23 rfl rfl (r := 5) rfl (Nat.le_of_ble_eq_true rfl) ?_
  refine h_iload_n C dX10_init_60 rfl ?_
  refine h_aaldI (r := 12) C dX10_init_61 rfl (Nat.le_of_ble_eq_true rfl) (by decide) (by decide) rfl (Nat.le_of_ble_eq_true rfl) ?_
  refine h_iload_n C dX10_init_62 rfl ?_
  refine h_iload_n C dX10_init_63 rfl ?_
  refine h_iload_n C dX10_init_64 rfl ?_
  refine h_icmp_ne C dX10_init_65 (by decide) (by decide) rfl (tgt := 72) (fun _ => ?_) (fun c9 => absurd c9 (by decide))
  refine h_iconst C dX10_init_72 ?_
  refine h_iast (m1 := 64) C dX10_init_73 rfl (Nat.le_of_ble_eq_true rfl) (by decide) (by decide) rfl rfl ?_
  refine h_iinc (L1 := [some (rv w 1), some (iv 6), some (iv 4)]) C dX10_init_74 rfl rfl (Nat.le_of_ble_eq_true rfl) rfl ?_
  refine h_goto C dX10_init_77 rfl (tgt := 50) ?_
  refine h_iload_n C dX10_init_50 rfl ?_
  refine h_bipush C dX10_init_51 rfl ?_
  refine h_icmp_ge C dX10_init_53 (by decide) (by decide) rfl (tgt := 80) (fun c9 => absurd c9 (by decide)) (fun _ => ?_)
  refine h_aload_n C dX10_init_56 rfl ?_
  refine h_getR (j := 3) C dX10_init_57 rfl (Nat.le_of_ble_eq_true rfl) (Nat.le_of_ble_eq_true rfl) (Nat.le_of_ble_eq_true rfl) (Nat.le_of_ble_eq_true rfl) fl_10_23 rfl rfl (r := 5) rfl (Nat.le_of_ble_eq_true rfl) ?_
  refine h_iload_n C dX10_init_60 rfl ?_
  refine h_aaldI (r := 12) C dX10_init_61 rfl (Nat.le_of_ble_eq_true rfl) (by decide) (by decide) rfl (Nat.le_of_ble_eq_true rfl) ?_
  refine h_iload_n C dX10_init_62 rfl ?_
  refine h_iload_n C dX10_init_63 rfl ?_
  refine h_iload_n C dX10_init_64 rfl ?_
  refine h_icmp_ne C dX10_init_65 (by decide) (by decide) rfl (tgt := 72) (fun _ => ?_) (fun c9 => absurd c9 (by decide))
  refine h_iconst C dX10_init_72 ?_
  refine h_iast (m1 := 65) C dX10_init_73 rfl (Nat.le_of_ble_eq_true rfl) (by decide) (by decide) rfl rfl ?_
  refine h_iinc (L1 := [some (rv w 1), some (iv 6), some (iv 5)]) C dX10_init_74 rfl rfl (Nat.le_of_ble_eq_true rfl) rfl ?_
  refine h_goto C dX10_init_77 rfl (tgt := 50) ?_
  refine h_iload_n C dX10_init_50 rfl ?_
  refine h_bipush C dX10_init_51 rfl ?_
  refine h_icmp_ge C dX10_init_53 (by decide) (by decide) rfl (tgt := 80) (fun c9 => absurd c9 (by decide)) (fun _ => ?_)
  refine h_aload_n C dX10_init_56 rfl ?_
  refine h_getR (j := 3) C dX10_init_57 rfl (Nat.le_of_ble_eq_true rfl) (Nat.le_of_ble_eq_true rfl) (Nat.le_of_ble_eq_true rfl) (Nat.le_of_ble_eq_true rfl) fl_10_23 rfl rfl (r := 5) rfl (Nat.le_of_ble_eq_true rfl) ?_
  refine h_iload_n C dX10_init_60 rfl ?_
  refine h_aaldI (r := 12) C dX10_init_61 rfl (Nat.le_of_ble_eq_true rfl) (by decide) (by decide) rfl (Nat.le_of_ble_eq_true rfl) ?_
  refine h_iload_n C dX10_init_62 rfl ?_
  refine h_iload_n C dX10_init_63 rfl ?_
  refine h_iload_n C dX10_init_64 rfl ?_
  refine h_icmp_ne C dX10_init_65 (by decide) (by decide) rfl (tgt := 72) (fun _ => ?_) (fun c9 => absurd c9 (by decide))
  refine h_iconst C dX10_init_72 ?_
  refine h_iast (m1 := 66) C dX10_init_73 rfl (Nat.le_of_ble_eq_true rfl) (by decide) (by decide) rfl rfl ?_
  refine h_iinc (L1 := [some (rv w 1), some (iv 6), some (iv 6)]) C dX10_init_74 rfl rfl (Nat.le_of_ble_eq_true rfl) rfl ?_
  refine h_goto C dX10_init_77 rfl (tgt := 50) ?_
  refine h_iload_n C dX10_init_50 rfl ?_
  refine h_bipush C dX10_init_51 rfl ?_
  refine h_icmp_ge C dX10_init_53 (by decide) (by decide) rfl (tgt := 80) (fun c9 => absurd c9 (by decide)) (fun _ => ?_)
  refine h_aload_n C dX10_init_56 rfl ?_
  refine h_getR (j := 3) C dX10_init_57 rfl (Nat.le_of_ble_eq_true rfl) (Nat.le_of_ble_eq_true rfl) (Nat.le_of_ble_eq_true rfl) (Nat.le_of_ble_eq_true rfl) fl_10_23 rfl rfl (r := 5) rfl (Nat.le_of_ble_eq_true rfl) ?_
  refine h_iload_n C dX10_init_60 rfl ?_
  refine h_aaldI (r := 12) C dX10_init_61 rfl (Nat.le_of_ble_eq_true rfl) (by decide) (by decide) rfl (Nat.le_of_ble_eq_true rfl) ?_
  refine h_iload_n C dX10_init_62 rfl ?_
  refine h_iload_n C dX10_init_63 rfl ?_
  refine h_iload_n C dX10_init_64 rfl ?_
  refine h_icmp_ne C dX10_init_65 (by decide) (by decide) rfl (tgt := 72) (fun c9 => absurd rfl c9) (fun _ => ?_)
  refine h_iconst C dX10_init_68 ?_
  refine h_goto C dX10_init_69 rfl (tgt := 73) ?_
  refine h_iast (m1 := 67) C dX10_init_73 rfl (Nat.le_of_ble_eq_true rfl) (by decide) (by decide) rfl rfl ?_
  refine h_iinc (L1 := [some (rv w 1), some (iv 6), some (iv 7)]) C dX10_init_74 rfl rfl (Nat.le_of_ble_eq_true rfl) rfl ?_
  refine h_goto C dX10_init_77 rfl (tgt := 50) ?_
  refine h_iload_n C dX10_init_50 rfl ?_
  refine h_bipush C dX10_init_51 rfl ?_
  refine h_icmp_ge C dX10_init_53 (by decide) (by decide) rfl (tgt := 80) (fun c9 => absurd c9 (by decide)) (fun _ => ?_)
  refine h_aload_n C dX10_init_56 rfl ?_
  refine h_getR (j := 3) C dX10_init_57 rfl (Nat.le_of_ble_eq_true rfl) (Nat.le_of_ble_eq_true rfl) (Nat.le_of_ble_eq_true rfl) (Nat.le_of_ble_eq_true rfl) fl_10_23 rfl rfl (r := 5) rfl (Nat.le_of_ble_eq_true rfl) ?_
  refine h_iload_n C dX10_init_60 rfl ?_
  refine h_aaldI (r := 12) C dX10_init_61 rfl (Nat.le_of_ble_eq_true rfl) (by decide) (by decide) rfl (Nat.le_of_ble_eq_true rfl) ?_
  refine h_iload_n C dX10_init_62 rfl ?_
  refine h_iload_n C dX10_init_63 rfl ?_
  refine h_iload_n C dX10_init_64 rfl ?_
  refine h_icmp_ne C dX10_init_65 (by decide) (by decide) rfl (tgt := 72) (fun _ => ?_) (fun c9 => absurd c9 (by decide))
  refine h_iconst C dX10_init_72 ?_
  refine h_iast (m1 := 68) C dX10_init_73 rfl (Nat.le_of_ble_eq_true rfl) (by decide) (by decide) rfl rfl ?_
  refine h_iinc (L1 := [some (rv w 1), some (iv 6), some (iv 8)]) C dX10_init_74 rfl rfl (Nat.le_of_ble_eq_true rfl) rfl ?_
  refine h_goto C dX10_init_77 rfl (tgt := 50) ?_
  refine h_iload_n C dX10_init_50 rfl ?_
  refine h_bipush C dX10_init_51 rfl ?_
  refine h_icmp_ge C dX10_init_53 (by decide) (by decide) rfl (tgt := 80) (fun c9 => absurd c9 (by decide)) (fun _ => ?_)
  refine h_aload_n C dX10_init_56 rfl ?_
  refine h_getR (j := 3) C dX10_init_57 rfl (Nat.le_of_ble_eq_true rfl) (Nat.le_of_ble_eq_true rfl) (Nat.le_of_ble_eq_true rfl) (Nat.le_of_ble_eq_true rfl) fl_10_23 rfl rfl (r := 5) rfl (Nat.le_of_ble_eq_true rfl) ?_
  refine h_iload_n C dX10_init_60 rfl ?_
  refine h_aaldI (r := 12) C dX10_init_61 rfl (Nat.le_of_ble_eq_true rfl) (by decide) (by decide) rfl (Nat.le_of_ble_eq_true rfl) ?_
  refine h_iload_n C dX10_init_62 rfl ?_
  refine h_iload_n C dX10_init_63 rfl ?_
  refine h_iload_n C dX10_init_64 rfl ?_
  refine h_icmp_ne C dX10_init_65 (by decide) (by decide) rfl (tgt := 72) (fun _ => ?_) (fun c9 => absurd c9 (by decide))
  refine h_iconst C dX10_init_72 ?_
  refine h_iast (m1 := 69) C dX10_init_73 rfl (Nat.le_of_ble_eq_true rfl) (by decide) (by decide) rfl rfl ?_
  refine h_iinc (L1 := [some (rv w 1), some (iv 6), some (iv 9)]) C dX10_init_74 rfl rfl (Nat.le_of_ble_eq_true rfl) rfl ?_
  refine h_goto C dX10_init_77 rfl (tgt := 50) ?_
  refine h_iload_n C dX10_init_50 rfl ?_
  refine h_bipush C dX10_init_51 rfl ?_
  refine h_icmp_ge C dX10_init_53 (by decide) (by decide) rfl (tgt := 80) (fun c9 => absurd c9 (by decide)) (fun _ => ?_)
  refine h_aload_n C dX10_init_56 rfl ?_
  refine h_getR (j := 3) C dX10_init_57 rfl (Nat.le_of_ble_eq_true rfl) (Nat.le_of_ble_eq_true rfl) (Nat.le_of_ble_eq_true rfl) (Nat.le_of_ble_eq_true rfl) fl_10_23 rfl rfl (r := 5) rfl (Nat.le_of_ble_eq_true rfl) ?_
  refine h_iload_n C dX10_init_60 rfl ?_
  refine h_aaldI (r := 12) C dX10_init_61 rfl (Nat.le_of_ble_eq_true rfl) (by decide) (by decide) rfl (Nat.le_of_ble_eq_true rfl) ?_
  refine h_iload_n C dX10_init_62 rfl ?_
  refine h_iload_n C dX10_init_63 rfl ?_
  refine h_iload_n C dX10_init_64 rfl ?_
  refine h_icmp_ne C dX10_init_65 (by decide) (by decide) rfl (tgt := 72) (fun _ => ?_) (fun c9 => absurd c9 (by decide))
  refine h_iconst C dX10_init_72 ?_
  refine h_iast (m1 := 70) C dX10_init_73 rfl (Nat.le_of_ble_eq_true rfl) (by decide) (by decide) rfl rfl ?_
  refine h_iinc (L1 := [some (rv w 1), some (iv 6), some (iv 10)]) C dX10_init_74 rfl rfl (Nat.le_of_ble_eq_true rfl) rfl ?_
  refine h_goto C dX10_init_77 rfl (tgt := 50) ?_
  refine h_iload_n C dX10_init_50 rfl ?_
  refine h_bipush C dX10_init_51 rfl ?_
  refine h_icmp_ge C dX10_init_53 (by decide) (by decide) rfl (tgt := 80) (fun _ => ?_) (fun c9 => absurd (by decide) c9)
  refine h_iinc (L1 := [some (rv w 1), some (iv 7), some (iv 10)]) C dX10_init_80 rfl rfl (Nat.le_of_ble_eq_true rfl) rfl ?_
  refine h_goto C dX10_init_83 rfl (tgt := 42) ?_
  refine h_iload_n C dX10_init_42 rfl ?_
  refine h_bipush C dX10_init_43 rfl ?_
  refine h_icmp_ge C dX10_init_45 (by decide) (by decide) rfl (tgt := 86) (fun c9 => absurd c9 (by decide)) (fun _ => ?_)
  refine h_iconst C dX10_init_48 ?_
  refine h_istore_n (L1 := [some (rv w 1), some (iv 7), some (iv 0)]) C dX10_init_49 rfl (Nat.le_of_ble_eq_true rfl) rfl ?_
  refine h_iload_n C dX10_init_50 rfl ?_
  refine h_bipush C dX10_init_51 rfl ?_
  refine h_icmp_ge C dX10_init_53 (by decide) (by decide) rfl (tgt := 80) (fun c9 => absurd c9 (by decide)) (fun _ => ?_)
  refine h_aload_n C dX10_init_56 rfl ?_
  refine h_getR (j := 3) C dX10_init_57 rfl (Nat.le_of_ble_eq_true rfl) (Nat.le_of_ble_eq_true rfl) (Nat.le_of_ble_eq_true rfl) (Nat.le_of_ble_eq_true rfl) fl_10_23 rfl rfl (r := 5) rfl (Nat.le_of_ble_eq_true rfl) ?_
  refine h_iload_n C dX10_init_60 rfl ?_
  refine h_aaldI (r := 13) C dX10_init_61 rfl (Nat.le_of_ble_eq_true rfl) (by decide) (by decide) rfl (Nat.le_of_ble_eq_true rfl) ?_
  refine h_iload_n C dX10_init_62 rfl ?_
  refine h_iload_n C dX10_init_63 rfl ?_
  refine h_iload_n C dX10_init_64 rfl ?_
  refine h_icmp_ne C dX10_init_65 (by decide) (by decide) rfl (tgt := 72) (fun _ => ?_) (fun c9 => absurd c9 (by decide))
  refine h_iconst C dX10_init_72 ?_
  refine h_iast (m1 := 71) C dX10_init_73 rfl (Nat.le_of_ble_eq_true rfl) (by decide) (by decide) rfl rfl ?_
  refine h_iinc (L1 := [some (rv w 1), some (iv 7), some (iv 1)]) C dX10_init_74 rfl rfl (Nat.le_of_ble_eq_true rfl) rfl ?_
  refine h_goto C dX10_init_77 rfl (tgt := 50) ?_
  refine h_iload_n C dX10_init_50 rfl ?_
  refine h_bipush C dX10_init_51 rfl ?_
  refine h_icmp_ge C dX10_init_53 (by decide) (by decide) rfl (tgt := 80) (fun c9 => absurd c9 (by decide)) (fun _ => ?_)
  refine h_aload_n C dX10_init_56 rfl ?_
  refine h_getR (j := 3) C dX10_init_57 rfl (Nat.le_of_ble_eq_true rfl) (Nat.le_of_ble_eq_true rfl) (Nat.le_of_ble_eq_true rfl) (Nat.le_of_ble_eq_true rfl) fl_10_23 rfl rfl (r := 5) rfl (Nat.le_of_ble_eq_true rfl) ?_
  refine h_iload_n C dX10_init_60 rfl ?_
  refine h_aaldI (r := 13) C dX10_init_61 rfl (Nat.le_of_ble_eq_true rfl) (by decide) (by decide) rfl (Nat.le_of_ble_eq_true rfl) ?_
  refine h_iload_n C dX10_init_62 rfl ?_
  refine h_iload_n C dX10_init_63 rfl ?_
  refine h_iload_n C dX10_init_64 rfl ?_
  refine h_icmp_ne C dX10_init_65 (by decide) (by decide) rfl (tgt := 72) (fun _ => ?_) (fun c9 => absurd c9 (by decide))
  refine h_iconst C dX10_init_72 ?_
  refine h_iast (m1 := 72) C dX10_init_73 rfl (Nat.le_of_ble_eq_true rfl) (by decide) (by decide) rfl rfl ?_
  refine h_iinc (L1 := [some (rv w 1), some (iv 7), some (iv 2)]) C dX10_init_74 rfl rfl (Nat.le_of_ble_eq_true rfl) rfl ?_
  refine h_goto C dX10_init_77 rfl (tgt := 50) ?_
  refine h_iload_n C dX10_init_50 rfl ?_
  refine h_bipush C dX10_init_51 rfl ?_
  refine h_icmp_ge C dX10_init_53 (by decide) (by decide) rfl (tgt := 80) (fun c9 => absurd c9 (by decide)) (fun _ => ?_)
  refine h_aload_n C dX10_init_56 rfl ?_
  refine h_getR (j := 3) C dX10_init_57 rfl (Nat.le_of_ble_eq_true rfl) (Nat.le_of_ble_eq_true rfl) (Nat.le_of_ble_eq_true rfl) (Nat.le_of_ble_eq_true rfl) fl_10_23 rfl rfl (r := 5) rfl (Nat.le_of_ble_eq_true rfl) ?_
  refine h_iload_n C dX10_init_60 rfl ?_
  refine h_aaldI (r := 13) C dX10_init_61 rfl (Nat.le_of_ble_eq_true rfl) (by decide) (by decide) rfl (Nat.le_of_ble_eq_true rfl) ?_
  refine h_iload_n C dX10_init_62 rfl ?_
  refine h_iload_n C dX10_init_63 rfl ?_
  refine h_iload_n C dX10_init_64 rfl ?_
  refine h_icmp_ne C dX10_init_65 (by decide) (by decide) rfl (tgt := 72) (fun _ => ?_) (fun c9 => absurd c9 (by decide))
  refine h_iconst C dX10_init_72 ?_
  refine h_iast (m1 := 73) C dX10_init_73 rfl (Nat.le_of_ble_eq_true rfl) (by decide) (by decide) rfl rfl ?_
  refine h_iinc (L1 := [some (rv w 1), some (iv 7), some (iv 3)]) C dX10_init_74 rfl rfl (Nat.le_of_ble_eq_true rfl) rfl ?_
  refine h_goto C dX10_init_77 rfl (tgt := 50) ?_
  refine h_iload_n C dX10_init_50 rfl ?_
  refine h_bipush C dX10_init_51 rfl ?_
  refine h_icmp_ge C dX10_init_53 (by decide) (by decide) rfl (tgt := 80) (fun c9 => absurd c9 (by decide)) (fun _ => ?_)
  refine h_aload_n C dX10_init_56 rfl ?_
  refine h_getR (j := 3) C dX10_init_57 rfl (Nat.le_of_ble_eq_true rfl) (Nat.le_of_ble_eq_true rfl) (Nat.le_of_ble_eq_true rfl) (Nat.le_of_ble_eq_true rfl) fl_10_23 rfl rfl (r := 5) rfl (Nat.le_of_ble_eq_true rfl) ?_
  refine h_iload_n C dX10_init_60 rfl ?_
  refine h_aaldI (r := 13) C dX10_init_61 rfl (Nat.le_of_ble_eq_true rfl) (by decide) (by decide) rfl (Nat.le_of_ble_eq_true rfl) ?_
  refine h_iload_n C dX10_init_62 rfl ?_
  refine h_iload_n C dX10_init_63 rfl ?_
  refine h_iload_n C dX10_init_64 rfl ?_
  refine h_icmp_ne C dX10_init_65 (by decide) (by decide) rfl (tgt := 72) (fun _ => ?_) (fun c9 => absurd c9 (by decide))
  refine h_iconst C dX10_init_72 ?_
  refine h_iast (m1 := 74) C dX10_init_73 rfl (Nat.le_of_ble_eq_true rfl) (by decide) (by decide) rfl rfl ?_
  refine h_iinc (L1 := [some (rv w 1), some (iv 7), some (iv 4)]) C dX10_init_74 rfl rfl (Nat.le_of_ble_eq_true rfl) rfl ?_
  refine h_goto C dX10_init_77 rfl (tgt := 50) ?_
  refine h_iload_n C dX10_init_50 rfl ?_
  refine h_bipush C dX10_init_51 rfl ?_
  refine h_icmp_ge C dX10_init_53 (by decide) (by decide) rfl (tgt := 80) (fun c9 => absurd c9 (by decide)) (fun _ => ?_)
  refine h_aload_n C dX10_init_56 rfl ?_
  refine h_getR (j := 3) C dX10_init_57 rfl (Nat.le_of_ble_eq_true rfl) (Nat.le_of_ble_eq_true rfl) (Nat.le_of_ble_eq_true rfl) (Nat.le_of_ble_eq_true rfl) fl_10_23 rfl rfl (r := 5) rfl (Nat.le_of_ble_eq_true rfl) ?_
  refine h_iload_n C dX10_init_60 rfl ?_
  refine h_aaldI (r := 13) C dX10_init_61 rfl (Nat.le_of_ble_eq_true rfl) (by decide) (by decide) rfl (Nat.le_of_ble_eq_true rfl) ?_
  refine h_iload_n C dX10_init_62 rfl ?_
  refine h_iload_n C dX10_init_63 rfl ?_
  refine h_iload_n C dX10_init_64 rfl ?_
  refine h_icmp_ne C dX10_init_65 (by decide) (by decide) rfl (tgt := 72) (fun _ => ?_) (fun c9 => absurd c9 (by decide))
  refine h_iconst C dX10_init_72 ?_
  refine h_iast (m1 := 75) C dX10_init_73 rfl (Nat.le_of_ble_eq_true rfl) (by decide) (by decide) rfl rfl ?_
  refine h_iinc (L1 := [some (rv w 1), some (iv 7), some (iv 5)]) C dX10_init_74 rfl rfl (Nat.le_of_ble_eq_true rfl) rfl ?_
  refine h_goto C dX10_init_77 rfl (tgt := 50) ?_
  refine h_iload_n C dX10_init_50 rfl ?_
  refine h_bipush C dX10_init_51 rfl ?_
  refine h_icmp_ge C dX10_init_53 (by decide) (by decide) rfl (tgt := 80) (fun c9 => absurd c9 (by decide)) (fun _ => ?_)
  refine h_aload_n C dX10_init_56 rfl ?_
  refine h_getR (j := 3) C dX10_init_57 rfl (Nat.le_of_ble_eq_true rfl) (Nat.le_of_ble_eq_true rfl) (Nat.le_of_ble_eq_true rfl) (Nat.le_of_ble_eq_true rfl) fl_10_23 rfl rfl (r := 5) rfl (Nat.le_of_ble_eq_true rfl) ?_
  refine h_iload_n C dX10_init_60 rfl ?_
  refine h_aaldI (r := 13) C dX10_init_61 rfl (Nat.le_of_ble_eq_true rfl) (by decide) (by decide) rfl (Nat.le_of_ble_eq_true rfl) ?_
  refine h_iload_n C dX10_init_62 rfl ?_
  refine h_iload_n C dX10_init_63 rfl ?_
  refine h_iload_n C dX10_init_64 rfl ?_
  refine h_icmp_ne C dX10_init_65 (by decide) (by decide) rfl (tgt := 72) (fun _ => ?_) (fun c9 => absurd c9 (by decide))
  refine h_iconst C dX10_init_72 ?_
  refine h_iast (m1 := 76) C dX10_init_73 rfl (Nat.le_of_ble_eq_true rfl) (by decide) (by decide) rfl rfl ?_
  refine h_iinc (L1 := [some (rv w 1), some (iv 7), some (iv 6)]) C dX10_init_74 rfl rfl (Nat.le_of_ble_eq_true rfl) rfl ?_
  refine h_goto C dX10_init_77 rfl (tgt := 50) ?_
  refine h_iload_n C dX10_init_50 rfl ?_
  refine h_bipush C dX10_init_51 rfl ?_
  refine h_icmp_ge C dX10_init_53 (by decide) (by decide) rfl (tgt := 80) (fun c9 => absurd c9 (by decide)) (fun _ => ?_)
  refine h_aload_n C dX10_init_56 rfl ?_
  refine h_getR (j := 3) C dX10_init_57 rfl (Nat.le_of_ble_eq_true rfl) (Nat.le_of_ble_eq_true rfl) (Nat.le_of_ble_eq_true rfl) (Nat.le_of_ble_eq_true rfl) fl_10_23 rfl rfl (r := 5) rfl (Nat.le_of_ble_eq_true rfl) ?_
  refine h_iload_n C dX10_init_60 rfl ?_
  refine h_aaldI (r := 13) C dX10_init_61 rfl (Nat.le_of_ble_eq_true rfl) (by decide) (by decide) rfl (Nat.le_of_ble_eq_true rfl) ?_
  refine h_iload_n C dX10_init_62 rfl ?_
  refine h_iload_n C dX10_init_63 rfl ?_
  refine h_iload_n C dX10_init_64 rfl ?_
  refine h_icmp_ne C dX10_init_65 (by decide) (by decide) rfl (tgt := 72) (fun _ => ?_) (fun c9 => absurd c9 (by decide))
  refine h_iconst C dX10_init_72 ?_
  refine h_iast (m1 := 77) C dX10_init_73 rfl (Nat.le_of_ble_eq_true rfl) (by decide) (by decide) rfl rfl ?_
  refine h_iinc (L1 := [some (rv w 1), some (iv 7), some (iv 7)]) C dX10_init_74 rfl rfl (Nat.le_of_ble_eq_true rfl) rfl ?_
  refine h_goto C dX10_init_77 rfl (tgt := 50) ?_
  refine h_iload_n C dX10_init_50 rfl ?_
  refine h_bipush C dX10_init_51 rfl ?_
  refine h_icmp_ge C dX10_init_53 (by decide) (by decide) rfl (tgt := 80) (fun c9 => absurd c9 (by decide)) (fun _ => ?_)
  refine h_aload_n C dX10_init_56 rfl ?_
  refine h_getR (j := 3) C dX10_init_57 rfl (Nat.le_of_ble_eq_true rfl) (Nat.le_of_ble_eq_true rfl) (Nat.le_of_ble_eq_true rfl) (Nat.le_of_ble_eq_true rfl) fl_10_23 rfl rfl (r := 5) rfl (Nat.le_of_ble_eq_true rfl) ?_
  refine h_iload_n C dX10_init_60 rfl ?_
  refine h_aaldI (r := 13) C dX10_init_61 rfl (Nat.le_of_ble_eq_true rfl) (by decide) (by decide) rfl (Nat.le_of_ble_eq_true rfl) ?_
  refine h_iload_n C dX10_init_62 rfl ?_
  refine h_iload_n C dX10_init_63 rfl ?_
  refine h_iload_n C dX10_init_64 rfl ?_
  refine h_icmp_ne C dX10_init_65 (by decide) (by decide) rfl (tgt := 72) (fun c9 => absurd rfl c9) (fun _ => ?_)
  refine h_iconst C dX10_init_68 ?_
  refine h_goto C dX10_init_69 rfl (tgt := 73) ?_
  refine h_iast (m1 := 78) C dX10_init_73 rfl (Nat.le_of_ble_eq_true rfl) (by decide) (by decide) rfl rfl ?_
  refine h_iinc (L1 := [some (rv w 1), some (iv 7), some (iv 8)]) C dX10_init_74 rfl rfl (Nat.le_of_ble_eq_true rfl) rfl ?_
  refine h_goto C dX10_init_77 rfl (tgt := 50) ?_
  refine h_iload_n C dX10_init_50 rfl ?_
  refine h_bipush C dX10_init_51 rfl ?_
  refine h_icmp_ge C dX10_init_53 (by decide) (by decide) rfl (tgt := 80) (fun c9 => absurd c9 (by decide)) (fun _ => ?_)
  refine h_aload_n C dX10_init_56 rfl ?_
  refine h_getR (j := 3) C dX10_init_57 rfl (Nat.le_of_ble_eq_true rfl) (Nat.le_of_ble_eq_true rfl) (Nat.le_of_ble_eq_true rfl) (Nat.le_of_ble_eq_true rfl) fl_10_23 rfl rfl (r := 5) rfl (Nat.le_of_ble_eq_true rfl) ?_
  refine h_iload_n C dX10_init_60 rfl ?_
  refine h_aaldI (r := 13) C dX10_init_61 rfl (Nat.le_of_ble_eq_true rfl) (by decide) (by decide) rfl (Nat.le_of_ble_eq_true rfl) ?_
  refine h_iload_n C dX10_init_62 rfl ?_
  refine h_iload_n C dX10_init_63 rfl ?_
  refine h_iload_n C dX10_init_64 rfl ?_
  refine h_icmp_ne C dX10_init_65 (by decide) (by decide) rfl (tgt := 72) (fun _ => ?_) (fun c9 => absurd c9 (by decide))
  refine h_iconst C dX10_init_72 ?_
  refine h_iast (m1 := 79) C dX10_init_73 rfl (Nat.le_of_ble_eq_true rfl) (by decide) (by decide) rfl rfl ?_
  refine h_iinc (L1 := [some (rv w 1), some (iv 7), some (iv 9)]) C dX10_init_74 rfl rfl (Nat.le_of_ble_eq_true rfl) rfl ?_
  refine h_goto C dX10_init_77 rfl (tgt := 50) ?_
  refine h_iload_n C dX10_init_50 rfl ?_
  refine h_bipush C dX10_init_51 rfl ?_
  refine h_icmp_ge C dX10_init_53 (by decide) (by decide) rfl (tgt := 80) (fun c9 => absurd c9 (by decide)) (fun _ => ?_)
  refine h_aload_n C dX10_init_56 rfl ?_
  refine h_getR (j := 3) C dX10_init_57 rfl (Nat.le_of_ble_eq_true rfl) (Nat.le_of_ble_eq_true rfl) (Nat.le_of_ble_eq_true rfl) (Nat.le_of_ble_eq_true rfl) fl_10_23 rfl rfl (r := 5) rfl (Nat.le_of_ble_eq_true rfl) ?_
  refine h_iload_n C dX10_init_60 rfl ?_
  refine h_aaldI (r := 13) C dX10_init_61 rfl (Nat.le_of_ble_eq_true rfl) (by decide) (by decide) rfl (Nat.le_of_ble_eq_true rfl) ?_
  refine h_iload_n C dX10_init_62 rfl ?_
  refine h_iload_n C dX10_init_63 rfl ?_
  refine h_iload_n C dX10_init_64 rfl ?_
  refine h_icmp_ne C dX10_init_65 (by decide) (by decide) rfl (tgt := 72) (fun _ => ?_) (fun c9 => absurd c9 (by decide))
  refine h_iconst C dX10_init_72 ?_
  refine h_iast (m1 := 80) C dX10_init_73 rfl (Nat.le_of_ble_eq_true rfl) (by decide) (by decide) rfl rfl ?_
  refine h_iinc (L1 := [some (rv w 1), some (iv 7), some (iv 10)]) C dX10_init_74 rfl rfl (Nat.le_of_ble_eq_true rfl) rfl ?_
  refine h_goto C dX10_init_77 rfl (tgt := 50) ?_
  refine h_iload_n C dX10_init_50 rfl ?_
  refine h_bipush C dX10_init_51 rfl ?_
  refine h_icmp_ge C dX10_init_53 (by decide) (by decide) rfl (tgt := 80) (fun _ => ?_) (fun c9 => absurd (by decide) c9)
  refine h_iinc (L1 := [some (rv w 1), some (iv 8), some (iv 10)]) C dX10_init_80 rfl rfl (Nat.le_of_ble_eq_true rfl) rfl ?_
  refine h_goto C dX10_init_83 rfl (tgt := 42) ?_
  refine h_iload_n C dX10_init_42 rfl ?_
  refine h_bipush C dX10_init_43 rfl ?_
  refine h_icmp_ge C dX10_init_45 (by decide) (by decide) rfl (tgt := 86) (fun c9 => absurd c9 (by decide)) (fun _ => ?_)
  refine h_iconst C dX10_init_48 ?_
  refine h_istore_n (L1 := [some (rv w 1), some (iv 8), some (iv 0)]) C dX10_init_49 rfl (Nat.le_of_ble_eq_true rfl) rfl ?_
  refine h_iload_n C dX10_init_50 rfl ?_
  refine h_bipush C dX10_init_51 rfl ?_
  refine h_icmp_ge C dX10_init_53 (by decide) (by decide) rfl (tgt := 80) (fun c9 => absurd c9 (by decide)) (fun _ => ?_)
  refine h_aload_n C dX10_init_56 rfl ?_
  refine h_getR (j := 3) C dX10_init_57 rfl (Nat.le_of_ble_eq_true rfl) (Nat.le_of_ble_eq_true rfl) (Nat.le_of_ble_eq_true rfl) (Nat.le_of_ble_eq_true rfl) fl_10_23 rfl rfl (r := 5) rfl (Nat.le_of_ble_eq_true rfl) ?_
  refine h_iload_n C dX10_init_60 rfl ?_
  refine h_aaldI (r := 14) C dX10_init_61 rfl (Nat.le_of_ble_eq_true rfl) (by decide) (by decide) rfl (Nat.le_of_ble_eq_true rfl) ?_
  refine h_iload_n C dX10_init_62 rfl ?_
  refine h_iload_n C dX10_init_63 rfl ?_
  refine h_iload_n C dX10_init_64 rfl ?_
  refine h_icmp_ne C dX10_init_65 (by decide) (by decide) rfl (tgt := 72) (fun _ => ?_) (fun c9 => absurd c9 (by decide))
  refine h_iconst C dX10_init_72 ?_
  refine h_iast (m1 := 81) C dX10_init_73 rfl (Nat.le_of_ble_eq_true rfl) (by decide) (by decide) rfl rfl ?_
  refine h_iinc (L1 := [some (rv w 1), some (iv 8), some (iv 1)]) C dX10_init_74 rfl rfl (Nat.le_of_ble_eq_true rfl) rfl ?_
  refine h_goto C dX10_init_77 rfl (tgt := 50) ?_
  refine h_iload_n C dX10_init_50 rfl ?_
  refine h_bipush C dX10_init_51 rfl ?_
  refine h_icmp_ge C dX10_init_53 (by decide) (by decide) rfl (tgt := 80) (fun c9 => absurd c9 (by decide)) (fun _ => ?_)
  refine h_aload_n C dX10_init_56 rfl ?_
  refine h_getR (j := 3) C dX10_init_57 rfl (Nat.le_of_ble_eq_true rfl) (Nat.le_of_ble_eq_true rfl) (Nat.le_of_ble_eq_true rfl) (Nat.le_of_ble_eq_true rfl) fl_10_23 rfl rfl (r := 5) rfl (Nat.le_of_ble_eq_true rfl) ?_
  refine h_iload_n C dX10_init_60 rfl ?_
  refine h_aaldI (r := 14) C dX10_init_61 rfl (Nat.le_of_ble_eq_true rfl) (by decide) (by decide) rfl (Nat.le_of_ble_eq_true rfl) ?_
  refine h_iload_n C dX10_init_62 rfl ?_
  refine h_iload_n C dX10_init_63 rfl ?_
  refine h_iload_n C dX10_init_64 rfl ?_
  refine h_icmp_ne C dX10_init_65 (by decide) (by decide) rfl (tgt := 72) (fun _ => ?_) (fun c9 => absurd c9 (by decide))
  refine h_iconst C dX10_init_72 ?_
  refine h_iast (m1 := 82) C dX10_init_73 rfl (Nat.le_of_ble_eq_true rfl) (by decide) (by decide) rfl rfl ?_
  refine h_iinc (L1 := [some (rv w 1), some (iv 8), some (iv 2)]) C dX10_init_74 rfl rfl (Nat.le_of_ble_eq_true rfl) rfl ?_
  refine h_goto C dX10_init_77 rfl (tgt := 50) ?_
  refine h_iload_n C dX10_init_50 rfl ?_
  refine h_bipush C dX10_init_51 rfl ?_
  refine h_icmp_ge C dX10_init_53 (by decide) (by decide) rfl (tgt := 80) (fun c9 => absurd c9 (by decide)) (fun _ => ?_)
  refine h_aload_n C dX10_init_56 rfl ?_
  refine h_getR (j := 3) C dX10_init_57 rfl (Nat.le_of_ble_eq_true rfl) (Nat.le_of_ble_eq_true rfl) (Nat.le_of_ble_eq_true rfl) (Nat.le_of_ble_eq_true rfl) fl_10_23 rfl rfl (r := 5) rfl (Nat.le_of_ble_eq_true rfl) ?_
  refine h_iload_n C dX10_init_60 rfl ?_
  refine h_aaldI (r := 14) C dX10_init_61 rfl (Nat.le_of_ble_eq_true rfl) (by decide) (by decide) rfl (Nat.le_of_ble_eq_true rfl) ?_
  refine h_iload_n C dX10_init_62 rfl ?_
  refine h_iload_n C dX10_init_63 rfl ?_
  refine h_iload_n C dX10_init_64 rfl ?_
  refine h_icmp_ne C dX10_init_65 (by decide) (by decide) rfl (tgt := 72) (fun _ => ?_) (fun c9 => absurd c9 (by decide))
  refine h_iconst C dX10_init_72 ?_
  refine h_iast (m1 := 83) C dX10_init_73 rfl (Nat.le_of_ble_eq_true rfl) (by decide) (by decide) rfl rfl ?_
  refine h_iinc (L1 := [some (rv w 1), some (iv 8), some (iv 3)]) C dX10_init_74 rfl rfl (Nat.le_of_ble_eq_true rfl) rfl ?_
  refine h_goto C dX10_init_77 rfl (tgt := 50) ?_
  refine h_iload_n C dX10_init_50 rfl ?_
  refine h_bipush C dX10_init_51 rfl ?_
  refine h_icmp_ge C dX10_init_53 (by decide) (by decide) rfl (tgt := 80) (fun c9 => absurd c9 (by decide)) (fun _ => ?_)
  refine h_aload_n C dX10_init_56 rfl ?_
  refine h_getR (j := 3) C dX10_init_57 rfl (Nat.le_of_ble_eq_true rfl) (Nat.le_of_ble_eq_true rfl) (Nat.le_of_ble_eq_true rfl) (Nat.le_of_ble_eq_true rfl) fl_10_23 rfl rfl (r := 5) rfl (Nat.le_of_ble_eq_true rfl) ?_
  refine h_iload_n C dX10_init_60 rfl ?_
  refine h_aaldI (r := 14) C dX10_init_61 rfl (Nat.le_of_ble_eq_true rfl) (by decide) (by decide) rfl (Nat.le_of_ble_eq_true rfl) ?_
  refine h_iload_n C dX10_init_62 rfl ?_
  refine h_iload_n C dX10_init_63 rfl ?_
  refine h_iload_n C dX10_init_64 rfl ?_
  refine h_icmp_ne C dX10_init_65 (by decide) (by decide) rfl (tgt := 72) (fun _ => ?_) (fun c9 => absurd c9 (by decide))
  refine h_iconst C dX10_init_72 ?_
  refine h_iast (m1 := 84) C dX10_init_73 rfl (Nat.le_of_ble_eq_true rfl) (by decide) (by decide) rfl rfl ?_
  refine h_iinc (L1 := [some (rv w 1), some (iv 8), some (iv 4)]) C dX10_init_74 rfl rfl (Nat.le_of_ble_eq_true rfl) rfl ?_
  refine h_goto C dX10_init_77 rfl (tgt := 50) ?_
  refine h_iload_n C dX10_init_50 rfl ?_
  refine h_bipush C dX10_init_51 rfl ?_
  refine h_icmp_ge C dX10_init_53 (by decide) (by decide) rfl (tgt := 80) (fun c9 => absurd c9 (by decide)) (fun _ => ?_)
  refine h_aload_n C dX10_init_56 rfl ?_
  refine h_getR (j := 3) C dX10_init_57 rfl (Nat.le_of_ble_eq_true rfl) (Nat.le_of_ble_eq_true rfl) (Nat.le_of_ble_eq_true rfl) (Nat.le_of_ble_eq_true rfl) fl_10_23 rfl rfl (r := 5) rfl (Nat.le_of_ble_eq_true rfl) ?_
  refine h_iload_n C dX10_init_60 rfl ?_
  refine h_aaldI (r := 14) C dX10_init_61 rfl (Nat.le_of_ble_eq_true rfl) (by decide) (by decide) rfl (Nat.le_of_ble_eq_true rfl) ?_
  refine h_iload_n C dX10_init_62 rfl ?_
  refine h_iload_n C dX10_init_63 rfl ?_
  refine h_iload_n C dX10_init_64 rfl ?_
  refine h_icmp_ne C dX10_init_65 (by decide) (by decide) rfl (tgt := 72) (fun _ => ?_) (fun c9 => absurd c9 (by decide))
  refine h_iconst C dX10_init_72 ?_
  refine h_iast (m1 := 85) C dX10_init_73 rfl (Nat.le_of_ble_eq_true rfl) (by decide) (by decide) rfl rfl ?_
  refine h_iinc (L1 := [some (rv w 1), some (iv 8), some (iv 5)]) C dX10_init_74 rfl rfl (Nat.le_of_ble_eq_true rfl) rfl ?_
  refine h_goto C dX10_init_77 rfl (tgt := 50) ?_
  refine h_iload_n C dX10_init_50 rfl ?_
  refine h_bipush C dX10_init_51 rfl ?_
  refine h_icmp_ge C dX10_init_53 (by decide) (by decide) rfl (tgt := 80) (fun c9 => absurd c9 (by decide)) (fun _ => ?_)
  refine h_aload_n C dX10_init_56 rfl ?_
  refine h_getR (j := 3) C dX10_init_57 rfl (Nat.le_of_ble_eq_true rfl) (Nat.le_of_ble_eq_true rfl) (Nat.le_of_ble_eq_true rfl) (Nat.le_of_ble_eq_true rfl) fl_10_23 rfl rfl (r := 5) rfl (Nat.le_of_ble_eq_true rfl) ?_
  refine h_iload_n C dX10_init_60 rfl ?_
  refine h_aaldI (r := 14) C dX10_init_61 rfl (Nat.le_of_ble_eq_true rfl) (by decide) (by decide) rfl (Nat.le_of_ble_eq_true rfl) ?_
  refine h_iload_n C dX10_init_62 rfl ?_
  refine h_iload_n C dX10_init_63 rfl ?_
  refine h_iload_n C dX10_init_64 rfl ?_
  refine h_icmp_ne C dX10_init_65 (by decide) (by decide) rfl (tgt := 72) (fun _ => ?_) (fun c9 => absurd c9 (by decide))
  refine h_iconst C dX10_init_72 ?_
  refine h_iast (m1 := 86) C dX10_init_73 rfl (Nat.le_of_ble_eq_true rfl) (by decide) (by decide) rfl rfl ?_
  refine h_iinc (L1 := [some (rv w 1), some (iv 8), some (iv 6)]) C dX10_init_74 rfl rfl (Nat.le_of_ble_eq_true rfl) rfl ?_
  refine h_goto C dX10_init_77 rfl (tgt := 50) ?_
  refine h_iload_n C dX10_init_50 rfl ?_
  refine h_bipush C dX10_init_51 rfl ?_
  refine h_icmp_ge C dX10_init_53 (by decide) (by decide) rfl (tgt := 80) (fun c9 => absurd c9 (by decide)) (fun _ => ?_)
  refine h_aload_n C dX10_init_56 rfl ?_
  refine h_getR (j := 3) C dX10_init_57 rfl (Nat.le_of_ble_eq_true rfl) (Nat.le_of_ble_eq_true rfl) (Nat.le_of_ble_eq_true rfl) (Nat.le_of_ble_eq_true rfl) fl_10_23 rfl rfl (r := 5) rfl (Nat.le_of_ble_eq_true rfl) ?_
  refine h_iload_n C dX10_init_60 rfl ?_
  refine h_aaldI (r := 14) C dX10_init_61 rfl (Nat.le_of_ble_eq_true rfl) (by decide) (by decide) rfl (Nat.le_of_ble_eq_true rfl) ?_
  refine h_iload_n C dX10_init_62 rfl ?_
  refine h_iload_n C dX10_init_63 rfl ?_
  refine h_iload_n C dX10_init_64 rfl ?_
  refine h_icmp_ne C dX10_init_65 (by decide) (by decide) rfl (tgt := 72) (fun _ => ?_) (fun c9 => absurd c9 (by decide))
  refine h_iconst C dX10_init_72 ?_
  refine h_iast (m1 := 87) C dX10_init_73 rfl (Nat.le_of_ble_eq_true rfl) (by decide) (by decide) rfl rfl ?_
  refine h_iinc (L1 := [some (rv w 1), some (iv 8), some (iv 7)]) C dX10_init_74 rfl rfl (Nat.le_of_ble_eq_true rfl) rfl ?_
  refine h_goto C dX10_init_77 rfl (tgt := 50) ?_
  refine h_iload_n C dX10_init_50 rfl ?_
  refine h_bipush C dX10_init_51 rfl ?_
  refine h_icmp_ge C dX10_init_53 (by decide) (by decide) rfl (tgt := 80) (fun c9 => absurd c9 (by decide)) (fun _ => ?_)
  refine h_aload_n C dX10_init_56 rfl ?_
  refine h_getR (j := 3) C dX10_init_57 rfl (Nat.le_of_ble_eq_true rfl) (Nat.le_of_ble_eq_true rfl) (Nat.le_of_ble_eq_true rfl) (Nat.le_of_ble_eq_true rfl) fl_10_23 rfl rfl (r := 5) rfl (Nat.le_of_ble_eq_true rfl) ?_
  refine h_iload_n C dX10_init_60 rfl ?_
  refine h_aaldI (r := 14) C dX10_init_61 rfl (Nat.le_of_ble_eq_true rfl) (by decide) (by decide) rfl (Nat.le_of_ble_eq_true rfl) ?_
  refine h_iload_n C dX10_init_62 rfl ?_
  refine h_iload_n C dX10_init_63 rfl ?_
  refine h_iload_n C dX10_init_64 rfl ?_
  refine h_icmp_ne C dX10_init_65 (by decide) (by decide) rfl (tgt := 72) (fun _ => ?_) (fun c9 => absurd c9 (by decide))
  refine h_iconst C dX10_init_72 ?_
  refine h_iast (m1 := 88) C dX10_init_73 rfl (Nat.le_of_ble_eq_true rfl) (by decide) (by decide) rfl rfl ?_
  refine h_iinc (L1 := [some (rv w 1), some (iv 8), some (iv 8)]) C dX10_init_74 rfl rfl (Nat.le_of_ble_eq_true rfl) rfl ?_
  refine h_goto C dX10_init_77 rfl (tgt := 50) ?_
  refine h_iload_n C dX10_init_50 rfl ?_
  refine h_bipush C dX10_init_51 rfl ?_
  refine h_icmp_ge C dX10_init_53 (by decide) (by decide) rfl (tgt := 80) (fun c9 => absurd c9 (by decide)) (fun _ => ?_)
  refine h_aload_n C dX10_init_56 rfl ?_
  refine h_getR (j := 3) C dX10_init_57 rfl (Nat.le_of_ble_eq_true rfl) (Nat.le_of_ble_eq_true rfl) (Nat.le_of_ble_eq_true rfl) (Nat.le_of_ble_eq_true rfl) fl_10_23 rfl rfl (r := 5) rfl (Nat.le_of_ble_eq_true rfl) ?_
  refine h_iload_n C dX10_init_60 rfl ?_
  refine h_aaldI (r := 14) C dX10_init_61 rfl (Nat.le_of_ble_eq_true rfl) (by decide) (by decide) rfl (Nat.le_of_ble_eq_true rfl) ?_
  refine h_iload_n C dX10_init_62 rfl ?_
  refine h_iload_n C dX10_init_63 rfl ?_
  refine h_iload_n C dX10_init_64 rfl ?_
  refine h_icmp_ne C dX10_init_65 (by decide) (by decide) rfl (tgt := 72) (fun c9 => absurd rfl c9) (fun _ => ?_)
  refine h_iconst C dX10_init_68 ?_
  refine h_goto C dX10_init_69 rfl (tgt := 73) ?_
  refine h_iast (m1 := 89) C dX10_init_73 rfl (Nat.le_of_ble_eq_true rfl) (by decide) (by decide) rfl rfl ?_
  refine h_iinc (L1 := [some (rv w 1), some (iv 8), some (iv 9)]) C dX10_init_74 rfl rfl (Nat.le_of_ble_eq_true rfl) rfl ?_
  refine h_goto C dX10_init_77 rfl (tgt := 50) ?_
  refine h_iload_n C dX10_init_50 rfl ?_
  refine h_bipush C dX10_init_51 rfl ?_
  refine h_icmp_ge C dX10_init_53 (by decide) (by decide) rfl (tgt := 80) (fun c9 => absurd c9 (by decide)) (fun _ => ?_)
  refine h_aload_n C dX10_init_56 rfl ?_
  refine h_getR (j := 3) C dX10_init_57 rfl (Nat.le_of_ble_eq_true rfl) (Nat.le_of_ble_eq_true rfl) (Nat.le_of_ble_eq_true rfl) (Nat.le_of_ble_eq_true rfl) fl_10_23 rfl rfl (r := 5) rfl (Nat.le_of_ble_eq_true rfl) ?_
  refine h_iload_n C dX10_init_60 rfl ?_
  refine h_aaldI (r := 14) C dX10_init_61 rfl (Nat.le_of_ble_eq_true rfl) (by decide) (by decide) rfl (Nat.le_of_ble_eq_true rfl) ?_
  refine h_iload_n C dX10_init_62 rfl ?_
  refine h_iload_n C dX10_init_63 rfl ?_
  refine h_iload_n C dX10_init_64 rfl ?_
  refine h_icmp_ne C dX10_init_65 (by decide) (by decide) rfl (tgt := 72) (fun _ => ?_) (fun c9 => absurd c9 (by decide))
  refine h_iconst C dX10_init_72 ?_
  refine h_iast (m1 := 90) C dX10_init_73 rfl (Nat.le_of_ble_eq_true rfl) (by decide) (by decide) rfl rfl ?_
  refine h_iinc (L1 := [some (rv w 1), some (iv 8), some (iv 10)]) C dX10_init_74 rfl rfl (Nat.le_of_ble_eq_true rfl) rfl ?_
  refine h_goto C dX10_init_77 rfl (tgt := 50) ?_
  refine h_iload_n C dX10_init_50 rfl ?_
  refine h_bipush C dX10_init_51 rfl ?_
  refine h_icmp_ge C dX10_init_53 (by decide) (by decide) rfl (tgt := 80) (fun _ => ?_) (fun c9 => absurd (by decide) c9)
  refine h_iinc (L1 := [some (rv w 1), some (iv 9), some (iv 10)]) C dX10_init_80 rfl rfl (Nat.le_of_ble_eq_true rfl) rfl ?_
  refine h_goto C dX10_init_83 rfl (tgt := 42) ?_
  refine h_iload_n C dX10_init_42 rfl ?_
  refine h_bipush C dX10_init_43 rfl ?_
  refine h_icmp_ge C dX10_init_45 (by decide) (by decide) rfl (tgt := 86) (fun c9 => absurd c9 (by decide)) (fun _ => ?_)
  refine h_iconst C dX10_init_48 ?_
  refine h_istore_n (L1 := [some (rv w 1), some (iv 9), some (iv 0)]) C dX10_init_49 rfl (Nat.le_of_ble_eq_true rfl) rfl ?_
  refine h_iload_n C dX10_init_50 rfl ?_
  refine h_bipush C dX10_init_51 rfl ?_
  refine h_icmp_ge C dX10_init_53 (by decide) (by decide) rfl (tgt := 80) (fun c9 => absurd c9 (by decide)) (fun _ => ?_)
  refine h_aload_n C dX10_init_56 rfl ?_
  refine h_getR (j := 3) C dX10_init_57 rfl (Nat.le_of_ble_eq_true rfl) (Nat.le_of_ble_eq_true rfl) (Nat.le_of_ble_eq_true rfl) (Nat.le_of_ble_eq_true rfl) fl_10_23 rfl rfl (r := 5) rfl (Nat.le_of_ble_eq_true rfl) ?_
  refine h_iload_n C dX10_init_60 rfl ?_
  refine h_aaldI (r := 15) C dX10_init_61 rfl (Nat.le_of_ble_eq_true rfl) (by decide) (by decide) rfl (Nat.le_of_ble_eq_true rfl) ?_
  refine h_iload_n C dX10_init_62 rfl ?_
  refine h_iload_n C dX10_init_63 rfl ?_
  refine h_iload_n C dX10_init_64 rfl ?_
  refine h_icmp_ne C dX10_init_65 (by decide) (by decide) rfl (tgt := 72) (fun _ => ?_) (fun c9 => absurd c9 (by decide))
  refine h_iconst C dX10_init_72 ?_
  refine h_iast (m1 := 91) C dX10_init_73 rfl (Nat.le_of_ble_eq_true rfl) (by decide) (by decide) rfl rfl ?_
  refine h_iinc (L1 := [some (rv w 1), some (iv 9), some (iv 1)]) C dX10_init_74 rfl rfl (Nat.le_of_ble_eq_true rfl) rfl ?_
  refine h_goto C dX10_init_77 rfl (tgt := 50) ?_
  refine h_iload_n C dX10_init_50 rfl ?_
  refine h_bipush C dX10_init_51 rfl ?_
  refine h_icmp_ge C dX10_init_53 (by decide) (by decide) rfl (tgt := 80) (fun c9 => absurd c9 (by decide)) (fun _ => ?_)
  refine h_aload_n C dX10_init_56 rfl ?_
  refine h_getR (j := 3) C dX10_init_57 rfl (Nat.le_of_ble_eq_true rfl) (Nat.le_of_ble_eq_true rfl) (Nat.le_of_ble_eq_true rfl) (Nat.le_of_ble_eq_true rfl) fl_10_23 rfl rfl (r := 5) rfl (Nat.le_of_ble_eq_true rfl) ?_
  refine h_iload_n C dX10_init_60 rfl ?_
  refine h_aaldI (r := 15) C dX10_init_61 rfl (Nat.le_of_ble_eq_true rfl) (by decide) (by decide) rfl (Nat.le_of_ble_eq_true rfl) ?_
  refine h_iload_n C dX10_init_62 rfl ?_
  refine h_iload_n C dX10_init_63 rfl ?_
  refine h_iload_n C dX10_init_64 rfl ?_
  refine h_icmp_ne C dX10_init_65 (by decide) (by decide) rfl (tgt := 72) (fun _ => ?_) (fun c9 => absurd c9 (by decide))
  refine h_iconst C dX10_init_72 ?_
  refine h_iast (m1 := 92) C dX10_init_73 rfl (Nat.le_of_ble_eq_true rfl) (by decide) (by decide) rfl rfl ?_
  refine h_iinc (L1 := [some (rv w 1), some (iv 9), some (iv 2)]) C dX10_init_74 rfl rfl (Nat.le_of_ble_eq_true rfl) rfl ?_
  refine h_goto C dX10_init_77 rfl (tgt := 50) ?_
  refine h_iload_n C dX10_init_50 rfl ?_
  refine h_bipush C dX10_init_51 rfl ?_
  refine h_icmp_ge C dX10_init_53 (by decide) (by decide) rfl (tgt := 80) (fun c9 => absurd c9 (by decide)) (fun _ => ?_)
  refine h_aload_n C dX10_init_56 rfl ?_
  refine h_getR (j := 3) C dX10_init_57 rfl (Nat.le_of_ble_eq_true rfl) (Nat.le_of_ble_eq_true rfl) (Nat.le_of_ble_eq_true rfl) (Nat.le_of_ble_eq_true rfl) fl_10_23 rfl rfl (r := 5) rfl (Nat.le_of_ble_eq_true rfl) ?_
  refine h_iload_n C dX10_init_60 rfl ?_
  refine h_aaldI (r := 15) C dX10_init_61 rfl (Nat.le_of_ble_eq_true rfl) (by decide) (by decide) rfl (Nat.le_of_ble_eq_true rfl) ?_
  refine h_iload_n C dX10_init_62 rfl ?_
  refine h_iload_n C dX10_init_63 rfl ?_
  refine h_iload_n C dX10_init_64 rfl ?_
  refine h_icmp_ne C dX10_init_65 (by decide) (by decide) rfl (tgt := 72) (fun _ => ?_) (fun c9 => absurd c9 (by decide))
  refine h_iconst C dX10_init_72 ?_
  refine h_iast (m1 := 93) C dX10_init_73 rfl (Nat.le_of_ble_eq_true rfl) (by decide) (by decide) rfl rfl ?_
  refine h_iinc (L1 := [some (rv w 1), some (iv 9), some (iv 3)]) C dX10_init_74 rfl rfl (Nat.le_of_ble_eq_true rfl) rfl ?_
  refine h_goto C dX10_init_77 rfl (tgt := 50) ?_
  refine h_iload_n C dX10_init_50 rfl ?_
  refine h_bipush C dX10_init_51 rfl ?_
  refine h_icmp_ge C dX10_init_53 (by decide) (by decide) rfl (tgt := 80) (fun c9 => absurd c9 (by decide)) (fun _ => ?_)
  refine h_aload_n C dX10_init_56 rfl ?_
  refine h_getR (j := 3) C dX10_init_57 rfl (Nat.le_of_ble_eq_true rfl) (Nat.le_of_ble_eq_true rfl) (Nat.le_of_ble_eq_true rfl) (Nat.le_of_ble_eq_true rfl) fl_10_23 rfl rfl (r := 5) rfl (Nat.le_of_ble_eq_true rfl) ?_
  refine h_iload_n C dX10_init_60 rfl ?_
  refine h_aaldI (r := 15) C dX10_init_61 rfl (Nat.le_of_ble_eq_true rfl) (by decide) (by decide) rfl (Nat.le_of_ble_eq_true rfl) ?_
  refine h_iload_n C dX10_init_62 rfl ?_
  refine h_iload_n C dX10_init_63 rfl ?_
  refine h_iload_n C dX10_init_64 rfl ?_
  refine h_icmp_ne C dX10_init_65 (by decide) (by decide) rfl (tgt := 72) (fun _ => ?_) (fun c9 => absurd c9 (by decide))
  refine h_iconst C dX10_init_72 ?_
  refine h_iast (m1 := 94) C dX10_init_73 rfl (Nat.le_of_ble_eq_true rfl) (by decide) (by decide) rfl rfl ?_
  refine h_iinc (L1 := [some (rv w 1), some (iv 9), some (iv 4)]) C dX10_init_74 rfl rfl (Nat.le_of_ble_eq_true rfl) rfl ?_
  refine h_goto C dX10_init_77 rfl (tgt := 50) ?_
  refine h_iload_n C dX10_init_50 rfl ?_
  refine h_bipush C dX10_init_51 rfl ?_
  refine h_icmp_ge C dX10_init_53 (by decide) (by decide) rfl (tgt := 80) (fun c9 => absurd c9 (by decide)) (fun _ => ?_)
  refine h_aload_n C dX10_init_56 rfl ?_
  refine h_getR (j := 3) C dX10_init_57 rfl (Nat.le_of_ble_eq_true rfl) (Nat.le_of_ble_eq_true rfl) (Nat.le_of_ble_eq_true rfl) (Nat.le_of_ble_eq_true rfl) fl_10_23 rfl rfl (r := 5) rfl (Nat.le_of_ble_eq_true rfl) ?_
  refine h_iload_n C dX10_init_60 rfl ?_
  refine h_aaldI (r := 15) C dX10_init_61 rfl (Nat.le_of_ble_eq_true rfl) (by decide) (by decide) rfl (Nat.le_of_ble_eq_true rfl) ?_
  refine h_iload_n C dX10_init_62 rfl ?_
  refine h_iload_n C dX10_init_63 rfl ?_
  refine h_iload_n C dX10_init_64 rfl ?_
  refine h_icmp_ne C dX10_init_65 (by decide) (by decide) rfl (tgt := 72) (fun _ => ?_) (fun c9 => absurd c9 (by decide))
  refine h_iconst C dX10_init_72 ?_
  refine h_iast (m1 := 95) C dX10_init_73 rfl (Nat.le_of_ble_eq_true rfl) (by decide) (by decide) rfl rfl ?_
  refine h_iinc (L1 := [some (rv w 1), some (iv 9), some (iv 5)]) C dX10_init_74 rfl rfl (Nat.le_of_ble_eq_true rfl) rfl ?_
  refine h_goto C dX10_init_77 rfl (tgt := 50) ?_
  refine h_iload_n C dX10_init_50 rfl ?_
  refine h_bipush C dX10_init_51 rfl ?_
  refine h_icmp_ge C dX10_init_53 (by decide) (by decide) rfl (tgt := 80) (fun c9 => absurd c9 (by decide)) (fun _ => ?_)
  refine h_aload_n C dX10_init_56 rfl ?_
  refine h_getR (j := 3) C dX10_init_57 rfl (Nat.le_of_ble_eq_true rfl) (Nat.le_of_ble_eq_true rfl) (Nat.le_of_ble_eq_true rfl) (Nat.le_of_ble_eq_true rfl) fl_10_23 rfl rfl (r := 5) rfl (Nat.le_of_ble_eq_true rfl) ?_
  refine h_iload_n C dX10_init_60 rfl ?_
  refine h_aaldI (r := 15) C dX10_init_61 rfl (Nat.le_of_ble_eq_true rfl) (by decide) (by decide) rfl (Nat.le_of_ble_eq_true rfl) ?_
  refine h_iload_n C dX10_init_62 rfl ?_
  refine h_iload_n C dX10_init_63 rfl ?_
  refine h_iload_n C dX10_init_64 rfl ?_
  refine h_icmp_ne C dX10_init_65 (by decide) (by decide) rfl (tgt := 72) (fun _ => ?_) (fun c9 => absurd c9 (by decide))
  refine h_iconst C dX10_init_72 ?_
  refine h_iast (m1 := 96) C dX10_init_73 rfl (Nat.le_of_ble_eq_true rfl) (by decide) (by decide) rfl rfl ?_
  refine h_iinc (L1 := [some (rv w 1), some (iv 9), some (iv 6)]) C dX10_init_74 rfl rfl (Nat.le_of_ble_eq_true rfl) rfl ?_
  refine h_goto C dX10_init_77 rfl (tgt := 50) ?_
  refine h_iload_n C dX10_init_50 rfl ?_
  refine h_bipush C dX10_init_51 rfl ?_
  refine h_icmp_ge C dX10_init_53 (by decide) (by decide) rfl (tgt := 80) (fun c9 => absurd c9 (by decide)) (fun _ => ?_)
  refine h_aload_n C dX10_init_56 rfl ?_
  refine h_getR (j := 3) C dX10_init_57 rfl (Nat.le_of_ble_eq_true rfl) (Nat.le_of_ble_eq_true rfl) (Nat.le_of_ble_eq_true rfl) (Nat.le_of_ble_eq_true rfl) fl_10_23 rfl rfl (r := 5) rfl (Nat.le_of_ble_eq_true rfl) ?_
  refine h_iload_n C dX10_init_60 rfl ?_
  refine h_aaldI (r := 15) C dX10_init_61 rfl (Nat.le_of_ble_eq_true rfl) (by decide) (by decide) rfl (Nat.le_of_ble_eq_true rfl) ?_
  refine h_iload_n C dX10_init_62 rfl ?_
  refine h_iload_n C dX10_init_63 rfl ?_
  refine h_iload_n C dX10_init_64 rfl ?_
  refine h_icmp_ne C dX10_init_65 (by decide) (by decide) rfl (tgt := 72) (fun _ => ?_) (fun c9 => absurd c9 (by decide))
  refine h_iconst C dX10_init_72 ?_
  refine h_iast (m1 := 97) C dX10_init_73 rfl (Nat.le_of_ble_eq_true rfl) (by decide) (by decide) rfl rfl ?_
  refine h_iinc (L1 := [some (rv w 1), some (iv 9), some (iv 7)]) C dX10_init_74 rfl rfl (Nat.le_of_ble_eq_true rfl) rfl ?_
  refine h_goto C dX10_init_77 rfl (tgt := 50) ?_
  refine h_iload_n C dX10_init_50 rfl ?_
  refine h_bipush C dX10_init_51 rfl ?_
  refine h_icmp_ge C dX10_init_53 (by decide) (by decide) rfl (tgt := 80) (fun c9 => absurd c9 (by decide)) (fun _ => ?_)
  refine h_aload_n C dX10_init_56 rfl ?_
  refine h_getR (j := 3) C dX10_init_57 rfl (Nat.le_of_ble_eq_true rfl) (Nat.le_of_ble_eq_true rfl) (Nat.le_of_ble_eq_true rfl) (Nat.le_of_ble_eq_true rfl) fl_10_23 rfl rfl (r := 5) rfl (Nat.le_of_ble_eq_true rfl) ?_
  refine h_iload_n C dX10_init_60 rfl ?_
  refine h_aaldI (r := 15) C dX10_init_61 rfl (Nat.le_of_ble_eq_true rfl) (by decide) (by decide) rfl (Nat.le_of_ble_eq_true rfl) ?_
  refine h_iload_n C dX10_init_62 rfl ?_
  refine h_iload_n C dX10_init_63 rfl ?_
  refine h_iload_n C dX10_init_64 rfl ?_
  refine h_icmp_ne C dX10_init_65 (by decide) (by decide) rfl (tgt := 72) (fun _ => ?_) (fun c9 => absurd c9 (by decide))
  refine h_iconst C dX10_init_72 ?_
  refine h_iast (m1 := 98) C dX10_init_73 rfl (Nat.le_of_ble_eq_true rfl) (by decide) (by decide) rfl rfl ?_
  refine h_iinc (L1 := [some (rv w 1), some (iv 9), some (iv 8)]) C dX10_init_74 rfl rfl (Nat.le_of_ble_eq_true rfl) rfl ?_
  refine h_goto C dX10_init_77 rfl (tgt := 50) ?_
  refine h_iload_n C dX10_init_50 rfl ?_
  refine h_bipush C dX10_init_51 rfl ?_
  refine h_icmp_ge C dX10_init_53 (by decide) (by decide) rfl (tgt := 80) (fun c9 => absurd c9 (by decide)) (fun _ => ?_)
  refine h_aload_n C dX10_init_56 rfl ?_
  refine h_getR (j := 3) C dX10_init_57 rfl (Nat.le_of_ble_eq_true rfl) (Nat.le_of_ble_eq_true rfl) (Nat.le_of_ble_eq_true rfl) (Nat.le_of_ble_eq_true rfl) fl_10_23 rfl rfl (r := 5) rfl (Nat.le_of_ble_eq_true rfl) ?_
  refine h_iload_n C dX10_init_60 rfl ?_
  refine h_aaldI (r := 15) C dX10_init_61 rfl (Nat.le_of_ble_eq_true rfl) (by decide) (by decide) rfl (Nat.le_of_ble_eq_true rfl) ?_
  refine h_iload_n C dX10_init_62 rfl ?_
  refine h_iload_n C dX10_init_63 rfl ?_
  refine h_iload_n C dX10_init_64 rfl ?_
  refine h_icmp_ne C dX10_init_65 (by decide) (by decide) rfl (tgt := 72) (fun _ => ?_) (fun c9 => absurd c9 (by decide))
  refine h_iconst C dX10_init_72 ?_
  refine h_iast (m1 := 99) C dX10_init_73 rfl (Nat.le_of_ble_eq_true rfl) (by decide) (by decide) rfl rfl ?_
  refine h_iinc (L1 := [some (rv w 1), some (iv 9), some (iv 9)]) C dX10_init_74 rfl rfl (Nat.le_of_ble_eq_true rfl) rfl ?_
  refine h_goto C dX10_init_77 rfl (tgt := 50) ?_
  refine h_iload_n C dX10_init_50 rfl ?_
  refine h_bipush C dX10_init_51 rfl ?_
  refine h_icmp_ge C dX10_init_53 (by decide) (by decide) rfl (tgt := 80) (fun c9 => absurd c9 (by decide)) (fun _ => ?_)
  refine h_aload_n C dX10_init_56 rfl ?_
  refine h_getR (j := 3) C dX10_init_57 rfl (Nat.le_of_ble_eq_true rfl) (Nat.le_of_ble_eq_true rfl) (Nat.le_of_ble_eq_true rfl) (Nat.le_of_ble_eq_true rfl) fl_10_23 rfl rfl (r := 5) rfl (Nat.le_of_ble_eq_true rfl) ?_
  refine h_iload_n C dX10_init_60 rfl ?_
  refine h_aaldI (r := 15) C dX10_init_61 rfl (Nat.le_of_ble_eq_true rfl) (by decide) (by decide) rfl (Nat.le_of_ble_eq_true rfl) ?_
  refine h_iload_n C dX10_init_62 rfl ?_
  refine h_iload_n C dX10_init_63 rfl ?_
  refine h_iload_n C dX10_init_64 rfl ?_
  refine h_icmp_ne C dX10_init_65 (by decide) (by decide) rfl (tgt := 72) (fun c9 => absurd rfl c9) (fun _ => ?_)
  refine h_iconst C dX10_init_68 ?_
  refine h_goto C dX10_init_69 rfl (tgt := 73) ?_
  refine h_iast (m1 := 100) C dX10_init_73 rfl (Nat.le_of_ble_eq_true rfl) (by decide) (by decide) rfl rfl ?_
  refine h_iinc (L1 := [some (rv w 1), some (iv 9), some (iv 10)]) C dX10_init_74 rfl rfl (Nat.le_of_ble_eq_true rfl) rfl ?_
  refine h_goto C dX10_init_77 rfl (tgt := 50) ?_
  refine h_iload_n C dX10_init_50 rfl ?_
  refine h_bipush C dX10_init_51 rfl ?_
  refine h_icmp_ge C dX10_init_53 (by decide) (by decide) rfl (tgt := 80) (fun _ => ?_) (fun c9 => absurd (by decide) c9)
  refine h_iinc (L1 := [some (rv w 1), some (iv 10), some (iv 10)]) C dX10_init_80 rfl rfl (Nat.le_of_ble_eq_true rfl) rfl ?_
  refine h_goto C dX10_init_83 rfl (tgt := 42) ?_
  refine h_iload_n C dX10_init_42 rfl ?_
  refine h_bipush C dX10_init_43 rfl ?_
  refine h_icmp_ge C dX10_init_45 (by decide) (by decide) rfl (tgt := 86) (fun _ => ?_) (fun c9 => absurd (by decide) c9)
  exact h_vret C dX10_init_86 hr hlk ⟨rfl, rfl, rfl⟩ ⟨rfl, rfl⟩ rfl
theorem cl_11_10 : Cond.classLink RX11 10 (RXf 9) ∈ TB := (tbc_1 65 rfl rfl)
theorem dX9_init_0 : decode cX9_init 0 = .ok (.aload_n 0, 1) := by decide +kernel
theorem dX9_init_1 : decode cX9_init 1 = .ok (.invokespecial 3, 3) := by decide +kernel
theorem dX9_init_4 : decode cX9_init 4 = .ok (.aload_n 0, 1) := by decide +kernel
theorem dX9_init_5 : decode cX9_init 5 = .ok (.sipush 502, 3) := by decide +kernel
theorem dX9_init_8 : decode cX9_init 8 = .ok (.newarray .int, 2) := by decide +kernel
theorem dX9_init_10 : decode cX9_init 10 = .ok (.putfield 11, 3) := by decide +kernel
theorem dX9_init_13 : decode cX9_init 13 = .ok (.aload_n 0, 1) := by decide +kernel
theorem dX9_init_14 : decode cX9_init 14 = .ok (.sipush 502, 3) := by decide +kernel
theorem dX9_init_17 : decode cX9_init 17 = .ok (.newarray .int, 2) := by decide +kernel
theorem dX9_init_19 : decode cX9_init 19 = .ok (.putfield 15, 3) := by decide +kernel
theorem dX9_init_22 : decode cX9_init 22 = .ok (.aload_n 0, 1) := by decide +kernel
theorem dX9_init_23 : decode cX9_init 23 = .ok (.sipush 502, 3) := by decide +kernel
theorem dX9_init_26 : decode cX9_init 26 = .ok (.newarray .int, 2) := by decide +kernel
theorem dX9_init_28 : decode cX9_init 28 = .ok (.putfield 18, 3) := by decide +kernel
theorem dX9_init_31 : decode cX9_init 31 = .ok (.aload_n 0, 1) := by decide +kernel
theorem dX9_init_32 : decode cX9_init 32 = .ok (.sipush 502, 3) := by decide +kernel
theorem dX9_init_35 : decode cX9_init 35 = .ok (.newarray .long, 2) := by decide +kernel
theorem dX9_init_37 : decode cX9_init 37 = .ok (.putfield 21, 3) := by decide +kernel
theorem dX9_init_40 : decode cX9_init 40 = .ok (.aload_n 0, 1) := by decide +kernel
theorem dX9_init_41 : decode cX9_init 41 = .ok (.sipush 2000, 3) := by decide +kernel
theorem dX9_init_44 : decode cX9_init 44 = .ok (.newarray .int, 2) := by decide +kernel
theorem dX9_init_46 : decode cX9_init 46 = .ok (.putfield 25, 3) := by decide +kernel
theorem dX9_init_49 : decode cX9_init 49 = .ok (.return_, 1) := by decide +kernel
theorem mlo_9 : Cond.methodLink RX9 3 Lib.objectInit ∈ TB := (tbc_1 70 rfl rfl)
set_option maxRecDepth 100000 in
set_option maxHeartbeats 4000000 in
theorem ci_X9_init_16 {w : Wd} {l : Launch} : CtI w l yX9_init (Cond.code yX9_init cX9_init 1 none :: TB) { frames := 1, cells := 5, slots := 4008, locals := 20 } [rv w 16] 17 14 100 22 19 100 none 5 4008 := by
  refine CtI.of [some (rv w 16)] 0 rfl pn_RX9 (Nat.le_of_ble_eq_true rfl) ?_
  intro p e s m args below meth c C hr hlk hnm
  refine h_aload_n C dX9_init_0 rfl ?_
  refine h_objInit C dX9_init_1 mlo_9 im_obj cd_obj ⟨Nat.le_of_ble_eq_true rfl, Nat.le_of_ble_eq_true rfl⟩ ?_
  refine h_aload_n C dX9_init_4 rfl ?_
  refine h_sipush C dX9_init_5 rfl ?_
  refine h_newa20 (N := 502) (n1 := 18) (c1 := 1) (s1 := 502) C dX9_init_8 rfl rfl rfl (by decide) ac_int (Nat.le_of_ble_eq_true rfl) ⟨Nat.le_of_ble_eq_true rfl, Nat.le_of_ble_eq_true rfl⟩ rfl rfl rfl ?_
  refine h_putR (j := 1) (t1 := 15) C dX9_init_10 rfl (Nat.le_of_ble_eq_true rfl) (Nat.le_of_ble_eq_true rfl) (Nat.le_of_ble_eq_true rfl) (Nat.le_of_ble_eq_true rfl) fl_9_11 rfl rfl rfl hnm rfl rfl (fun _ => rfl) (fun _ => rfl) rfl rfl rfl rfl ?_
  refine h_aload_n C dX9_init_13 rfl ?_
  refine h_sipush C dX9_init_14 rfl ?_
  refine h_newa20 (N := 502) (n1 := 19) (c1 := 2) (s1 := 1004) C dX9_init_17 rfl rfl rfl (by decide) ac_int (Nat.le_of_ble_eq_true rfl) ⟨Nat.le_of_ble_eq_true rfl, Nat.le_of_ble_eq_true rfl⟩ rfl rfl rfl ?_
  refine h_putR (j := 2) (t1 := 16) C dX9_init_19 rfl (Nat.le_of_ble_eq_true rfl) (Nat.le_of_ble_eq_true rfl) (Nat.le_of_ble_eq_true rfl) (Nat.le_of_ble_eq_true rfl) fl_9_15 rfl rfl rfl hnm rfl rfl (fun _ => rfl) (fun _ => rfl) rfl rfl rfl rfl ?_
  refine h_aload_n C dX9_init_22 rfl ?_
  refine h_sipush C dX9_init_23 rfl ?_
  refine h_newa20 (N := 502) (n1 := 20) (c1 := 3) (s1 := 1506) C dX9_init_26 rfl rfl rfl (by decide) ac_int (Nat.le_of_ble_eq_true rfl) ⟨Nat.le_of_ble_eq_true rfl, Nat.le_of_ble_eq_true rfl⟩ rfl rfl rfl ?_
  refine h_putR (j := 3) (t1 := 17) C dX9_init_28 rfl (Nat.le_of_ble_eq_true rfl) (Nat.le_of_ble_eq_true rfl) (Nat.le_of_ble_eq_true rfl) (Nat.le_of_ble_eq_true rfl) fl_9_18 rfl rfl rfl hnm rfl rfl (fun _ => rfl) (fun _ => rfl) rfl rfl rfl rfl ?_
  refine h_aload_n C dX9_init_31 rfl ?_
  refine h_sipush C dX9_init_32 rfl ?_
  refine h_newa23 (N := 502) (n1 := 21) (c1 := 4) (s1 := 2008) C dX9_init_35 rfl rfl rfl (by decide) ac_long (Nat.le_of_ble_eq_true rfl) ⟨Nat.le_of_ble_eq_true rfl, Nat.le_of_ble_eq_true rfl⟩ rfl rfl rfl ?_
  refine h_putR (j := 4) (t1 := 18) C dX9_init_37 rfl (Nat.le_of_ble_eq_true rfl) (Nat.le_of_ble_eq_true rfl) (Nat.le_of_ble_eq_true rfl) (Nat.le_of_ble_eq_true rfl) fl_9_21 rfl rfl rfl hnm rfl rfl (fun _ => rfl) (fun _ => rfl) rfl rfl rfl rfl ?_
  refine h_aload_n C dX9_init_40 rfl ?_
  refine h_sipush C dX9_init_41 rfl ?_
  refine h_newa20 (N := 2000) (n1 := 22) (c1 := 5) (s1 := 4008) C dX9_init_44 rfl rfl rfl (by decide) ac_int (Nat.le_of_ble_eq_true rfl) ⟨Nat.le_of_ble_eq_true rfl, Nat.le_of_ble_eq_true rfl⟩ rfl rfl rfl ?_
  refine h_putR (j := 5) (t1 := 19) C dX9_init_46 rfl (Nat.le_of_ble_eq_true rfl) (Nat.le_of_ble_eq_true rfl) (Nat.le_of_ble_eq_true rfl) (Nat.le_of_ble_eq_true rfl) fl_9_25 rfl rfl rfl hnm rfl rfl (fun _ => rfl) (fun _ => rfl) rfl rfl rfl rfl ?_
  exact h_vret C dX9_init_49 hr hlk ⟨rfl, rfl, rfl⟩ ⟨rfl, rfl⟩ rfl
theorem cl_11_13 : Cond.classLink RX11 13 (RXf 5) ∈ TB := (tbc_1 99 rfl rfl)
theorem dX5_init_0 : decode cX5_init 0 = .ok (.aload_n 0, 1) := by decide +kernel
theorem dX5_init_1 : decode cX5_init 1 = .ok (.invokespecial 3, 3) := by decide +kernel
theorem dX5_init_4 : decode cX5_init 4 = .ok (.aload_n 0, 1) := by decide +kernel
theorem dX5_init_5 : decode cX5_init 5 = .ok (.sipush 512, 3) := by decide +kernel
theorem dX5_init_8 : decode cX5_init 8 = .ok (.newarray .int, 2) := by decide +kernel
theorem dX5_init_10 : decode cX5_init 10 = .ok (.putfield 11, 3) := by decide +kernel
theorem dX5_init_13 : decode cX5_init 13 = .ok (.aload_n 0, 1) := by decide +kernel
theorem dX5_init_14 : decode cX5_init 14 = .ok (.sipush 512, 3) := by decide +kernel
theorem dX5_init_17 : decode cX5_init 17 = .ok (.newarray .int, 2) := by decide +kernel
theorem dX5_init_19 : decode cX5_init 19 = .ok (.putfield 15, 3) := by decide +kernel
theorem dX5_init_22 : decode cX5_init 22 = .ok (.aload_n 0, 1) := by decide +kernel
theorem dX5_init_23 : decode cX5_init 23 = .ok (.sipush 512, 3) := by decide +kernel
theorem dX5_init_26 : decode cX5_init 26 = .ok (.newarray .int, 2) := by decide +kernel
theorem dX5_init_28 : decode cX5_init 28 = .ok (.putfield 18, 3) := by decide +kernel
theorem dX5_init_31 : decode cX5_init 31 = .ok (.aload_n 0, 1) := by decide +kernel
theorem dX5_init_32 : decode cX5_init 32 = .ok (.sipush 512, 3) := by decide +kernel
theorem dX5_init_35 : decode cX5_init 35 = .ok (.newarray .boolean, 2) := by decide +kernel
theorem dX5_init_37 : decode cX5_init 37 = .ok (.putfield 21, 3) := by decide +kernel
theorem dX5_init_40 : decode cX5_init 40 = .ok (.aload_n 0, 1) := by decide +kernel
theorem dX5_init_41 : decode cX5_init 41 = .ok (.sipush 512, 3) := by decide +kernel
theorem dX5_init_44 : decode cX5_init 44 = .ok (.newarray .int, 2) := by decide +kernel
theorem dX5_init_46 : decode cX5_init 46 = .ok (.putfield 25, 3) := by decide +kernel
theorem dX5_init_49 : decode cX5_init 49 = .ok (.aload_n 0, 1) := by decide +kernel
theorem dX5_init_50 : decode cX5_init 50 = .ok (.bipush 8, 2) := by decide +kernel
theorem dX5_init_52 : decode cX5_init 52 = .ok (.newarray .long, 2) := by decide +kernel
theorem dX5_init_54 : decode cX5_init 54 = .ok (.putfield 28, 3) := by decide +kernel
theorem dX5_init_57 : decode cX5_init 57 = .ok (.aload_n 0, 1) := by decide +kernel
theorem dX5_init_58 : decode cX5_init 58 = .ok (.bipush 8, 2) := by decide +kernel
theorem dX5_init_60 : decode cX5_init 60 = .ok (.newarray .int, 2) := by decide +kernel
theorem dX5_init_62 : decode cX5_init 62 = .ok (.putfield 32, 3) := by decide +kernel
theorem dX5_init_65 : decode cX5_init 65 = .ok (.return_, 1) := by decide +kernel
theorem mlo_5 : Cond.methodLink RX5 3 Lib.objectInit ∈ TB := (tbc_1 104 rfl rfl)
set_option maxRecDepth 100000 in
set_option maxHeartbeats 4000000 in
theorem ci_X5_init_22 {w : Wd} {l : Launch} : CtI w l yX5_init (Cond.code yX5_init cX5_init 1 none :: TB) { frames := 1, cells := 7, slots := 2576, locals := 20 } [rv w 22] 23 19 100 30 26 100 none 7 2576 := by
  refine CtI.of [some (rv w 22)] 0 rfl pn_RX5 (Nat.le_of_ble_eq_true rfl) ?_
  intro p e s m args below meth c C hr hlk hnm
  refine h_aload_n C dX5_init_0 rfl ?_
  refine h_objInit C dX5_init_1 mlo_5 im_obj cd_obj ⟨Nat.le_of_ble_eq_true rfl, Nat.le_of_ble_eq_true rfl⟩ ?_
  refine h_aload_n C dX5_init_4 rfl ?_
  refine h_sipush C dX5_init_5 rfl ?_
  refine h_newa20 (N := 512) (n1 := 24) (c1 := 1) (s1 := 512) C dX5_init_8 rfl rfl rfl (by decide) ac_int (Nat.le_of_ble_eq_true rfl) ⟨Nat.le_of_ble_eq_true rfl, Nat.le_of_ble_eq_true rfl⟩ rfl rfl rfl ?_
  refine h_putR (j := 0) (t1 := 20) C dX5_init_10 rfl (Nat.le_of_ble_eq_true rfl) (Nat.le_of_ble_eq_true rfl) (Nat.le_of_ble_eq_true rfl) (Nat.le_of_ble_eq_true rfl) fl_5_11 rfl rfl rfl hnm rfl rfl (fun _ => rfl) (fun _ => rfl) rfl rfl rfl rfl ?_
  refine h_aload_n C dX5_init_13 rfl ?_
  refine h_sipush C dX5_init_14 rfl ?_
  refine h_newa20 (N := 512) (n1 := 25) (c1 := 2) (s1 := 1024) C dX5_init_17 rfl rfl rfl (by decide) ac_int (Nat.le_of_ble_eq_true rfl) ⟨Nat.le_of_ble_eq_true rfl, Nat.le_of_ble_eq_true rfl⟩ rfl rfl rfl ?_
  refine h_putR (j := 1) (t1 := 21) C dX5_init_19 rfl (Nat.le_of_ble_eq_true rfl) (Nat.le_of_ble_eq_true rfl) (Nat.le_of_ble_eq_true rfl) (Nat.le_of_ble_eq_true rfl) fl_5_15 rfl rfl rfl hnm rfl rfl (fun _ => rfl) (fun _ => rfl) rfl rfl rfl rfl ?_
  refine h_aload_n C dX5_init_22 rfl ?_
  refine h_sipush C dX5_init_23 rfl ?_
  refine h_newa20 (N := 512) (n1 := 26) (c1 := 3) (s1 := 1536) C dX5_init_26 rfl rfl rfl (by decide) ac_int (Nat.le_of_ble_eq_true rfl) ⟨Nat.le_of_ble_eq_true rfl, Nat.le_of_ble_eq_true rfl⟩ rfl rfl rfl ?_
  refine h_putR (j := 2) (t1 := 22) C dX5_init_28 rfl (Nat.le_of_ble_eq_true rfl) (Nat.le_of_ble_eq_true rfl) (Nat.le_of_ble_eq_true rfl) (Nat.le_of_ble_eq_true rfl) fl_5_18 rfl rfl rfl hnm rfl rfl (fun _ => rfl) (fun _ => rfl) rfl rfl rfl rfl ?_
  refine h_aload_n C dX5_init_31 rfl ?_
  refine h_sipush C dX5_init_32 rfl ?_
  refine h_newa22 (N := 512) (n1 := 27) (c1 := 4) (s1 := 2048) C dX5_init_35 rfl rfl rfl (by decide) ac_boolean (Nat.le_of_ble_eq_true rfl) ⟨Nat.le_of_ble_eq_true rfl, Nat.le_of_ble_eq_true rfl⟩ rfl rfl rfl ?_
  refine h_putR (j := 3) (t1 := 23) C dX5_init_37 rfl (Nat.le_of_ble_eq_true rfl) (Nat.le_of_ble_eq_true rfl) (Nat.le_of_ble_eq_true rfl) (Nat.le_of_ble_eq_true rfl) fl_5_21 rfl rfl rfl hnm rfl rfl (fun _ => rfl) (fun _ => rfl) rfl rfl rfl rfl ?_
  refine h_aload_n C dX5_init_40 rfl ?_
  refine h_sipush C dX5_init_41 rfl ?_
  refine h_newa20 (N := 512) (n1 := 28) (c1 := 5) (s1 := 2560) C dX5_init_44 rfl rfl rfl (by decide) ac_int (Nat.le_of_ble_eq_true rfl) ⟨Nat.le_of_ble_eq_true rfl, Nat.le_of_ble_eq_true rfl⟩ rfl rfl rfl ?_
  refine h_putR (j := 4) (t1 := 24) C dX5_init_46 rfl (Nat.le_of_ble_eq_true rfl) (Nat.le_of_ble_eq_true rfl) (Nat.le_of_ble_eq_true rfl) (Nat.le_of_ble_eq_true rfl) fl_5_25 rfl rfl rfl hnm rfl rfl (fun _ => rfl) (fun _ => rfl) rfl rfl rfl rfl ?_
  refine h_aload_n C dX5_init_49 rfl ?_
  refine h_bipush C dX5_init_50 rfl ?_
  refine h_newa23 (N := 8) (n1 := 29) (c1 := 6) (s1 := 2568) C dX5_init_52 rfl rfl rfl (by decide) ac_long (Nat.le_of_ble_eq_true rfl) ⟨Nat.le_of_ble_eq_true rfl, Nat.le_of_ble_eq_true rfl⟩ rfl rfl rfl ?_
  refine h_putR (j := 5) (t1 := 25) C dX5_init_54 rfl (Nat.le_of_ble_eq_true rfl) (Nat.le_of_ble_eq_true rfl) (Nat.le_of_ble_eq_true rfl) (Nat.le_of_ble_eq_true rfl) fl_5_28 rfl rfl rfl hnm rfl rfl (fun _ => rfl) (fun _ => rfl) rfl rfl rfl rfl ?_
  refine h_aload_n C dX5_init_57 rfl ?_
  refine h_bipush C dX5_init_58 rfl ?_
  refine h_newa20 (N := 8) (n1 := 30) (c1 := 7) (s1 := 2576) C dX5_init_60 rfl rfl rfl (by decide) ac_int (Nat.le_of_ble_eq_true rfl) ⟨Nat.le_of_ble_eq_true rfl, Nat.le_of_ble_eq_true rfl⟩ rfl rfl rfl ?_
  refine h_putR (j := 6) (t1 := 26) C dX5_init_62 rfl (Nat.le_of_ble_eq_true rfl) (Nat.le_of_ble_eq_true rfl) (Nat.le_of_ble_eq_true rfl) (Nat.le_of_ble_eq_true rfl) fl_5_32 rfl rfl rfl hnm rfl rfl (fun _ => rfl) (fun _ => rfl) rfl rfl rfl rfl ?_
  exact h_vret C dX5_init_65 hr hlk ⟨rfl, rfl, rfl⟩ ⟨rfl, rfl⟩ rfl
theorem cl_11_16 : Cond.classLink RX11 16 (RXf 1) ∈ TB := (tbc_1 142 rfl rfl)
theorem dX1_init_0 : decode cX1_init 0 = .ok (.aload_n 0, 1) := by decide +kernel
theorem dX1_init_1 : decode cX1_init 1 = .ok (.invokespecial 3, 3) := by decide +kernel
theorem dX1_init_4 : decode cX1_init 4 = .ok (.aload_n 0, 1) := by decide +kernel
theorem dX1_init_5 : decode cX1_init 5 = .ok (.sipush 150, 3) := by decide +kernel
theorem dX1_init_8 : decode cX1_init 8 = .ok (.newarray .int, 2) := by decide +kernel
theorem dX1_init_10 : decode cX1_init 10 = .ok (.putfield 9, 3) := by decide +kernel
theorem dX1_init_13 : decode cX1_init 13 = .ok (.aload_n 0, 1) := by decide +kernel
theorem dX1_init_14 : decode cX1_init 14 = .ok (.sipush 150, 3) := by decide +kernel
theorem dX1_init_17 : decode cX1_init 17 = .ok (.newarray .int, 2) := by decide +kernel
theorem dX1_init_19 : decode cX1_init 19 = .ok (.putfield 15, 3) := by decide +kernel
theorem dX1_init_22 : decode cX1_init 22 = .ok (.aload_n 0, 1) := by decide +kernel
theorem dX1_init_23 : decode cX1_init 23 = .ok (.sipush 150, 3) := by decide +kernel
theorem dX1_init_26 : decode cX1_init 26 = .ok (.newarray .int, 2) := by decide +kernel
theorem dX1_init_28 : decode cX1_init 28 = .ok (.putfield 18, 3) := by decide +kernel
theorem dX1_init_31 : decode cX1_init 31 = .ok (.aload_n 0, 1) := by decide +kernel
theorem dX1_init_32 : decode cX1_init 32 = .ok (.sipush 150, 3) := by decide +kernel
theorem dX1_init_35 : decode cX1_init 35 = .ok (.newarray .int, 2) := by decide +kernel
theorem dX1_init_37 : decode cX1_init 37 = .ok (.putfield 21, 3) := by decide +kernel
theorem dX1_init_40 : decode cX1_init 40 = .ok (.aload_n 0, 1) := by decide +kernel
theorem dX1_init_41 : decode cX1_init 41 = .ok (.sipush 150, 3) := by decide +kernel
theorem dX1_init_44 : decode cX1_init 44 = .ok (.newarray .int, 2) := by decide +kernel
theorem dX1_init_46 : decode cX1_init 46 = .ok (.putfield 24, 3) := by decide +kernel
theorem dX1_init_49 : decode cX1_init 49 = .ok (.aload_n 0, 1) := by decide +kernel
theorem dX1_init_50 : decode cX1_init 50 = .ok (.sipush 150, 3) := by decide +kernel
theorem dX1_init_53 : decode cX1_init 53 = .ok (.newarray .boolean, 2) := by decide +kernel
theorem dX1_init_55 : decode cX1_init 55 = .ok (.putfield 27, 3) := by decide +kernel
theorem dX1_init_58 : decode cX1_init 58 = .ok (.aload_n 0, 1) := by decide +kernel
theorem dX1_init_59 : decode cX1_init 59 = .ok (.bipush 96, 2) := by decide +kernel
theorem dX1_init_61 : decode cX1_init 61 = .ok (.newarray .int, 2) := by decide +kernel
theorem dX1_init_63 : decode cX1_init 63 = .ok (.putfield 31, 3) := by decide +kernel
theorem dX1_init_66 : decode cX1_init 66 = .ok (.return_, 1) := by decide +kernel
theorem mlo_1 : Cond.methodLink RX1 3 Lib.objectInit ∈ TB := (tbc_1 147 rfl rfl)
set_option maxRecDepth 100000 in
set_option maxHeartbeats 4000000 in
theorem ci_X1_init_30 {w : Wd} {l : Launch} : CtI w l yX1_init (Cond.code yX1_init cX1_init 1 none :: TB) { frames := 1, cells := 7, slots := 996, locals := 20 } [rv w 30] 31 26 100 38 33 100 none 7 996 := by
  refine CtI.of [some (rv w 30)] 0 rfl pn_RX1 (Nat.le_of_ble_eq_true rfl) ?_
  intro p e s m args below meth c C hr hlk hnm
  refine h_aload_n C dX1_init_0 rfl ?_
  refine h_objInit C dX1_init_1 mlo_1 im_obj cd_obj ⟨Nat.le_of_ble_eq_true rfl, Nat.le_of_ble_eq_true rfl⟩ ?_
  refine h_aload_n C dX1_init_4 rfl ?_
  refine h_sipush C dX1_init_5 rfl ?_
  refine h_newa20 (N := 150) (n1 := 32) (c1 := 1) (s1 := 150) C dX1_init_8 rfl rfl rfl (by decide) ac_int (Nat.le_of_ble_eq_true rfl) ⟨Nat.le_of_ble_eq_true rfl, Nat.le_of_ble_eq_true rfl⟩ rfl rfl rfl ?_
  refine h_putR (j := 0) (t1 := 27) C dX1_init_10 rfl (Nat.le_of_ble_eq_true rfl) (Nat.le_of_ble_eq_true rfl) (Nat.le_of_ble_eq_true rfl) (Nat.le_of_ble_eq_true rfl) fl_1_9 rfl rfl rfl hnm rfl rfl (fun _ => rfl) (fun _ => rfl) rfl rfl rfl rfl ?_
  refine h_aload_n C dX1_init_13 rfl ?_
  refine h_sipush C dX1_init_14 rfl ?_
  refine h_newa20 (N := 150) (n1 := 33) (c1 := 2) (s1 := 300) C dX1_init_17 rfl rfl rfl (by decide) ac_int (Nat.le_of_ble_eq_true rfl) ⟨Nat.le_of_ble_eq_true rfl, Nat.le_of_ble_eq_true rfl⟩ rfl rfl rfl ?_
  refine h_putR (j := 1) (t1 := 28) C dX1_init_19 rfl (Nat.le_of_ble_eq_true rfl) (Nat.le_of_ble_eq_true rfl) (Nat.le_of_ble_eq_true rfl) (Nat.le_of_ble_eq_true rfl) fl_1_15 rfl rfl rfl hnm rfl rfl (fun _ => rfl) (fun _ => rfl) rfl rfl rfl rfl ?_
  refine h_aload_n C dX1_init_22 rfl ?_
  refine h_sipush C dX1_init_23 rfl ?_
  refine h_newa20 (N := 150) (n1 := 34) (c1 := 3) (s1 := 450) C dX1_init_26 rfl rfl rfl (by decide) ac_int (Nat.le_of_ble_eq_true rfl) ⟨Nat.le_of_ble_eq_true rfl, Nat.le_of_ble_eq_true rfl⟩ rfl rfl rfl ?_
  refine h_putR (j := 2) (t1 := 29) C dX1_init_28 rfl (Nat.le_of_ble_eq_true rfl) (Nat.le_of_ble_eq_true rfl) (Nat.le_of_ble_eq_true rfl) (Nat.le_of_ble_eq_true rfl) fl_1_18 rfl rfl rfl hnm rfl rfl (fun _ => rfl) (fun _ => rfl) rfl rfl rfl rfl ?_
  refine h_aload_n C dX1_init_31 rfl ?_
  refine h_sipush C dX1_init_32 rfl ?_
  refine h_newa20 (N := 150) (n1 := 35) (c1 := 4) (s1 := 600) C dX1_init_35 rfl rfl rfl (by decide) ac_int (Nat.le_of_ble_eq_true rfl) ⟨Nat.le_of_ble_eq_true rfl, Nat.le_of_ble_eq_true rfl⟩ rfl rfl rfl ?_
  refine h_putR (j := 3) (t1 := 30) C dX1_init_37 rfl (Nat.le_of_ble_eq_true rfl) (Nat.le_of_ble_eq_true rfl) (Nat.le_of_ble_eq_true rfl) (Nat.le_of_ble_eq_true rfl) fl_1_21 rfl rfl rfl hnm rfl rfl (fun _ => rfl) (fun _ => rfl) rfl rfl rfl rfl ?_
  refine h_aload_n C dX1_init_40 rfl ?_
  refine h_sipush C dX1_init_41 rfl ?_
  refine h_newa20 (N := 150) (n1 := 36) (c1 := 5) (s1 := 750) C dX1_init_44 rfl rfl rfl (by decide) ac_int (Nat.le_of_ble_eq_true rfl) ⟨Nat.le_of_ble_eq_true rfl, Nat.le_of_ble_eq_true rfl⟩ rfl rfl rfl ?_
  refine h_putR (j := 4) (t1 := 31) C dX1_init_46 rfl (Nat.le_of_ble_eq_true rfl) (Nat.le_of_ble_eq_true rfl) (Nat.le_of_ble_eq_true rfl) (Nat.le_of_ble_eq_true rfl) fl_1_24 rfl rfl rfl hnm rfl rfl (fun _ => rfl) (fun _ => rfl) rfl rfl rfl rfl ?_
  refine h_aload_n C dX1_init_49 rfl ?_
  refine h_sipush C dX1_init_50 rfl ?_
  refine h_newa22 (N := 150) (n1 := 37) (c1 := 6) (s1 := 900) C dX1_init_53 rfl rfl rfl (by decide) ac_boolean (Nat.le_of_ble_eq_true rfl) ⟨Nat.le_of_ble_eq_true rfl, Nat.le_of_ble_eq_true rfl⟩ rfl rfl rfl ?_
  refine h_putR (j := 7) (t1 := 32) C dX1_init_55 rfl (Nat.le_of_ble_eq_true rfl) (Nat.le_of_ble_eq_true rfl) (Nat.le_of_ble_eq_true rfl) (Nat.le_of_ble_eq_true rfl) fl_1_27 rfl rfl rfl hnm rfl rfl (fun _ => rfl) (fun _ => rfl) rfl rfl rfl rfl ?_
  refine h_aload_n C dX1_init_58 rfl ?_
  refine h_bipush C dX1_init_59 rfl ?_
  refine h_newa20 (N := 96) (n1 := 38) (c1 := 7) (s1 := 996) C dX1_init_61 rfl rfl rfl (by decide) ac_int (Nat.le_of_ble_eq_true rfl) ⟨Nat.le_of_ble_eq_true rfl, Nat.le_of_ble_eq_true rfl⟩ rfl rfl rfl ?_
  refine h_putR (j := 8) (t1 := 33) C dX1_init_63 rfl (Nat.le_of_ble_eq_true rfl) (Nat.le_of_ble_eq_true rfl) (Nat.le_of_ble_eq_true rfl) (Nat.le_of_ble_eq_true rfl) fl_1_31 rfl rfl rfl hnm rfl rfl (fun _ => rfl) (fun _ => rfl) rfl rfl rfl rfl ?_
  exact h_vret C dX1_init_66 hr hlk ⟨rfl, rfl, rfl⟩ ⟨rfl, rfl⟩ rfl
theorem cl_11_21 : Cond.classLink RX11 21 "HushNet$Agent" ∈ TB := (tbc_1 184 rfl rfl)
theorem dX0_init_0 : decode cX0_init 0 = .ok (.aload_n 0, 1) := by decide +kernel
theorem dX0_init_1 : decode cX0_init 1 = .ok (.invokespecial 3, 3) := by decide +kernel
theorem dX0_init_4 : decode cX0_init 4 = .ok (.aload_n 0, 1) := by decide +kernel
theorem dX0_init_5 : decode cX0_init 5 = .ok (.iconst (-1), 1) := by decide +kernel
theorem dX0_init_6 : decode cX0_init 6 = .ok (.putfield 9, 3) := by decide +kernel
theorem dX0_init_9 : decode cX0_init 9 = .ok (.aload_n 0, 1) := by decide +kernel
theorem dX0_init_10 : decode cX0_init 10 = .ok (.new 15, 3) := by decide +kernel
theorem dX0_init_13 : decode cX0_init 13 = .ok (.dup, 1) := by decide +kernel
theorem dX0_init_14 : decode cX0_init 14 = .ok (.invokespecial 17, 3) := by decide +kernel
theorem dX0_init_17 : decode cX0_init 17 = .ok (.putfield 18, 3) := by decide +kernel
theorem dX0_init_20 : decode cX0_init 20 = .ok (.aload_n 0, 1) := by decide +kernel
theorem dX0_init_21 : decode cX0_init 21 = .ok (.bipush 96, 2) := by decide +kernel
theorem dX0_init_23 : decode cX0_init 23 = .ok (.newarray .int, 2) := by decide +kernel
theorem dX0_init_25 : decode cX0_init 25 = .ok (.putfield 22, 3) := by decide +kernel
theorem dX0_init_28 : decode cX0_init 28 = .ok (.aload_n 0, 1) := by decide +kernel
theorem dX0_init_29 : decode cX0_init 29 = .ok (.bipush 8, 2) := by decide +kernel
theorem dX0_init_31 : decode cX0_init 31 = .ok (.newarray .int, 2) := by decide +kernel
theorem dX0_init_33 : decode cX0_init 33 = .ok (.putfield 26, 3) := by decide +kernel
theorem dX0_init_36 : decode cX0_init 36 = .ok (.aload_n 0, 1) := by decide +kernel
theorem dX0_init_37 : decode cX0_init 37 = .ok (.bipush 8, 2) := by decide +kernel
theorem dX0_init_39 : decode cX0_init 39 = .ok (.newarray .int, 2) := by decide +kernel
theorem dX0_init_41 : decode cX0_init 41 = .ok (.putfield 29, 3) := by decide +kernel
theorem dX0_init_44 : decode cX0_init 44 = .ok (.return_, 1) := by decide +kernel
theorem mlo_0 : Cond.methodLink RX0 3 Lib.objectInit ∈ TB := (tbc_1 190 rfl rfl)
theorem cl_0_15 : Cond.classLink RX0 15 (RXf 3) ∈ TB := (tbc_1 191 rfl rfl)
theorem dX3_init_0 : decode cX3_init 0 = .ok (.aload_n 0, 1) := by decide +kernel
theorem dX3_init_1 : decode cX3_init 1 = .ok (.invokespecial 3, 3) := by decide +kernel
theorem dX3_init_4 : decode cX3_init 4 = .ok (.aload_n 0, 1) := by decide +kernel
theorem dX3_init_5 : decode cX3_init 5 = .ok (.bipush 64, 2) := by decide +kernel
theorem dX3_init_7 : decode cX3_init 7 = .ok (.newarray .int, 2) := by decide +kernel
theorem dX3_init_9 : decode cX3_init 9 = .ok (.putfield 11, 3) := by decide +kernel
theorem dX3_init_12 : decode cX3_init 12 = .ok (.aload_n 0, 1) := by decide +kernel
theorem dX3_init_13 : decode cX3_init 13 = .ok (.bipush 64, 2) := by decide +kernel
theorem dX3_init_15 : decode cX3_init 15 = .ok (.newarray .int, 2) := by decide +kernel
theorem dX3_init_17 : decode cX3_init 17 = .ok (.putfield 15, 3) := by decide +kernel
theorem dX3_init_20 : decode cX3_init 20 = .ok (.return_, 1) := by decide +kernel
theorem mlo_3 : Cond.methodLink RX3 3 Lib.objectInit ∈ TB := (tbc_1 196 rfl rfl)
set_option maxRecDepth 100000 in
set_option maxHeartbeats 4000000 in
theorem ci_X3_init_40 {w : Wd} {l : Launch} : CtI w l yX3_init (Cond.code yX3_init cX3_init 1 none :: TB) { frames := 1, cells := 2, slots := 128, locals := 20 } [rv w 40] 41 33 101 43 35 101 none 2 128 := by
  refine CtI.of [some (rv w 40)] 0 rfl pn_RX3 (Nat.le_of_ble_eq_true rfl) ?_
  intro p e s m args below meth c C hr hlk hnm
  refine h_aload_n C dX3_init_0 rfl ?_
  refine h_objInit C dX3_init_1 mlo_3 im_obj cd_obj ⟨Nat.le_of_ble_eq_true rfl, Nat.le_of_ble_eq_true rfl⟩ ?_
  refine h_aload_n C dX3_init_4 rfl ?_
  refine h_bipush C dX3_init_5 rfl ?_
  refine h_newa20 (N := 64) (n1 := 42) (c1 := 1) (s1 := 64) C dX3_init_7 rfl rfl rfl (by decide) ac_int (Nat.le_of_ble_eq_true rfl) ⟨Nat.le_of_ble_eq_true rfl, Nat.le_of_ble_eq_true rfl⟩ rfl rfl rfl ?_
  refine h_putR (j := 0) (t1 := 34) C dX3_init_9 rfl (Nat.le_of_ble_eq_true rfl) (Nat.le_of_ble_eq_true rfl) (Nat.le_of_ble_eq_true rfl) (Nat.le_of_ble_eq_true rfl) fl_3_11 rfl rfl rfl hnm rfl rfl (fun _ => rfl) (fun _ => rfl) rfl rfl rfl rfl ?_
  refine h_aload_n C dX3_init_12 rfl ?_
  refine h_bipush C dX3_init_13 rfl ?_
  refine h_newa20 (N := 64) (n1 := 43) (c1 := 2) (s1 := 128) C dX3_init_15 rfl rfl rfl (by decide) ac_int (Nat.le_of_ble_eq_true rfl) ⟨Nat.le_of_ble_eq_true rfl, Nat.le_of_ble_eq_true rfl⟩ rfl rfl rfl ?_
  refine h_putR (j := 1) (t1 := 35) C dX3_init_17 rfl (Nat.le_of_ble_eq_true rfl) (Nat.le_of_ble_eq_true rfl) (Nat.le_of_ble_eq_true rfl) (Nat.le_of_ble_eq_true rfl) fl_3_15 rfl rfl rfl hnm rfl rfl (fun _ => rfl) (fun _ => rfl) rfl rfl rfl rfl ?_
  exact h_vret C dX3_init_20 hr hlk ⟨rfl, rfl, rfl⟩ ⟨rfl, rfl⟩ rfl
set_option maxRecDepth 100000 in
set_option maxHeartbeats 4000000 in
theorem ci_X0_init_39 {w : Wd} {l : Launch} : CtI w l yX0_init (Cond.code yX0_init cX0_init 1 none :: TB) { frames := 2, cells := 6, slots := 243, locals := 40 } [rv w 39] 40 33 100 46 39 101 none 6 243 := by
  refine CtI.of [some (rv w 39)] 0 rfl pn_RX0 (Nat.le_of_ble_eq_true rfl) ?_
  intro p e s m args below meth c C hr hlk hnm
  refine h_aload_n C dX0_init_0 rfl ?_
  refine h_objInit C dX0_init_1 mlo_0 im_obj cd_obj ⟨Nat.le_of_ble_eq_true rfl, Nat.le_of_ble_eq_true rfl⟩ ?_
  refine h_aload_n C dX0_init_4 rfl ?_
  refine h_iconst C dX0_init_5 ?_
  refine h_putI (j := 2) (m1 := 101) C dX0_init_6 rfl (Nat.le_of_ble_eq_true rfl) (Nat.le_of_ble_eq_true rfl) (Nat.le_of_ble_eq_true rfl) (Nat.le_of_ble_eq_true rfl) fl_0_9 rfl rfl rfl rfl rfl ?_
  refine h_aload_n C dX0_init_9 rfl ?_
  refine h_new (ci := 3) (n1 := 41) (c1 := 1) (s1 := 3) C dX0_init_10 rfl (Nat.le_of_ble_eq_true rfl) cl_0_15 ins_3 ini_3 (by decide +kernel) ⟨Nat.le_of_ble_eq_true rfl, Nat.le_of_ble_eq_true rfl⟩ rfl rfl rfl ?_
  refine h_dup C dX0_init_13 rfl ?_
  refine h_callIN (n := 0) (As := []) (c1 := 3) (s1 := 131) C dX0_init_14 cd_X3_init im_X3_init ini_3 ⟨nh_3.1, nh_3.2, by decide +kernel⟩ rfl C.2.2.2.2.2.2.2.2.2.2.2.1 ci_X3_init_40 rfl ⟨rfl, rfl⟩ ⟨Nat.le_of_ble_eq_true rfl, Nat.le_of_ble_eq_true rfl⟩ ⟨Nat.le_of_ble_eq_true rfl, Nat.le_of_ble_eq_true rfl⟩ rfl (Nat.le_of_ble_eq_true rfl) rfl rfl ?_
  refine h_putR (j := 3) (t1 := 36) C dX0_init_17 rfl (Nat.le_of_ble_eq_true rfl) (Nat.le_of_ble_eq_true rfl) (Nat.le_of_ble_eq_true rfl) (Nat.le_of_ble_eq_true rfl) fl_0_18 rfl rfl rfl hnm rfl rfl (fun _ => rfl) (fun _ => rfl) rfl rfl rfl rfl ?_
  refine h_aload_n C dX0_init_20 rfl ?_
  refine h_bipush C dX0_init_21 rfl ?_
  refine h_newa20 (N := 96) (n1 := 44) (c1 := 4) (s1 := 227) C dX0_init_23 rfl rfl rfl (by decide) ac_int (Nat.le_of_ble_eq_true rfl) ⟨Nat.le_of_ble_eq_true rfl, Nat.le_of_ble_eq_true rfl⟩ rfl rfl rfl ?_
  refine h_putR (j := 13) (t1 := 37) C dX0_init_25 rfl (Nat.le_of_ble_eq_true rfl) (Nat.le_of_ble_eq_true rfl) (Nat.le_of_ble_eq_true rfl) (Nat.le_of_ble_eq_true rfl) fl_0_22 rfl rfl rfl hnm rfl rfl (fun _ => rfl) (fun _ => rfl) rfl rfl rfl rfl ?_
  refine h_aload_n C dX0_init_28 rfl ?_
  refine h_bipush C dX0_init_29 rfl ?_
  refine h_newa20 (N := 8) (n1 := 45) (c1 := 5) (s1 := 235) C dX0_init_31 rfl rfl rfl (by decide) ac_int (Nat.le_of_ble_eq_true rfl) ⟨Nat.le_of_ble_eq_true rfl, Nat.le_of_ble_eq_true rfl⟩ rfl rfl rfl ?_
  refine h_putR (j := 14) (t1 := 38) C dX0_init_33 rfl (Nat.le_of_ble_eq_true rfl) (Nat.le_of_ble_eq_true rfl) (Nat.le_of_ble_eq_true rfl) (Nat.le_of_ble_eq_true rfl) fl_0_26 rfl rfl rfl hnm rfl rfl (fun _ => rfl) (fun _ => rfl) rfl rfl rfl rfl ?_
  refine h_aload_n C dX0_init_36 rfl ?_
  refine h_bipush C dX0_init_37 rfl ?_
  refine h_newa20 (N := 8) (n1 := 46) (c1 := 6) (s1 := 243) C dX0_init_39 rfl rfl rfl (by decide) ac_int (Nat.le_of_ble_eq_true rfl) ⟨Nat.le_of_ble_eq_true rfl, Nat.le_of_ble_eq_true rfl⟩ rfl rfl rfl ?_
  refine h_putR (j := 15) (t1 := 39) C dX0_init_41 rfl (Nat.le_of_ble_eq_true rfl) (Nat.le_of_ble_eq_true rfl) (Nat.le_of_ble_eq_true rfl) (Nat.le_of_ble_eq_true rfl) fl_0_29 rfl rfl rfl hnm rfl rfl (fun _ => rfl) (fun _ => rfl) rfl rfl rfl rfl ?_
  exact h_vret C dX0_init_44 hr hlk ⟨rfl, rfl, rfl⟩ ⟨rfl, rfl⟩ rfl
set_option maxRecDepth 100000 in
set_option maxHeartbeats 4000000 in
theorem ci_X3_init_47 {w : Wd} {l : Launch} : CtI w l yX3_init (Cond.code yX3_init cX3_init 1 none :: TB) { frames := 1, cells := 2, slots := 128, locals := 20 } [rv w 47] 48 40 102 50 42 102 none 2 128 := by
  refine CtI.of [some (rv w 47)] 0 rfl pn_RX3 (Nat.le_of_ble_eq_true rfl) ?_
  intro p e s m args below meth c C hr hlk hnm
  refine h_aload_n C dX3_init_0 rfl ?_
  refine h_objInit C dX3_init_1 mlo_3 im_obj cd_obj ⟨Nat.le_of_ble_eq_true rfl, Nat.le_of_ble_eq_true rfl⟩ ?_
  refine h_aload_n C dX3_init_4 rfl ?_
  refine h_bipush C dX3_init_5 rfl ?_
  refine h_newa20 (N := 64) (n1 := 49) (c1 := 1) (s1 := 64) C dX3_init_7 rfl rfl rfl (by decide) ac_int (Nat.le_of_ble_eq_true rfl) ⟨Nat.le_of_ble_eq_true rfl, Nat.le_of_ble_eq_true rfl⟩ rfl rfl rfl ?_
  refine h_putR (j := 0) (t1 := 41) C dX3_init_9 rfl (Nat.le_of_ble_eq_true rfl) (Nat.le_of_ble_eq_true rfl) (Nat.le_of_ble_eq_true rfl) (Nat.le_of_ble_eq_true rfl) fl_3_11 rfl rfl rfl hnm rfl rfl (fun _ => rfl) (fun _ => rfl) rfl rfl rfl rfl ?_
  refine h_aload_n C dX3_init_12 rfl ?_
  refine h_bipush C dX3_init_13 rfl ?_
  refine h_newa20 (N := 64) (n1 := 50) (c1 := 2) (s1 := 128) C dX3_init_15 rfl rfl rfl (by decide) ac_int (Nat.le_of_ble_eq_true rfl) ⟨Nat.le_of_ble_eq_true rfl, Nat.le_of_ble_eq_true rfl⟩ rfl rfl rfl ?_
  refine h_putR (j := 1) (t1 := 42) C dX3_init_17 rfl (Nat.le_of_ble_eq_true rfl) (Nat.le_of_ble_eq_true rfl) (Nat.le_of_ble_eq_true rfl) (Nat.le_of_ble_eq_true rfl) fl_3_15 rfl rfl rfl hnm rfl rfl (fun _ => rfl) (fun _ => rfl) rfl rfl rfl rfl ?_
  exact h_vret C dX3_init_20 hr hlk ⟨rfl, rfl, rfl⟩ ⟨rfl, rfl⟩ rfl
set_option maxRecDepth 100000 in
set_option maxHeartbeats 4000000 in
theorem ci_X0_init_46 {w : Wd} {l : Launch} : CtI w l yX0_init (Cond.code yX0_init cX0_init 1 none :: TB) { frames := 2, cells := 6, slots := 243, locals := 40 } [rv w 46] 47 40 101 53 46 102 none 6 243 := by
  refine CtI.of [some (rv w 46)] 0 rfl pn_RX0 (Nat.le_of_ble_eq_true rfl) ?_
  intro p e s m args below meth c C hr hlk hnm
  refine h_aload_n C dX0_init_0 rfl ?_
  refine h_objInit C dX0_init_1 mlo_0 im_obj cd_obj ⟨Nat.le_of_ble_eq_true rfl, Nat.le_of_ble_eq_true rfl⟩ ?_
  refine h_aload_n C dX0_init_4 rfl ?_
  refine h_iconst C dX0_init_5 ?_
  refine h_putI (j := 2) (m1 := 102) C dX0_init_6 rfl (Nat.le_of_ble_eq_true rfl) (Nat.le_of_ble_eq_true rfl) (Nat.le_of_ble_eq_true rfl) (Nat.le_of_ble_eq_true rfl) fl_0_9 rfl rfl rfl rfl rfl ?_
  refine h_aload_n C dX0_init_9 rfl ?_
  refine h_new (ci := 3) (n1 := 48) (c1 := 1) (s1 := 3) C dX0_init_10 rfl (Nat.le_of_ble_eq_true rfl) cl_0_15 ins_3 ini_3 (by decide +kernel) ⟨Nat.le_of_ble_eq_true rfl, Nat.le_of_ble_eq_true rfl⟩ rfl rfl rfl ?_
  refine h_dup C dX0_init_13 rfl ?_
  refine h_callIN (n := 0) (As := []) (c1 := 3) (s1 := 131) C dX0_init_14 cd_X3_init im_X3_init ini_3 ⟨nh_3.1, nh_3.2, by decide +kernel⟩ rfl C.2.2.2.2.2.2.2.2.2.2.2.1 ci_X3_init_47 rfl ⟨rfl, rfl⟩ ⟨Nat.le_of_ble_eq_true rfl, Nat.le_of_ble_eq_true rfl⟩ ⟨Nat.le_of_ble_eq_true rfl, Nat.le_of_ble_eq_true rfl⟩ rfl (Nat.le_of_ble_eq_true rfl) rfl rfl ?_
  refine h_putR (j := 3) (t1 := 43) C dX0_init_17 rfl (Nat.le_of_ble_eq_true rfl) (Nat.le_of_ble_eq_true rfl) (Nat.le_of_ble_eq_true rfl) (Nat.le_of_ble_eq_true rfl) fl_0_18 rfl rfl rfl hnm rfl rfl (fun _ => rfl) (fun _ => rfl) rfl rfl rfl rfl ?_
  refine h_aload_n C dX0_init_20 rfl ?_
  refine h_bipush C dX0_init_21 rfl ?_
  refine h_newa20 (N := 96) (n1 := 51) (c1 := 4) (s1 := 227) C dX0_init_23 rfl rfl rfl (by decide) ac_int (Nat.le_of_ble_eq_true rfl) ⟨Nat.le_of_ble_eq_true rfl, Nat.le_of_ble_eq_true rfl⟩ rfl rfl rfl ?_
  refine h_putR (j := 13) (t1 := 44) C dX0_init_25 rfl (Nat.le_of_ble_eq_true rfl) (Nat.le_of_ble_eq_true rfl) (Nat.le_of_ble_eq_true rfl) (Nat.le_of_ble_eq_true rfl) fl_0_22 rfl rfl rfl hnm rfl rfl (fun _ => rfl) (fun _ => rfl) rfl rfl rfl rfl ?_
  refine h_aload_n C dX0_init_28 rfl ?_
  refine h_bipush C dX0_init_29 rfl ?_
  refine h_newa20 (N := 8) (n1 := 52) (c1 := 5) (s1 := 235) C dX0_init_31 rfl rfl rfl (by decide) ac_int (Nat.le_of_ble_eq_true rfl) ⟨Nat.le_of_ble_eq_true rfl, Nat.le_of_ble_eq_true rfl⟩ rfl rfl rfl ?_
  refine h_putR (j := 14) (t1 := 45) C dX0_init_33 rfl (Nat.le_of_ble_eq_true rfl) (Nat.le_of_ble_eq_true rfl) (Nat.le_of_ble_eq_true rfl) (Nat.le_of_ble_eq_true rfl) fl_0_26 rfl rfl rfl hnm rfl rfl (fun _ => rfl) (fun _ => rfl) rfl rfl rfl rfl ?_
  refine h_aload_n C dX0_init_36 rfl ?_
  refine h_bipush C dX0_init_37 rfl ?_
  refine h_newa20 (N := 8) (n1 := 53) (c1 := 6) (s1 := 243) C dX0_init_39 rfl rfl rfl (by decide) ac_int (Nat.le_of_ble_eq_true rfl) ⟨Nat.le_of_ble_eq_true rfl, Nat.le_of_ble_eq_true rfl⟩ rfl rfl rfl ?_
  refine h_putR (j := 15) (t1 := 46) C dX0_init_41 rfl (Nat.le_of_ble_eq_true rfl) (Nat.le_of_ble_eq_true rfl) (Nat.le_of_ble_eq_true rfl) (Nat.le_of_ble_eq_true rfl) fl_0_29 rfl rfl rfl hnm rfl rfl (fun _ => rfl) (fun _ => rfl) rfl rfl rfl rfl ?_
  exact h_vret C dX0_init_44 hr hlk ⟨rfl, rfl, rfl⟩ ⟨rfl, rfl⟩ rfl
set_option maxRecDepth 100000 in
set_option maxHeartbeats 4000000 in
theorem ci_X3_init_54 {w : Wd} {l : Launch} : CtI w l yX3_init (Cond.code yX3_init cX3_init 1 none :: TB) { frames := 1, cells := 2, slots := 128, locals := 20 } [rv w 54] 55 47 103 57 49 103 none 2 128 := by
  refine CtI.of [some (rv w 54)] 0 rfl pn_RX3 (Nat.le_of_ble_eq_true rfl) ?_
  intro p e s m args below meth c C hr hlk hnm
  refine h_aload_n C dX3_init_0 rfl ?_
  refine h_objInit C dX3_init_1 mlo_3 im_obj cd_obj ⟨Nat.le_of_ble_eq_true rfl, Nat.le_of_ble_eq_true rfl⟩ ?_
  refine h_aload_n C dX3_init_4 rfl ?_
  refine h_bipush C dX3_init_5 rfl ?_
  refine h_newa20 (N := 64) (n1 := 56) (c1 := 1) (s1 := 64) C dX3_init_7 rfl rfl rfl (by decide) ac_int (Nat.le_of_ble_eq_true rfl) ⟨Nat.le_of_ble_eq_true rfl, Nat.le_of_ble_eq_true rfl⟩ rfl rfl rfl ?_
  refine h_putR (j := 0) (t1 := 48) C dX3_init_9 rfl (Nat.le_of_ble_eq_true rfl) (Nat.le_of_ble_eq_true rfl) (Nat.le_of_ble_eq_true rfl) (Nat.le_of_ble_eq_true rfl) fl_3_11 rfl rfl rfl hnm rfl rfl (fun _ => rfl) (fun _ => rfl) rfl rfl rfl rfl ?_
  refine h_aload_n C dX3_init_12 rfl ?_
  refine h_bipush C dX3_init_13 rfl ?_
  refine h_newa20 (N := 64) (n1 := 57) (c1 := 2) (s1 := 128) C dX3_init_15 rfl rfl rfl (by decide) ac_int (Nat.le_of_ble_eq_true rfl) ⟨Nat.le_of_ble_eq_true rfl, Nat.le_of_ble_eq_true rfl⟩ rfl rfl rfl ?_
  refine h_putR (j := 1) (t1 := 49) C dX3_init_17 rfl (Nat.le_of_ble_eq_true rfl) (Nat.le_of_ble_eq_true rfl) (Nat.le_of_ble_eq_true rfl) (Nat.le_of_ble_eq_true rfl) fl_3_15 rfl rfl rfl hnm rfl rfl (fun _ => rfl) (fun _ => rfl) rfl rfl rfl rfl ?_
  exact h_vret C dX3_init_20 hr hlk ⟨rfl, rfl, rfl⟩ ⟨rfl, rfl⟩ rfl
set_option maxRecDepth 100000 in
set_option maxHeartbeats 4000000 in
theorem ci_X0_init_53 {w : Wd} {l : Launch} : CtI w l yX0_init (Cond.code yX0_init cX0_init 1 none :: TB) { frames := 2, cells := 6, slots := 243, locals := 40 } [rv w 53] 54 47 102 60 53 103 none 6 243 := by
  refine CtI.of [some (rv w 53)] 0 rfl pn_RX0 (Nat.le_of_ble_eq_true rfl) ?_
  intro p e s m args below meth c C hr hlk hnm
  refine h_aload_n C dX0_init_0 rfl ?_
  refine h_objInit C dX0_init_1 mlo_0 im_obj cd_obj ⟨Nat.le_of_ble_eq_true rfl, Nat.le_of_ble_eq_true rfl⟩ ?_
  refine h_aload_n C dX0_init_4 rfl ?_
  refine h_iconst C dX0_init_5 ?_
  refine h_putI (j := 2) (m1 := 103) C dX0_init_6 rfl (Nat.le_of_ble_eq_true rfl) (Nat.le_of_ble_eq_true rfl) (Nat.le_of_ble_eq_true rfl) (Nat.le_of_ble_eq_true rfl) fl_0_9 rfl rfl rfl rfl rfl ?_
  refine h_aload_n C dX0_init_9 rfl ?_
  refine h_new (ci := 3) (n1 := 55) (c1 := 1) (s1 := 3) C dX0_init_10 rfl (Nat.le_of_ble_eq_true rfl) cl_0_15 ins_3 ini_3 (by decide +kernel) ⟨Nat.le_of_ble_eq_true rfl, Nat.le_of_ble_eq_true rfl⟩ rfl rfl rfl ?_
  refine h_dup C dX0_init_13 rfl ?_
  refine h_callIN (n := 0) (As := []) (c1 := 3) (s1 := 131) C dX0_init_14 cd_X3_init im_X3_init ini_3 ⟨nh_3.1, nh_3.2, by decide +kernel⟩ rfl C.2.2.2.2.2.2.2.2.2.2.2.1 ci_X3_init_54 rfl ⟨rfl, rfl⟩ ⟨Nat.le_of_ble_eq_true rfl, Nat.le_of_ble_eq_true rfl⟩ ⟨Nat.le_of_ble_eq_true rfl, Nat.le_of_ble_eq_true rfl⟩ rfl (Nat.le_of_ble_eq_true rfl) rfl rfl ?_
  refine h_putR (j := 3) (t1 := 50) C dX0_init_17 rfl (Nat.le_of_ble_eq_true rfl) (Nat.le_of_ble_eq_true rfl) (Nat.le_of_ble_eq_true rfl) (Nat.le_of_ble_eq_true rfl) fl_0_18 rfl rfl rfl hnm rfl rfl (fun _ => rfl) (fun _ => rfl) rfl rfl rfl rfl ?_
  refine h_aload_n C dX0_init_20 rfl ?_
  refine h_bipush C dX0_init_21 rfl ?_
  refine h_newa20 (N := 96) (n1 := 58) (c1 := 4) (s1 := 227) C dX0_init_23 rfl rfl rfl (by decide) ac_int (Nat.le_of_ble_eq_true rfl) ⟨Nat.le_of_ble_eq_true rfl, Nat.le_of_ble_eq_true rfl⟩ rfl rfl rfl ?_
  refine h_putR (j := 13) (t1 := 51) C dX0_init_25 rfl (Nat.le_of_ble_eq_true rfl) (Nat.le_of_ble_eq_true rfl) (Nat.le_of_ble_eq_true rfl) (Nat.le_of_ble_eq_true rfl) fl_0_22 rfl rfl rfl hnm rfl rfl (fun _ => rfl) (fun _ => rfl) rfl rfl rfl rfl ?_
  refine h_aload_n C dX0_init_28 rfl ?_
  refine h_bipush C dX0_init_29 rfl ?_
  refine h_newa20 (N := 8) (n1 := 59) (c1 := 5) (s1 := 235) C dX0_init_31 rfl rfl rfl (by decide) ac_int (Nat.le_of_ble_eq_true rfl) ⟨Nat.le_of_ble_eq_true rfl, Nat.le_of_ble_eq_true rfl⟩ rfl rfl rfl ?_
  refine h_putR (j := 14) (t1 := 52) C dX0_init_33 rfl (Nat.le_of_ble_eq_true rfl) (Nat.le_of_ble_eq_true rfl) (Nat.le_of_ble_eq_true rfl) (Nat.le_of_ble_eq_true rfl) fl_0_26 rfl rfl rfl hnm rfl rfl (fun _ => rfl) (fun _ => rfl) rfl rfl rfl rfl ?_
  refine h_aload_n C dX0_init_36 rfl ?_
  refine h_bipush C dX0_init_37 rfl ?_
  refine h_newa20 (N := 8) (n1 := 60) (c1 := 6) (s1 := 243) C dX0_init_39 rfl rfl rfl (by decide) ac_int (Nat.le_of_ble_eq_true rfl) ⟨Nat.le_of_ble_eq_true rfl, Nat.le_of_ble_eq_true rfl⟩ rfl rfl rfl ?_
  refine h_putR (j := 15) (t1 := 53) C dX0_init_41 rfl (Nat.le_of_ble_eq_true rfl) (Nat.le_of_ble_eq_true rfl) (Nat.le_of_ble_eq_true rfl) (Nat.le_of_ble_eq_true rfl) fl_0_29 rfl rfl rfl hnm rfl rfl (fun _ => rfl) (fun _ => rfl) rfl rfl rfl rfl ?_
  exact h_vret C dX0_init_44 hr hlk ⟨rfl, rfl, rfl⟩ ⟨rfl, rfl⟩ rfl
set_option maxRecDepth 100000 in
set_option maxHeartbeats 4000000 in
theorem ci_X3_init_61 {w : Wd} {l : Launch} : CtI w l yX3_init (Cond.code yX3_init cX3_init 1 none :: TB) { frames := 1, cells := 2, slots := 128, locals := 20 } [rv w 61] 62 54 104 64 56 104 none 2 128 := by
  refine CtI.of [some (rv w 61)] 0 rfl pn_RX3 (Nat.le_of_ble_eq_true rfl) ?_
  intro p e s m args below meth c C hr hlk hnm
  refine h_aload_n C dX3_init_0 rfl ?_
  refine h_objInit C dX3_init_1 mlo_3 im_obj cd_obj ⟨Nat.le_of_ble_eq_true rfl, Nat.le_of_ble_eq_true rfl⟩ ?_
  refine h_aload_n C dX3_init_4 rfl ?_
  refine h_bipush C dX3_init_5 rfl ?_
  refine h_newa20 (N := 64) (n1 := 63) (c1 := 1) (s1 := 64) C dX3_init_7 rfl rfl rfl (by decide) ac_int (Nat.le_of_ble_eq_true rfl) ⟨Nat.le_of_ble_eq_true rfl, Nat.le_of_ble_eq_true rfl⟩ rfl rfl rfl ?_
  refine h_putR (j := 0) (t1 := 55) C dX3_init_9 rfl (Nat.le_of_ble_eq_true rfl) (Nat.le_of_ble_eq_true rfl) (Nat.le_of_ble_eq_true rfl) (Nat.le_of_ble_eq_true rfl) fl_3_11 rfl rfl rfl hnm rfl rfl (fun _ => rfl) (fun _ => rfl) rfl rfl rfl rfl ?_
  refine h_aload_n C dX3_init_12 rfl ?_
  refine h_bipush C dX3_init_13 rfl ?_
  refine h_newa20 (N := 64) (n1 := 64) (c1 := 2) (s1 := 128) C dX3_init_15 rfl rfl rfl (by decide) ac_int (Nat.le_of_ble_eq_true rfl) ⟨Nat.le_of_ble_eq_true rfl, Nat.le_of_ble_eq_true rfl⟩ rfl rfl rfl ?_
  refine h_putR (j := 1) (t1 := 56) C dX3_init_17 rfl (Nat.le_of_ble_eq_true rfl) (Nat.le_of_ble_eq_true rfl) (Nat.le_of_ble_eq_true rfl) (Nat.le_of_ble_eq_true rfl) fl_3_15 rfl rfl rfl hnm rfl rfl (fun _ => rfl) (fun _ => rfl) rfl rfl rfl rfl ?_
  exact h_vret C dX3_init_20 hr hlk ⟨rfl, rfl, rfl⟩ ⟨rfl, rfl⟩ rfl
set_option maxRecDepth 100000 in
set_option maxHeartbeats 4000000 in
theorem ci_X0_init_60 {w : Wd} {l : Launch} : CtI w l yX0_init (Cond.code yX0_init cX0_init 1 none :: TB) { frames := 2, cells := 6, slots := 243, locals := 40 } [rv w 60] 61 54 103 67 60 104 none 6 243 := by
  refine CtI.of [some (rv w 60)] 0 rfl pn_RX0 (Nat.le_of_ble_eq_true rfl) ?_
  intro p e s m args below meth c C hr hlk hnm
  refine h_aload_n C dX0_init_0 rfl ?_
  refine h_objInit C dX0_init_1 mlo_0 im_obj cd_obj ⟨Nat.le_of_ble_eq_true rfl, Nat.le_of_ble_eq_true rfl⟩ ?_
  refine h_aload_n C dX0_init_4 rfl ?_
  refine h_iconst C dX0_init_5 ?_
  refine h_putI (j := 2) (m1 := 104) C dX0_init_6 rfl (Nat.le_of_ble_eq_true rfl) (Nat.le_of_ble_eq_true rfl) (Nat.le_of_ble_eq_true rfl) (Nat.le_of_ble_eq_true rfl) fl_0_9 rfl rfl rfl rfl rfl ?_
  refine h_aload_n C dX0_init_9 rfl ?_
  refine h_new (ci := 3) (n1 := 62) (c1 := 1) (s1 := 3) C dX0_init_10 rfl (Nat.le_of_ble_eq_true rfl) cl_0_15 ins_3 ini_3 (by decide +kernel) ⟨Nat.le_of_ble_eq_true rfl, Nat.le_of_ble_eq_true rfl⟩ rfl rfl rfl ?_
  refine h_dup C dX0_init_13 rfl ?_
  refine h_callIN (n := 0) (As := []) (c1 := 3) (s1 := 131) C dX0_init_14 cd_X3_init im_X3_init ini_3 ⟨nh_3.1, nh_3.2, by decide +kernel⟩ rfl C.2.2.2.2.2.2.2.2.2.2.2.1 ci_X3_init_61 rfl ⟨rfl, rfl⟩ ⟨Nat.le_of_ble_eq_true rfl, Nat.le_of_ble_eq_true rfl⟩ ⟨Nat.le_of_ble_eq_true rfl, Nat.le_of_ble_eq_true rfl⟩ rfl (Nat.le_of_ble_eq_true rfl) rfl rfl ?_
  refine h_putR (j := 3) (t1 := 57) C dX0_init_17 rfl (Nat.le_of_ble_eq_true rfl) (Nat.le_of_ble_eq_true rfl) (Nat.le_of_ble_eq_true rfl) (Nat.le_of_ble_eq_true rfl) fl_0_18 rfl rfl rfl hnm rfl rfl (fun _ => rfl) (fun _ => rfl) rfl rfl rfl rfl ?_
  refine h_aload_n C dX0_init_20 rfl ?_
  refine h_bipush C dX0_init_21 rfl ?_
  refine h_newa20 (N := 96) (n1 := 65) (c1 := 4) (s1 := 227) C dX0_init_23 rfl rfl rfl (by decide) ac_int (Nat.le_of_ble_eq_true rfl) ⟨Nat.le_of_ble_eq_true rfl, Nat.le_of_ble_eq_true rfl⟩ rfl rfl rfl ?_
  refine h_putR (j := 13) (t1 := 58) C dX0_init_25 rfl (Nat.le_of_ble_eq_true rfl) (Nat.le_of_ble_eq_true rfl) (Nat.le_of_ble_eq_true rfl) (Nat.le_of_ble_eq_true rfl) fl_0_22 rfl rfl rfl hnm rfl rfl (fun _ => rfl) (fun _ => rfl) rfl rfl rfl rfl ?_
  refine h_aload_n C dX0_init_28 rfl ?_
  refine h_bipush C dX0_init_29 rfl ?_
  refine h_newa20 (N := 8) (n1 := 66) (c1 := 5) (s1 := 235) C dX0_init_31 rfl rfl rfl (by decide) ac_int (Nat.le_of_ble_eq_true rfl) ⟨Nat.le_of_ble_eq_true rfl, Nat.le_of_ble_eq_true rfl⟩ rfl rfl rfl ?_
  refine h_putR (j := 14) (t1 := 59) C dX0_init_33 rfl (Nat.le_of_ble_eq_true rfl) (Nat.le_of_ble_eq_true rfl) (Nat.le_of_ble_eq_true rfl) (Nat.le_of_ble_eq_true rfl) fl_0_26 rfl rfl rfl hnm rfl rfl (fun _ => rfl) (fun _ => rfl) rfl rfl rfl rfl ?_
  refine h_aload_n C dX0_init_36 rfl ?_
  refine h_bipush C dX0_init_37 rfl ?_
  refine h_newa20 (N := 8) (n1 := 67) (c1 := 6) (s1 := 243) C dX0_init_39 rfl rfl rfl (by decide) ac_int (Nat.le_of_ble_eq_true rfl) ⟨Nat.le_of_ble_eq_true rfl, Nat.le_of_ble_eq_true rfl⟩ rfl rfl rfl ?_
  refine h_putR (j := 15) (t1 := 60) C dX0_init_41 rfl (Nat.le_of_ble_eq_true rfl) (Nat.le_of_ble_eq_true rfl) (Nat.le_of_ble_eq_true rfl) (Nat.le_of_ble_eq_true rfl) fl_0_29 rfl rfl rfl hnm rfl rfl (fun _ => rfl) (fun _ => rfl) rfl rfl rfl rfl ?_
  exact h_vret C dX0_init_44 hr hlk ⟨rfl, rfl, rfl⟩ ⟨rfl, rfl⟩ rfl
set_option maxRecDepth 100000 in
set_option maxHeartbeats 4000000 in
theorem ci_X3_init_68 {w : Wd} {l : Launch} : CtI w l yX3_init (Cond.code yX3_init cX3_init 1 none :: TB) { frames := 1, cells := 2, slots := 128, locals := 20 } [rv w 68] 69 61 105 71 63 105 none 2 128 := by
  refine CtI.of [some (rv w 68)] 0 rfl pn_RX3 (Nat.le_of_ble_eq_true rfl) ?_
  intro p e s m args below meth c C hr hlk hnm
  refine h_aload_n C dX3_init_0 rfl ?_
  refine h_objInit C dX3_init_1 mlo_3 im_obj cd_obj ⟨Nat.le_of_ble_eq_true rfl, Nat.le_of_ble_eq_true rfl⟩ ?_
  refine h_aload_n C dX3_init_4 rfl ?_
  refine h_bipush C dX3_init_5 rfl ?_
  refine h_newa20 (N := 64) (n1 := 70) (c1 := 1) (s1 := 64) C dX3_init_7 rfl rfl rfl (by decide) ac_int (Nat.le_of_ble_eq_true rfl) ⟨Nat.le_of_ble_eq_true rfl, Nat.le_of_ble_eq_true rfl⟩ rfl rfl rfl ?_
  refine h_putR (j := 0) (t1 := 62) C dX3_init_9 rfl (Nat.le_of_ble_eq_true rfl) (Nat.le_of_ble_eq_true rfl) (Nat.le_of_ble_eq_true rfl) (Nat.le_of_ble_eq_true rfl) fl_3_11 rfl rfl rfl hnm rfl rfl (fun _ => rfl) (fun _ => rfl) rfl rfl rfl rfl ?_
  refine h_aload_n C dX3_init_12 rfl ?_
  refine h_bipush C dX3_init_13 rfl ?_
  refine h_newa20 (N := 64) (n1 := 71) (c1 := 2) (s1 := 128) C dX3_init_15 rfl rfl rfl (by decide) ac_int (Nat.le_of_ble_eq_true rfl) ⟨Nat.le_of_ble_eq_true rfl, Nat.le_of_ble_eq_true rfl⟩ rfl rfl rfl ?_
  refine h_putR (j := 1) (t1 := 63) C dX3_init_17 rfl (Nat.le_of_ble_eq_true rfl) (Nat.le_of_ble_eq_true rfl) (Nat.le_of_ble_eq_true rfl) (Nat.le_of_ble_eq_true rfl) fl_3_15 rfl rfl rfl hnm rfl rfl (fun _ => rfl) (fun _ => rfl) rfl rfl rfl rfl ?_
  exact h_vret C dX3_init_20 hr hlk ⟨rfl, rfl, rfl⟩ ⟨rfl, rfl⟩ rfl
set_option maxRecDepth 100000 in
set_option maxHeartbeats 4000000 in
theorem ci_X0_init_67 {w : Wd} {l : Launch} : CtI w l yX0_init (Cond.code yX0_init cX0_init 1 none :: TB) { frames := 2, cells := 6, slots := 243, locals := 40 } [rv w 67] 68 61 104 74 67 105 none 6 243 := by
  refine CtI.of [some (rv w 67)] 0 rfl pn_RX0 (Nat.le_of_ble_eq_true rfl) ?_
  intro p e s m args below meth c C hr hlk hnm
  refine h_aload_n C dX0_init_0 rfl ?_
  refine h_objInit C dX0_init_1 mlo_0 im_obj cd_obj ⟨Nat.le_of_ble_eq_true rfl, Nat.le_of_ble_eq_true rfl⟩ ?_
  refine h_aload_n C dX0_init_4 rfl ?_
  refine h_iconst C dX0_init_5 ?_
  refine h_putI (j := 2) (m1 := 105) C dX0_init_6 rfl (Nat.le_of_ble_eq_true rfl) (Nat.le_of_ble_eq_true rfl) (Nat.le_of_ble_eq_true rfl) (Nat.le_of_ble_eq_true rfl) fl_0_9 rfl rfl rfl rfl rfl ?_
  refine h_aload_n C dX0_init_9 rfl ?_
  refine h_new (ci := 3) (n1 := 69) (c1 := 1) (s1 := 3) C dX0_init_10 rfl (Nat.le_of_ble_eq_true rfl) cl_0_15 ins_3 ini_3 (by decide +kernel) ⟨Nat.le_of_ble_eq_true rfl, Nat.le_of_ble_eq_true rfl⟩ rfl rfl rfl ?_
  refine h_dup C dX0_init_13 rfl ?_
  refine h_callIN (n := 0) (As := []) (c1 := 3) (s1 := 131) C dX0_init_14 cd_X3_init im_X3_init ini_3 ⟨nh_3.1, nh_3.2, by decide +kernel⟩ rfl C.2.2.2.2.2.2.2.2.2.2.2.1 ci_X3_init_68 rfl ⟨rfl, rfl⟩ ⟨Nat.le_of_ble_eq_true rfl, Nat.le_of_ble_eq_true rfl⟩ ⟨Nat.le_of_ble_eq_true rfl, Nat.le_of_ble_eq_true rfl⟩ rfl (Nat.le_of_ble_eq_true rfl) rfl rfl ?_
  refine h_putR (j := 3) (t1 := 64) C dX0_init_17 rfl (Nat.le_of_ble_eq_true rfl) (Nat.le_of_ble_eq_true rfl) (Nat.le_of_ble_eq_true rfl) (Nat.le_of_ble_eq_true rfl) fl_0_18 rfl rfl rfl hnm rfl rfl (fun _ => rfl) (fun _ => rfl) rfl rfl rfl rfl ?_
  refine h_aload_n C dX0_init_20 rfl ?_
  refine h_bipush C dX0_init_21 rfl ?_
  refine h_newa20 (N := 96) (n1 := 72) (c1 := 4) (s1 := 227) C dX0_init_23 rfl rfl rfl (by decide) ac_int (Nat.le_of_ble_eq_true rfl) ⟨Nat.le_of_ble_eq_true rfl, Nat.le_of_ble_eq_true rfl⟩ rfl rfl rfl ?_
  refine h_putR (j := 13) (t1 := 65) C dX0_init_25 rfl (Nat.le_of_ble_eq_true rfl) (Nat.le_of_ble_eq_true rfl) (Nat.le_of_ble_eq_true rfl) (Nat.le_of_ble_eq_true rfl) fl_0_22 rfl rfl rfl hnm rfl rfl (fun _ => rfl) (fun _ => rfl) rfl rfl rfl rfl ?_
  refine h_aload_n C dX0_init_28 rfl ?_
  refine h_bipush C dX0_init_29 rfl ?_
  refine h_newa20 (N := 8) (n1 := 73) (c1 := 5) (s1 := 235) C dX0_init_31 rfl rfl rfl (by decide) ac_int (Nat.le_of_ble_eq_true rfl) ⟨Nat.le_of_ble_eq_true rfl, Nat.le_of_ble_eq_true rfl⟩ rfl rfl rfl ?_
  refine h_putR (j := 14) (t1 := 66) C dX0_init_33 rfl (Nat.le_of_ble_eq_true rfl) (Nat.le_of_ble_eq_true rfl) (Nat.le_of_ble_eq_true rfl) (Nat.le_of_ble_eq_true rfl) fl_0_26 rfl rfl rfl hnm rfl rfl (fun _ => rfl) (fun _ => rfl) rfl rfl rfl rfl ?_
  refine h_aload_n C dX0_init_36 rfl ?_
  refine h_bipush C dX0_init_37 rfl ?_
  refine h_newa20 (N := 8) (n1 := 74) (c1 := 6) (s1 := 243) C dX0_init_39 rfl rfl rfl (by decide) ac_int (Nat.le_of_ble_eq_true rfl) ⟨Nat.le_of_ble_eq_true rfl, Nat.le_of_ble_eq_true rfl⟩ rfl rfl rfl ?_
  refine h_putR (j := 15) (t1 := 67) C dX0_init_41 rfl (Nat.le_of_ble_eq_true rfl) (Nat.le_of_ble_eq_true rfl) (Nat.le_of_ble_eq_true rfl) (Nat.le_of_ble_eq_true rfl) fl_0_29 rfl rfl rfl hnm rfl rfl (fun _ => rfl) (fun _ => rfl) rfl rfl rfl rfl ?_
  exact h_vret C dX0_init_44 hr hlk ⟨rfl, rfl, rfl⟩ ⟨rfl, rfl⟩ rfl
set_option maxRecDepth 100000 in
set_option maxHeartbeats 4000000 in
theorem ci_X3_init_75 {w : Wd} {l : Launch} : CtI w l yX3_init (Cond.code yX3_init cX3_init 1 none :: TB) { frames := 1, cells := 2, slots := 128, locals := 20 } [rv w 75] 76 68 106 78 70 106 none 2 128 := by
  refine CtI.of [some (rv w 75)] 0 rfl pn_RX3 (Nat.le_of_ble_eq_true rfl) ?_
  intro p e s m args below meth c C hr hlk hnm
  refine h_aload_n C dX3_init_0 rfl ?_
  refine h_objInit C dX3_init_1 mlo_3 im_obj cd_obj ⟨Nat.le_of_ble_eq_true rfl, Nat.le_of_ble_eq_true rfl⟩ ?_
  refine h_aload_n C dX3_init_4 rfl ?_
  refine h_bipush C dX3_init_5 rfl ?_
  refine h_newa20 (N := 64) (n1 := 77) (c1 := 1) (s1 := 64) C dX3_init_7 rfl rfl rfl (by decide) ac_int (Nat.le_of_ble_eq_true rfl) ⟨Nat.le_of_ble_eq_true rfl, Nat.le_of_ble_eq_true rfl⟩ rfl rfl rfl ?_
  refine h_putR (j := 0) (t1 := 69) C dX3_init_9 rfl (Nat.le_of_ble_eq_true rfl) (Nat.le_of_ble_eq_true rfl) (Nat.le_of_ble_eq_true rfl) (Nat.le_of_ble_eq_true rfl) fl_3_11 rfl rfl rfl hnm rfl rfl (fun _ => rfl) (fun _ => rfl) rfl rfl rfl rfl ?_
  refine h_aload_n C dX3_init_12 rfl ?_
  refine h_bipush C dX3_init_13 rfl ?_
  refine h_newa20 (N := 64) (n1 := 78) (c1 := 2) (s1 := 128) C dX3_init_15 rfl rfl rfl (by decide) ac_int (Nat.le_of_ble_eq_true rfl) ⟨Nat.le_of_ble_eq_true rfl, Nat.le_of_ble_eq_true rfl⟩ rfl rfl rfl ?_
  refine h_putR (j := 1) (t1 := 70) C dX3_init_17 rfl (Nat.le_of_ble_eq_true rfl) (Nat.le_of_ble_eq_true rfl) (Nat.le_of_ble_eq_true rfl) (Nat.le_of_ble_eq_true rfl) fl_3_15 rfl rfl rfl hnm rfl rfl (fun _ => rfl) (fun _ => rfl) rfl rfl rfl rfl ?_
  exact h_vret C dX3_init_20 hr hlk ⟨rfl, rfl, rfl⟩ ⟨rfl, rfl⟩ rfl
set_option maxRecDepth 100000 in
set_option maxHeartbeats 4000000 in
theorem ci_X0_init_74 {w : Wd} {l : Launch} : CtI w l yX0_init (Cond.code yX0_init cX0_init 1 none :: TB) { frames := 2, cells := 6, slots := 243, locals := 40 } [rv w 74] 75 68 105 81 74 106 none 6 243 := by
  refine CtI.of [some (rv w 74)] 0 rfl pn_RX0 (Nat.le_of_ble_eq_true rfl) ?_
  intro p e s m args below meth c C hr hlk hnm
  refine h_aload_n C dX0_init_0 rfl ?_
  refine h_objInit C dX0_init_1 mlo_0 im_obj cd_obj ⟨Nat.le_of_ble_eq_true rfl, Nat.le_of_ble_eq_true rfl⟩ ?_
  refine h_aload_n C dX0_init_4 rfl ?_
  refine h_iconst C dX0_init_5 ?_
  refine h_putI (j := 2) (m1 := 106) C dX0_init_6 rfl (Nat.le_of_ble_eq_true rfl) (Nat.le_of_ble_eq_true rfl) (Nat.le_of_ble_eq_true rfl) (Nat.le_of_ble_eq_true rfl) fl_0_9 rfl rfl rfl rfl rfl ?_
  refine h_aload_n C dX0_init_9 rfl ?_
  refine h_new (ci := 3) (n1 := 76) (c1 := 1) (s1 := 3) C dX0_init_10 rfl (Nat.le_of_ble_eq_true rfl) cl_0_15 ins_3 ini_3 (by decide +kernel) ⟨Nat.le_of_ble_eq_true rfl, Nat.le_of_ble_eq_true rfl⟩ rfl rfl rfl ?_
  refine h_dup C dX0_init_13 rfl ?_
  refine h_callIN (n := 0) (As := []) (c1 := 3) (s1 := 131) C dX0_init_14 cd_X3_init im_X3_init ini_3 ⟨nh_3.1, nh_3.2, by decide +kernel⟩ rfl C.2.2.2.2.2.2.2.2.2.2.2.1 ci_X3_init_75 rfl ⟨rfl, rfl⟩ ⟨Nat.le_of_ble_eq_true rfl, Nat.le_of_ble_eq_true rfl⟩ ⟨Nat.le_of_ble_eq_true rfl, Nat.le_of_ble_eq_true rfl⟩ rfl (Nat.le_of_ble_eq_true rfl) rfl rfl ?_
  refine h_putR (j := 3) (t1 := 71) C dX0_init_17 rfl (Nat.le_of_ble_eq_true rfl) (Nat.le_of_ble_eq_true rfl) (Nat.le_of_ble_eq_true rfl) (Nat.le_of_ble_eq_true rfl) fl_0_18 rfl rfl rfl hnm rfl rfl (fun _ => rfl) (fun _ => rfl) rfl rfl rfl rfl ?_
  refine h_aload_n C dX0_init_20 rfl ?_
  refine h_bipush C dX0_init_21 rfl ?_
  refine h_newa20 (N := 96) (n1 := 79) (c1 := 4) (s1 := 227) C dX0_init_23 rfl rfl rfl (by decide) ac_int (Nat.le_of_ble_eq_true rfl) ⟨Nat.le_of_ble_eq_true rfl, Nat.le_of_ble_eq_true rfl⟩ rfl rfl rfl ?_
  refine h_putR (j := 13) (t1 := 72) C dX0_init_25 rfl (Nat.le_of_ble_eq_true rfl) (Nat.le_of_ble_eq_true rfl) (Nat.le_of_ble_eq_true rfl) (Nat.le_of_ble_eq_true rfl) fl_0_22 rfl rfl rfl hnm rfl rfl (fun _ => rfl) (fun _ => rfl) rfl rfl rfl rfl ?_
  refine h_aload_n C dX0_init_28 rfl ?_
  refine h_bipush C dX0_init_29 rfl ?_
  refine h_newa20 (N := 8) (n1 := 80) (c1 := 5) (s1 := 235) C dX0_init_31 rfl rfl rfl (by decide) ac_int (Nat.le_of_ble_eq_true rfl) ⟨Nat.le_of_ble_eq_true rfl, Nat.le_of_ble_eq_true rfl⟩ rfl rfl rfl ?_
  refine h_putR (j := 14) (t1 := 73) C dX0_init_33 rfl (Nat.le_of_ble_eq_true rfl) (Nat.le_of_ble_eq_true rfl) (Nat.le_of_ble_eq_true rfl) (Nat.le_of_ble_eq_true rfl) fl_0_26 rfl rfl rfl hnm rfl rfl (fun _ => rfl) (fun _ => rfl) rfl rfl rfl rfl ?_
  refine h_aload_n C dX0_init_36 rfl ?_
  refine h_bipush C dX0_init_37 rfl ?_
  refine h_newa20 (N := 8) (n1 := 81) (c1 := 6) (s1 := 243) C dX0_init_39 rfl rfl rfl (by decide) ac_int (Nat.le_of_ble_eq_true rfl) ⟨Nat.le_of_ble_eq_true rfl, Nat.le_of_ble_eq_true rfl⟩ rfl rfl rfl ?_
  refine h_putR (j := 15) (t1 := 74) C dX0_init_41 rfl (Nat.le_of_ble_eq_true rfl) (Nat.le_of_ble_eq_true rfl) (Nat.le_of_ble_eq_true rfl) (Nat.le_of_ble_eq_true rfl) fl_0_29 rfl rfl rfl hnm rfl rfl (fun _ => rfl) (fun _ => rfl) rfl rfl rfl rfl ?_
  exact h_vret C dX0_init_44 hr hlk ⟨rfl, rfl, rfl⟩ ⟨rfl, rfl⟩ rfl
set_option maxRecDepth 100000 in
set_option maxHeartbeats 4000000 in
theorem ci_X3_init_82 {w : Wd} {l : Launch} : CtI w l yX3_init (Cond.code yX3_init cX3_init 1 none :: TB) { frames := 1, cells := 2, slots := 128, locals := 20 } [rv w 82] 83 75 107 85 77 107 none 2 128 := by
  refine CtI.of [some (rv w 82)] 0 rfl pn_RX3 (Nat.le_of_ble_eq_true rfl) ?_
  intro p e s m args below meth c C hr hlk hnm
  refine h_aload_n C dX3_init_0 rfl ?_
  refine h_objInit C dX3_init_1 mlo_3 im_obj cd_obj ⟨Nat.le_of_ble_eq_true rfl, Nat.le_of_ble_eq_true rfl⟩ ?_
  refine h_aload_n C dX3_init_4 rfl ?_
  refine h_bipush C dX3_init_5 rfl ?_
  refine h_newa20 (N := 64) (n1 := 84) (c1 := 1) (s1 := 64) C dX3_init_7 rfl rfl rfl (by decide) ac_int (Nat.le_of_ble_eq_true rfl) ⟨Nat.le_of_ble_eq_true rfl, Nat.le_of_ble_eq_true rfl⟩ rfl rfl rfl ?_
  refine h_putR (j := 0) (t1 := 76) C dX3_init_9 rfl (Nat.le_of_ble_eq_true rfl) (Nat.le_of_ble_eq_true rfl) (Nat.le_of_ble_eq_true rfl) (Nat.le_of_ble_eq_true rfl) fl_3_11 rfl rfl rfl hnm rfl rfl (fun _ => rfl) (fun _ => rfl) rfl rfl rfl rfl ?_
  refine h_aload_n C dX3_init_12 rfl ?_
  refine h_bipush C dX3_init_13 rfl ?_
  refine h_newa20 (N := 64) (n1 := 85) (c1 := 2) (s1 := 128) C dX3_init_15 rfl rfl rfl (by decide) ac_int (Nat.le_of_ble_eq_true rfl) ⟨Nat.le_of_ble_eq_true rfl, Nat.le_of_ble_eq_true rfl⟩ rfl rfl rfl ?_
  refine h_putR (j := 1) (t1 := 77) C dX3_init_17 rfl (Nat.le_of_ble_eq_true rfl) (Nat.le_of_ble_eq_true rfl) (Nat.le_of_ble_eq_true rfl) (Nat.le_of_ble_eq_true rfl) fl_3_15 rfl rfl rfl hnm rfl rfl (fun _ => rfl) (fun _ => rfl) rfl rfl rfl rfl ?_
  exact h_vret C dX3_init_20 hr hlk ⟨rfl, rfl, rfl⟩ ⟨rfl, rfl⟩ rfl
set_option maxRecDepth 100000 in
set_option maxHeartbeats 4000000 in
theorem ci_X0_init_81 {w : Wd} {l : Launch} : CtI w l yX0_init (Cond.code yX0_init cX0_init 1 none :: TB) { frames := 2, cells := 6, slots := 243, locals := 40 } [rv w 81] 82 75 106 88 81 107 none 6 243 := by
  refine CtI.of [some (rv w 81)] 0 rfl pn_RX0 (Nat.le_of_ble_eq_true rfl) ?_
  intro p e s m args below meth c C hr hlk hnm
  refine h_aload_n C dX0_init_0 rfl ?_
  refine h_objInit C dX0_init_1 mlo_0 im_obj cd_obj ⟨Nat.le_of_ble_eq_true rfl, Nat.le_of_ble_eq_true rfl⟩ ?_
  refine h_aload_n C dX0_init_4 rfl ?_
  refine h_iconst C dX0_init_5 ?_
  refine h_putI (j := 2) (m1 := 107) C dX0_init_6 rfl (Nat.le_of_ble_eq_true rfl) (Nat.le_of_ble_eq_true rfl) (Nat.le_of_ble_eq_true rfl) (Nat.le_of_ble_eq_true rfl) fl_0_9 rfl rfl rfl rfl rfl ?_
  refine h_aload_n C dX0_init_9 rfl ?_
  refine h_new (ci := 3) (n1 := 83) (c1 := 1) (s1 := 3) C dX0_init_10 rfl (Nat.le_of_ble_eq_true rfl) cl_0_15 ins_3 ini_3 (by decide +kernel) ⟨Nat.le_of_ble_eq_true rfl, Nat.le_of_ble_eq_true rfl⟩ rfl rfl rfl ?_
  refine h_dup C dX0_init_13 rfl ?_
  refine h_callIN (n := 0) (As := []) (c1 := 3) (s1 := 131) C dX0_init_14 cd_X3_init im_X3_init ini_3 ⟨nh_3.1, nh_3.2, by decide +kernel⟩ rfl C.2.2.2.2.2.2.2.2.2.2.2.1 ci_X3_init_82 rfl ⟨rfl, rfl⟩ ⟨Nat.le_of_ble_eq_true rfl, Nat.le_of_ble_eq_true rfl⟩ ⟨Nat.le_of_ble_eq_true rfl, Nat.le_of_ble_eq_true rfl⟩ rfl (Nat.le_of_ble_eq_true rfl) rfl rfl ?_
  refine h_putR (j := 3) (t1 := 78) C dX0_init_17 rfl (Nat.le_of_ble_eq_true rfl) (Nat.le_of_ble_eq_true rfl) (Nat.le_of_ble_eq_true rfl) (Nat.le_of_ble_eq_true rfl) fl_0_18 rfl rfl rfl hnm rfl rfl (fun _ => rfl) (fun _ => rfl) rfl rfl rfl rfl ?_
  refine h_aload_n C dX0_init_20 rfl ?_
  refine h_bipush C dX0_init_21 rfl ?_
  refine h_newa20 (N := 96) (n1 := 86) (c1 := 4) (s1 := 227) C dX0_init_23 rfl rfl rfl (by decide) ac_int (Nat.le_of_ble_eq_true rfl) ⟨Nat.le_of_ble_eq_true rfl, Nat.le_of_ble_eq_true rfl⟩ rfl rfl rfl ?_
  refine h_putR (j := 13) (t1 := 79) C dX0_init_25 rfl (Nat.le_of_ble_eq_true rfl) (Nat.le_of_ble_eq_true rfl) (Nat.le_of_ble_eq_true rfl) (Nat.le_of_ble_eq_true rfl) fl_0_22 rfl rfl rfl hnm rfl rfl (fun _ => rfl) (fun _ => rfl) rfl rfl rfl rfl ?_
  refine h_aload_n C dX0_init_28 rfl ?_
  refine h_bipush C dX0_init_29 rfl ?_
  refine h_newa20 (N := 8) (n1 := 87) (c1 := 5) (s1 := 235) C dX0_init_31 rfl rfl rfl (by decide) ac_int (Nat.le_of_ble_eq_true rfl) ⟨Nat.le_of_ble_eq_true rfl, Nat.le_of_ble_eq_true rfl⟩ rfl rfl rfl ?_
  refine h_putR (j := 14) (t1 := 80) C dX0_init_33 rfl (Nat.le_of_ble_eq_true rfl) (Nat.le_of_ble_eq_true rfl) (Nat.le_of_ble_eq_true rfl) (Nat.le_of_ble_eq_true rfl) fl_0_26 rfl rfl rfl hnm rfl rfl (fun _ => rfl) (fun _ => rfl) rfl rfl rfl rfl ?_
  refine h_aload_n C dX0_init_36 rfl ?_
  refine h_bipush C dX0_init_37 rfl ?_
  refine h_newa20 (N := 8) (n1 := 88) (c1 := 6) (s1 := 243) C dX0_init_39 rfl rfl rfl (by decide) ac_int (Nat.le_of_ble_eq_true rfl) ⟨Nat.le_of_ble_eq_true rfl, Nat.le_of_ble_eq_true rfl⟩ rfl rfl rfl ?_
  refine h_putR (j := 15) (t1 := 81) C dX0_init_41 rfl (Nat.le_of_ble_eq_true rfl) (Nat.le_of_ble_eq_true rfl) (Nat.le_of_ble_eq_true rfl) (Nat.le_of_ble_eq_true rfl) fl_0_29 rfl rfl rfl hnm rfl rfl (fun _ => rfl) (fun _ => rfl) rfl rfl rfl rfl ?_
  exact h_vret C dX0_init_44 hr hlk ⟨rfl, rfl, rfl⟩ ⟨rfl, rfl⟩ rfl
set_option maxRecDepth 100000 in
set_option maxHeartbeats 4000000 in
theorem ci_X3_init_89 {w : Wd} {l : Launch} : CtI w l yX3_init (Cond.code yX3_init cX3_init 1 none :: TB) { frames := 1, cells := 2, slots := 128, locals := 20 } [rv w 89] 90 82 108 92 84 108 none 2 128 := by
  refine CtI.of [some (rv w 89)] 0 rfl pn_RX3 (Nat.le_of_ble_eq_true rfl) ?_
  intro p e s m args below meth c C hr hlk hnm
  refine h_aload_n C dX3_init_0 rfl ?_
  refine h_objInit C dX3_init_1 mlo_3 im_obj cd_obj ⟨Nat.le_of_ble_eq_true rfl, Nat.le_of_ble_eq_true rfl⟩ ?_
  refine h_aload_n C dX3_init_4 rfl ?_
  refine h_bipush C dX3_init_5 rfl ?_
  refine h_newa20 (N := 64) (n1 := 91) (c1 := 1) (s1 := 64) C dX3_init_7 rfl rfl rfl (by decide) ac_int (Nat.le_of_ble_eq_true rfl) ⟨Nat.le_of_ble_eq_true rfl, Nat.le_of_ble_eq_true rfl⟩ rfl rfl rfl ?_
  refine h_putR (j := 0) (t1 := 83) C dX3_init_9 rfl (Nat.le_of_ble_eq_true rfl) (Nat.le_of_ble_eq_true rfl) (Nat.le_of_ble_eq_true rfl) (Nat.le_of_ble_eq_true rfl) fl_3_11 rfl rfl rfl hnm rfl rfl (fun _ => rfl) (fun _ => rfl) rfl rfl rfl rfl ?_
  refine h_aload_n C dX3_init_12 rfl ?_
  refine h_bipush C dX3_init_13 rfl ?_
  refine h_newa20 (N := 64) (n1 := 92) (c1 := 2) (s1 := 128) C dX3_init_15 rfl rfl rfl (by decide) ac_int (Nat.le_of_ble_eq_true rfl) ⟨Nat.le_of_ble_eq_true rfl, Nat.le_of_ble_eq_true rfl⟩ rfl rfl rfl ?_
  refine h_putR (j := 1) (t1 := 84) C dX3_init_17 rfl (Nat.le_of_ble_eq_true rfl) (Nat.le_of_ble_eq_true rfl) (Nat.le_of_ble_eq_true rfl) (Nat.le_of_ble_eq_true rfl) fl_3_15 rfl rfl rfl hnm rfl rfl (fun _ => rfl) (fun _ => rfl) rfl rfl rfl rfl ?_
  exact h_vret C dX3_init_20 hr hlk ⟨rfl, rfl, rfl⟩ ⟨rfl, rfl⟩ rfl
set_option maxRecDepth 100000 in
set_option maxHeartbeats 4000000 in
theorem ci_X0_init_88 {w : Wd} {l : Launch} : CtI w l yX0_init (Cond.code yX0_init cX0_init 1 none :: TB) { frames := 2, cells := 6, slots := 243, locals := 40 } [rv w 88] 89 82 107 95 88 108 none 6 243 := by
  refine CtI.of [some (rv w 88)] 0 rfl pn_RX0 (Nat.le_of_ble_eq_true rfl) ?_
  intro p e s m args below meth c C hr hlk hnm
  refine h_aload_n C dX0_init_0 rfl ?_
  refine h_objInit C dX0_init_1 mlo_0 im_obj cd_obj ⟨Nat.le_of_ble_eq_true rfl, Nat.le_of_ble_eq_true rfl⟩ ?_
  refine h_aload_n C dX0_init_4 rfl ?_
  refine h_iconst C dX0_init_5 ?_
  refine h_putI (j := 2) (m1 := 108) C dX0_init_6 rfl (Nat.le_of_ble_eq_true rfl) (Nat.le_of_ble_eq_true rfl) (Nat.le_of_ble_eq_true rfl) (Nat.le_of_ble_eq_true rfl) fl_0_9 rfl rfl rfl rfl rfl ?_
  refine h_aload_n C dX0_init_9 rfl ?_
  refine h_new (ci := 3) (n1 := 90) (c1 := 1) (s1 := 3) C dX0_init_10 rfl (Nat.le_of_ble_eq_true rfl) cl_0_15 ins_3 ini_3 (by decide +kernel) ⟨Nat.le_of_ble_eq_true rfl, Nat.le_of_ble_eq_true rfl⟩ rfl rfl rfl ?_
  refine h_dup C dX0_init_13 rfl ?_
  refine h_callIN (n := 0) (As := []) (c1 := 3) (s1 := 131) C dX0_init_14 cd_X3_init im_X3_init ini_3 ⟨nh_3.1, nh_3.2, by decide +kernel⟩ rfl C.2.2.2.2.2.2.2.2.2.2.2.1 ci_X3_init_89 rfl ⟨rfl, rfl⟩ ⟨Nat.le_of_ble_eq_true rfl, Nat.le_of_ble_eq_true rfl⟩ ⟨Nat.le_of_ble_eq_true rfl, Nat.le_of_ble_eq_true rfl⟩ rfl (Nat.le_of_ble_eq_true rfl) rfl rfl ?_
  refine h_putR (j := 3) (t1 := 85) C dX0_init_17 rfl (Nat.le_of_ble_eq_true rfl) (Nat.le_of_ble_eq_true rfl) (Nat.le_of_ble_eq_true rfl) (Nat.le_of_ble_eq_true rfl) fl_0_18 rfl rfl rfl hnm rfl rfl (fun _ => rfl) (fun _ => rfl) rfl rfl rfl rfl ?_
  refine h_aload_n C dX0_init_20 rfl ?_
  refine h_bipush C dX0_init_21 rfl ?_
  refine h_newa20 (N := 96) (n1 := 93) (c1 := 4) (s1 := 227) C dX0_init_23 rfl rfl rfl (by decide) ac_int (Nat.le_of_ble_eq_true rfl) ⟨Nat.le_of_ble_eq_true rfl, Nat.le_of_ble_eq_true rfl⟩ rfl rfl rfl ?_
  refine h_putR (j := 13) (t1 := 86) C dX0_init_25 rfl (Nat.le_of_ble_eq_true rfl) (Nat.le_of_ble_eq_true rfl) (Nat.le_of_ble_eq_true rfl) (Nat.le_of_ble_eq_true rfl) fl_0_22 rfl rfl rfl hnm rfl rfl (fun _ => rfl) (fun _ => rfl) rfl rfl rfl rfl ?_
  refine h_aload_n C dX0_init_28 rfl ?_
  refine h_bipush C dX0_init_29 rfl ?_
  refine h_newa20 (N := 8) (n1 := 94) (c1 := 5) (s1 := 235) C dX0_init_31 rfl rfl rfl (by decide) ac_int (Nat.le_of_ble_eq_true rfl) ⟨Nat.le_of_ble_eq_true rfl, Nat.le_of_ble_eq_true rfl⟩ rfl rfl rfl ?_
  refine h_putR (j := 14) (t1 := 87) C dX0_init_33 rfl (Nat.le_of_ble_eq_true rfl) (Nat.le_of_ble_eq_true rfl) (Nat.le_of_ble_eq_true rfl) (Nat.le_of_ble_eq_true rfl) fl_0_26 rfl rfl rfl hnm rfl rfl (fun _ => rfl) (fun _ => rfl) rfl rfl rfl rfl ?_
  refine h_aload_n C dX0_init_36 rfl ?_
  refine h_bipush C dX0_init_37 rfl ?_
  refine h_newa20 (N := 8) (n1 := 95) (c1 := 6) (s1 := 243) C dX0_init_39 rfl rfl rfl (by decide) ac_int (Nat.le_of_ble_eq_true rfl) ⟨Nat.le_of_ble_eq_true rfl, Nat.le_of_ble_eq_true rfl⟩ rfl rfl rfl ?_
  refine h_putR (j := 15) (t1 := 88) C dX0_init_41 rfl (Nat.le_of_ble_eq_true rfl) (Nat.le_of_ble_eq_true rfl) (Nat.le_of_ble_eq_true rfl) (Nat.le_of_ble_eq_true rfl) fl_0_29 rfl rfl rfl hnm rfl rfl (fun _ => rfl) (fun _ => rfl) rfl rfl rfl rfl ?_
  exact h_vret C dX0_init_44 hr hlk ⟨rfl, rfl, rfl⟩ ⟨rfl, rfl⟩ rfl
theorem cl_11_24 : Cond.classLink RX11 24 (RXf 6) ∈ TB := (tbc_2 50 rfl rfl)
theorem dX6_init_0 : decode cX6_init 0 = .ok (.aload_n 0, 1) := by decide +kernel
theorem dX6_init_1 : decode cX6_init 1 = .ok (.invokespecial 3, 3) := by decide +kernel
theorem dX6_init_4 : decode cX6_init 4 = .ok (.aload_n 0, 1) := by decide +kernel
theorem dX6_init_5 : decode cX6_init 5 = .ok (.bipush 8, 2) := by decide +kernel
theorem dX6_init_7 : decode cX6_init 7 = .ok (.bipush 96, 2) := by decide +kernel
theorem dX6_init_9 : decode cX6_init 9 = .ok (.multianewarray 9 2, 4) := by decide +kernel
theorem dX6_init_13 : decode cX6_init 13 = .ok (.putfield 11, 3) := by decide +kernel
theorem dX6_init_16 : decode cX6_init 16 = .ok (.aload_n 0, 1) := by decide +kernel
theorem dX6_init_17 : decode cX6_init 17 = .ok (.bipush 8, 2) := by decide +kernel
theorem dX6_init_19 : decode cX6_init 19 = .ok (.bipush 96, 2) := by decide +kernel
theorem dX6_init_21 : decode cX6_init 21 = .ok (.multianewarray 9 2, 4) := by decide +kernel
theorem dX6_init_25 : decode cX6_init 25 = .ok (.putfield 16, 3) := by decide +kernel
theorem dX6_init_28 : decode cX6_init 28 = .ok (.aload_n 0, 1) := by decide +kernel
theorem dX6_init_29 : decode cX6_init 29 = .ok (.bipush 96, 2) := by decide +kernel
theorem dX6_init_31 : decode cX6_init 31 = .ok (.newarray .int, 2) := by decide +kernel
theorem dX6_init_33 : decode cX6_init 33 = .ok (.putfield 19, 3) := by decide +kernel
theorem dX6_init_36 : decode cX6_init 36 = .ok (.aload_n 0, 1) := by decide +kernel
theorem dX6_init_37 : decode cX6_init 37 = .ok (.bipush 96, 2) := by decide +kernel
theorem dX6_init_39 : decode cX6_init 39 = .ok (.newarray .int, 2) := by decide +kernel
theorem dX6_init_41 : decode cX6_init 41 = .ok (.putfield 23, 3) := by decide +kernel
theorem dX6_init_44 : decode cX6_init 44 = .ok (.aload_n 0, 1) := by decide +kernel
theorem dX6_init_45 : decode cX6_init 45 = .ok (.bipush 96, 2) := by decide +kernel
theorem dX6_init_47 : decode cX6_init 47 = .ok (.newarray .int, 2) := by decide +kernel
theorem dX6_init_49 : decode cX6_init 49 = .ok (.putfield 26, 3) := by decide +kernel
theorem dX6_init_52 : decode cX6_init 52 = .ok (.aload_n 0, 1) := by decide +kernel
theorem dX6_init_53 : decode cX6_init 53 = .ok (.bipush 96, 2) := by decide +kernel
theorem dX6_init_55 : decode cX6_init 55 = .ok (.newarray .int, 2) := by decide +kernel
theorem dX6_init_57 : decode cX6_init 57 = .ok (.putfield 29, 3) := by decide +kernel
theorem dX6_init_60 : decode cX6_init 60 = .ok (.aload_n 0, 1) := by decide +kernel
theorem dX6_init_61 : decode cX6_init 61 = .ok (.aload_n 1, 1) := by decide +kernel
theorem dX6_init_62 : decode cX6_init 62 = .ok (.putfield 32, 3) := by decide +kernel
theorem dX6_init_65 : decode cX6_init 65 = .ok (.aload_n 0, 1) := by decide +kernel
theorem dX6_init_66 : decode cX6_init 66 = .ok (.aload_n 2, 1) := by decide +kernel
theorem dX6_init_67 : decode cX6_init 67 = .ok (.putfield 36, 3) := by decide +kernel
theorem dX6_init_70 : decode cX6_init 70 = .ok (.return_, 1) := by decide +kernel
theorem mlo_6 : Cond.methodLink RX6 3 Lib.objectInit ∈ TB := (tbc_2 55 rfl rfl)
theorem cl_6_9 : Cond.classLink RX6 9 ("[" ++ (FieldType.array .int).toString) ∈ TB := (tbc_2 56 rfl rfl)
set_option maxRecDepth 100000 in
set_option maxHeartbeats 4000000 in
theorem ci_X6_init_95 {w : Wd} {l : Launch} : CtI w l yX6_init (Cond.code yX6_init cX6_init 3 none :: TB) { frames := 1, cells := 22, slots := 1936, locals := 20 } [rv w 95, rv w 1, rv w 30] 96 89 108 118 113 108 none 22 1936 := by
  refine CtI.of [some (rv w 95), some (rv w 1), some (rv w 30)] 0 rfl pn_RX6 (Nat.le_of_ble_eq_true rfl) ?_
  intro p e s m args below meth c C hr hlk hnm
  refine h_aload_n C dX6_init_0 rfl ?_
  refine h_objInit C dX6_init_1 mlo_6 im_obj cd_obj ⟨Nat.le_of_ble_eq_true rfl, Nat.le_of_ble_eq_true rfl⟩ ?_
  refine h_aload_n C dX6_init_4 rfl ?_
  refine h_bipush C dX6_init_5 rfl ?_
  refine h_bipush C dX6_init_7 rfl ?_
  refine h_mna (N := 8) (K := 96) (n1 := 105) (t1 := 97) (c1 := 9) (s1 := 776) C dX6_init_9 rfl rfl rfl (by decide) rfl (by decide) ⟨Nat.le_of_ble_eq_true rfl, Nat.le_of_ble_eq_true rfl, Nat.le_of_ble_eq_true rfl⟩ (by decide +kernel) (Nat.le_of_ble_eq_true rfl) cl_6_9 ac_int ⟨Nat.le_of_ble_eq_true rfl, Nat.le_of_ble_eq_true rfl⟩ rfl rfl rfl rfl ?_
  refine h_putR (j := 0) (t1 := 98) C dX6_init_13 rfl (Nat.le_of_ble_eq_true rfl) (Nat.le_of_ble_eq_true rfl) (Nat.le_of_ble_eq_true rfl) (Nat.le_of_ble_eq_true rfl) fl_6_11 rfl rfl rfl hnm rfl rfl (fun _ => rfl) (fun _ => rfl) rfl rfl rfl rfl ?_
  refine h_aload_n C dX6_init_16 rfl ?_
  refine h_bipush C dX6_init_17 rfl ?_
  refine h_bipush C dX6_init_19 rfl ?_
  refine h_mna (N := 8) (K := 96) (n1 := 114) (t1 := 106) (c1 := 18) (s1 := 1552) C dX6_init_21 rfl rfl rfl (by decide) rfl (by decide) ⟨Nat.le_of_ble_eq_true rfl, Nat.le_of_ble_eq_true rfl, Nat.le_of_ble_eq_true rfl⟩ (by decide +kernel) (Nat.le_of_ble_eq_true rfl) cl_6_9 ac_int ⟨Nat.le_of_ble_eq_true rfl, Nat.le_of_ble_eq_true rfl⟩ rfl rfl rfl rfl ?_
  refine h_putR (j := 1) (t1 := 107) C dX6_init_25 rfl (Nat.le_of_ble_eq_true rfl) (Nat.le_of_ble_eq_true rfl) (Nat.le_of_ble_eq_true rfl) (Nat.le_of_ble_eq_true rfl) fl_6_16 rfl rfl rfl hnm rfl rfl (fun _ => rfl) (fun _ => rfl) rfl rfl rfl rfl ?_
  refine h_aload_n C dX6_init_28 rfl ?_
  refine h_bipush C dX6_init_29 rfl ?_
  refine h_newa20 (N := 96) (n1 := 115) (c1 := 19) (s1 := 1648) C dX6_init_31 rfl rfl rfl (by decide) ac_int (Nat.le_of_ble_eq_true rfl) ⟨Nat.le_of_ble_eq_true rfl, Nat.le_of_ble_eq_true rfl⟩ rfl rfl rfl ?_
  refine h_putR (j := 4) (t1 := 108) C dX6_init_33 rfl (Nat.le_of_ble_eq_true rfl) (Nat.le_of_ble_eq_true rfl) (Nat.le_of_ble_eq_true rfl) (Nat.le_of_ble_eq_true rfl) fl_6_19 rfl rfl rfl hnm rfl rfl (fun _ => rfl) (fun _ => rfl) rfl rfl rfl rfl ?_
  refine h_aload_n C dX6_init_36 rfl ?_
  refine h_bipush C dX6_init_37 rfl ?_
  refine h_newa20 (N := 96) (n1 := 116) (c1 := 20) (s1 := 1744) C dX6_init_39 rfl rfl rfl (by decide) ac_int (Nat.le_of_ble_eq_true rfl) ⟨Nat.le_of_ble_eq_true rfl, Nat.le_of_ble_eq_true rfl⟩ rfl rfl rfl ?_
  refine h_putR (j := 5) (t1 := 109) C dX6_init_41 rfl (Nat.le_of_ble_eq_true rfl) (Nat.le_of_ble_eq_true rfl) (Nat.le_of_ble_eq_true rfl) (Nat.le_of_ble_eq_true rfl) fl_6_23 rfl rfl rfl hnm rfl rfl (fun _ => rfl) (fun _ => rfl) rfl rfl rfl rfl ?_
  refine h_aload_n C dX6_init_44 rfl ?_
  refine h_bipush C dX6_init_45 rfl ?_
  refine h_newa20 (N := 96) (n1 := 117) (c1 := 21) (s1 := 1840) C dX6_init_47 rfl rfl rfl (by decide) ac_int (Nat.le_of_ble_eq_true rfl) ⟨Nat.le_of_ble_eq_true rfl, Nat.le_of_ble_eq_true rfl⟩ rfl rfl rfl ?_
  refine h_putR (j := 6) (t1 := 110) C dX6_init_49 rfl (Nat.le_of_ble_eq_true rfl) (Nat.le_of_ble_eq_true rfl) (Nat.le_of_ble_eq_true rfl) (Nat.le_of_ble_eq_true rfl) fl_6_26 rfl rfl rfl hnm rfl rfl (fun _ => rfl) (fun _ => rfl) rfl rfl rfl rfl ?_
  refine h_aload_n C dX6_init_52 rfl ?_
  refine h_bipush C dX6_init_53 rfl ?_
  refine h_newa20 (N := 96) (n1 := 118) (c1 := 22) (s1 := 1936) C dX6_init_55 rfl rfl rfl (by decide) ac_int (Nat.le_of_ble_eq_true rfl) ⟨Nat.le_of_ble_eq_true rfl, Nat.le_of_ble_eq_true rfl⟩ rfl rfl rfl ?_
  refine h_putR (j := 7) (t1 := 111) C dX6_init_57 rfl (Nat.le_of_ble_eq_true rfl) (Nat.le_of_ble_eq_true rfl) (Nat.le_of_ble_eq_true rfl) (Nat.le_of_ble_eq_true rfl) fl_6_29 rfl rfl rfl hnm rfl rfl (fun _ => rfl) (fun _ => rfl) rfl rfl rfl rfl ?_
  refine h_aload_n C dX6_init_60 rfl ?_
  refine h_aload_n C dX6_init_61 rfl ?_
  refine h_putR (j := 2) (t1 := 112) C dX6_init_62 rfl (Nat.le_of_ble_eq_true rfl) (Nat.le_of_ble_eq_true rfl) (Nat.le_of_ble_eq_true rfl) (Nat.le_of_ble_eq_true rfl) fl_6_32 rfl rfl rfl hnm rfl rfl (fun _ => rfl) (fun _ => rfl) rfl rfl rfl rfl ?_
  refine h_aload_n C dX6_init_65 rfl ?_
  refine h_aload_n C dX6_init_66 rfl ?_
  refine h_putR (j := 3) (t1 := 113) C dX6_init_67 rfl (Nat.le_of_ble_eq_true rfl) (Nat.le_of_ble_eq_true rfl) (Nat.le_of_ble_eq_true rfl) (Nat.le_of_ble_eq_true rfl) fl_6_36 rfl rfl rfl hnm rfl rfl (fun _ => rfl) (fun _ => rfl) rfl rfl rfl rfl ?_
  exact h_vret C dX6_init_70 hr hlk ⟨rfl, rfl, rfl⟩ ⟨rfl, rfl⟩ rfl
theorem cl_11_41 : Cond.classLink RX11 41 (RXf 4) ∈ TB := (tbc_2 84 rfl rfl)
theorem dX4_init_0 : decode cX4_init 0 = .ok (.aload_n 0, 1) := by decide +kernel
theorem dX4_init_1 : decode cX4_init 1 = .ok (.invokespecial 3, 3) := by decide +kernel
theorem dX4_init_4 : decode cX4_init 4 = .ok (.aload_n 0, 1) := by decide +kernel
theorem dX4_init_5 : decode cX4_init 5 = .ok (.new 9, 3) := by decide +kernel
theorem dX4_init_8 : decode cX4_init 8 = .ok (.dup, 1) := by decide +kernel
theorem dX4_init_9 : decode cX4_init 9 = .ok (.invokespecial 11, 3) := by decide +kernel
theorem dX4_init_12 : decode cX4_init 12 = .ok (.putfield 12, 3) := by decide +kernel
theorem dX4_init_15 : decode cX4_init 15 = .ok (.aload_n 0, 1) := by decide +kernel
theorem dX4_init_16 : decode cX4_init 16 = .ok (.bipush 6, 2) := by decide +kernel
theorem dX4_init_18 : decode cX4_init 18 = .ok (.newarray .int, 2) := by decide +kernel
theorem dX4_init_20 : decode cX4_init 20 = .ok (.putfield 18, 3) := by decide +kernel
theorem dX4_init_23 : decode cX4_init 23 = .ok (.aload_n 0, 1) := by decide +kernel
theorem dX4_init_24 : decode cX4_init 24 = .ok (.bipush 6, 2) := by decide +kernel
theorem dX4_init_26 : decode cX4_init 26 = .ok (.newarray .int, 2) := by decide +kernel
theorem dX4_init_28 : decode cX4_init 28 = .ok (.putfield 22, 3) := by decide +kernel
theorem dX4_init_31 : decode cX4_init 31 = .ok (.aload_n 0, 1) := by decide +kernel
theorem dX4_init_32 : decode cX4_init 32 = .ok (.aload_n 1, 1) := by decide +kernel
theorem dX4_init_33 : decode cX4_init 33 = .ok (.putfield 25, 3) := by decide +kernel
theorem dX4_init_36 : decode cX4_init 36 = .ok (.return_, 1) := by decide +kernel
theorem mlo_4 : Cond.methodLink RX4 3 Lib.objectInit ∈ TB := (tbc_2 89 rfl rfl)
theorem cl_4_9 : Cond.classLink RX4 9 (RXf 5) ∈ TB := (tbc_2 90 rfl rfl)
set_option maxRecDepth 100000 in
set_option maxHeartbeats 4000000 in
theorem ci_X5_init_119 {w : Wd} {l : Launch} : CtI w l yX5_init (Cond.code yX5_init cX5_init 1 none :: TB) { frames := 1, cells := 7, slots := 2576, locals := 20 } [rv w 119] 120 116 108 127 123 108 none 7 2576 := by
  refine CtI.of [some (rv w 119)] 0 rfl pn_RX5 (Nat.le_of_ble_eq_true rfl) ?_
  intro p e s m args below meth c C hr hlk hnm
  refine h_aload_n C dX5_init_0 rfl ?_
  refine h_objInit C dX5_init_1 mlo_5 im_obj cd_obj ⟨Nat.le_of_ble_eq_true rfl, Nat.le_of_ble_eq_true rfl⟩ ?_
  refine h_aload_n C dX5_init_4 rfl ?_
  refine h_sipush C dX5_init_5 rfl ?_
  refine h_newa20 (N := 512) (n1 := 121) (c1 := 1) (s1 := 512) C dX5_init_8 rfl rfl rfl (by decide) ac_int (Nat.le_of_ble_eq_true rfl) ⟨Nat.le_of_ble_eq_true rfl, Nat.le_of_ble_eq_true rfl⟩ rfl rfl rfl ?_
  refine h_putR (j := 0) (t1 := 117) C dX5_init_10 rfl (Nat.le_of_ble_eq_true rfl) (Nat.le_of_ble_eq_true rfl) (Nat.le_of_ble_eq_true rfl) (Nat.le_of_ble_eq_true rfl) fl_5_11 rfl rfl rfl hnm rfl rfl (fun _ => rfl) (fun _ => rfl) rfl rfl rfl rfl ?_
  refine h_aload_n C dX5_init_13 rfl ?_
  refine h_sipush C dX5_init_14 rfl ?_
  refine h_newa20 (N := 512) (n1 := 122) (c1 := 2) (s1 := 1024) C dX5_init_17 rfl rfl rfl (by decide) ac_int (Nat.le_of_ble_eq_true rfl) ⟨Nat.le_of_ble_eq_true rfl, Nat.le_of_ble_eq_true rfl⟩ rfl rfl rfl ?_
  refine h_putR (j := 1) (t1 := 118) C dX5_init_19 rfl (Nat.le_of_ble_eq_true rfl) (Nat.le_of_ble_eq_true rfl) (Nat.le_of_ble_eq_true rfl) (Nat.le_of_ble_eq_true rfl) fl_5_15 rfl rfl rfl hnm rfl rfl (fun _ => rfl) (fun _ => rfl) rfl rfl rfl rfl ?_
  refine h_aload_n C dX5_init_22 rfl ?_
  refine h_sipush C dX5_init_23 rfl ?_
  refine h_newa20 (N := 512) (n1 := 123) (c1 := 3) (s1 := 1536) C dX5_init_26 rfl rfl rfl (by decide) ac_int (Nat.le_of_ble_eq_true rfl) ⟨Nat.le_of_ble_eq_true rfl, Nat.le_of_ble_eq_true rfl⟩ rfl rfl rfl ?_
  refine h_putR (j := 2) (t1 := 119) C dX5_init_28 rfl (Nat.le_of_ble_eq_true rfl) (Nat.le_of_ble_eq_true rfl) (Nat.le_of_ble_eq_true rfl) (Nat.le_of_ble_eq_true rfl) fl_5_18 rfl rfl rfl hnm rfl rfl (fun _ => rfl) (fun _ => rfl) rfl rfl rfl rfl ?_
  refine h_aload_n C dX5_init_31 rfl ?_
  refine h_sipush C dX5_init_32 rfl ?_
  refine h_newa22 (N := 512) (n1 := 124) (c1 := 4) (s1 := 2048) C dX5_init_35 rfl rfl rfl (by decide) ac_boolean (Nat.le_of_ble_eq_true rfl) ⟨Nat.le_of_ble_eq_true rfl, Nat.le_of_ble_eq_true rfl⟩ rfl rfl rfl ?_
  refine h_putR (j := 3) (t1 := 120) C dX5_init_37 rfl (Nat.le_of_ble_eq_true rfl) (Nat.le_of_ble_eq_true rfl) (Nat.le_of_ble_eq_true rfl) (Nat.le_of_ble_eq_true rfl) fl_5_21 rfl rfl rfl hnm rfl rfl (fun _ => rfl) (fun _ => rfl) rfl rfl rfl rfl ?_
  refine h_aload_n C dX5_init_40 rfl ?_
  refine h_sipush C dX5_init_41 rfl ?_
  refine h_newa20 (N := 512) (n1 := 125) (c1 := 5) (s1 := 2560) C dX5_init_44 rfl rfl rfl (by decide) ac_int (Nat.le_of_ble_eq_true rfl) ⟨Nat.le_of_ble_eq_true rfl, Nat.le_of_ble_eq_true rfl⟩ rfl rfl rfl ?_
  refine h_putR (j := 4) (t1 := 121) C dX5_init_46 rfl (Nat.le_of_ble_eq_true rfl) (Nat.le_of_ble_eq_true rfl) (Nat.le_of_ble_eq_true rfl) (Nat.le_of_ble_eq_true rfl) fl_5_25 rfl rfl rfl hnm rfl rfl (fun _ => rfl) (fun _ => rfl) rfl rfl rfl rfl ?_
  refine h_aload_n C dX5_init_49 rfl ?_
  refine h_bipush C dX5_init_50 rfl ?_
  refine h_newa23 (N := 8) (n1 := 126) (c1 := 6) (s1 := 2568) C dX5_init_52 rfl rfl rfl (by decide) ac_long (Nat.le_of_ble_eq_true rfl) ⟨Nat.le_of_ble_eq_true rfl, Nat.le_of_ble_eq_true rfl⟩ rfl rfl rfl ?_
  refine h_putR (j := 5) (t1 := 122) C dX5_init_54 rfl (Nat.le_of_ble_eq_true rfl) (Nat.le_of_ble_eq_true rfl) (Nat.le_of_ble_eq_true rfl) (Nat.le_of_ble_eq_true rfl) fl_5_28 rfl rfl rfl hnm rfl rfl (fun _ => rfl) (fun _ => rfl) rfl rfl rfl rfl ?_
  refine h_aload_n C dX5_init_57 rfl ?_
  refine h_bipush C dX5_init_58 rfl ?_
  refine h_newa20 (N := 8) (n1 := 127) (c1 := 7) (s1 := 2576) C dX5_init_60 rfl rfl rfl (by decide) ac_int (Nat.le_of_ble_eq_true rfl) ⟨Nat.le_of_ble_eq_true rfl, Nat.le_of_ble_eq_true rfl⟩ rfl rfl rfl ?_
  refine h_putR (j := 6) (t1 := 123) C dX5_init_62 rfl (Nat.le_of_ble_eq_true rfl) (Nat.le_of_ble_eq_true rfl) (Nat.le_of_ble_eq_true rfl) (Nat.le_of_ble_eq_true rfl) fl_5_32 rfl rfl rfl hnm rfl rfl (fun _ => rfl) (fun _ => rfl) rfl rfl rfl rfl ?_
  exact h_vret C dX5_init_65 hr hlk ⟨rfl, rfl, rfl⟩ ⟨rfl, rfl⟩ rfl
set_option maxRecDepth 100000 in
set_option maxHeartbeats 4000000 in
theorem ci_X4_init_118 {w : Wd} {l : Launch} : CtI w l yX4_init (Cond.code yX4_init cX4_init 2 none :: TB) { frames := 2, cells := 10, slots := 2597, locals := 40 } [rv w 118, rv w 16] 119 116 108 129 127 108 none 10 2597 := by
  refine CtI.of [some (rv w 118), some (rv w 16)] 0 rfl pn_RX4 (Nat.le_of_ble_eq_true rfl) ?_
  intro p e s m args below meth c C hr hlk hnm
  refine h_aload_n C dX4_init_0 rfl ?_
  refine h_objInit C dX4_init_1 mlo_4 im_obj cd_obj ⟨Nat.le_of_ble_eq_true rfl, Nat.le_of_ble_eq_true rfl⟩ ?_
  refine h_aload_n C dX4_init_4 rfl ?_
  refine h_new (ci := 5) (n1 := 120) (c1 := 1) (s1 := 9) C dX4_init_5 rfl (Nat.le_of_ble_eq_true rfl) cl_4_9 ins_5 ini_5 (by decide +kernel) ⟨Nat.le_of_ble_eq_true rfl, Nat.le_of_ble_eq_true rfl⟩ rfl rfl rfl ?_
  refine h_dup C dX4_init_8 rfl ?_
  refine h_callIN (n := 0) (As := []) (c1 := 8) (s1 := 2585) C dX4_init_9 cd_X5_init im_X5_init ini_5 ⟨nh_5.1, nh_5.2, by decide +kernel⟩ rfl C.2.2.2.2.2.2.2.2.2.2.2.2.1 ci_X5_init_119 rfl ⟨rfl, rfl⟩ ⟨Nat.le_of_ble_eq_true rfl, Nat.le_of_ble_eq_true rfl⟩ ⟨Nat.le_of_ble_eq_true rfl, Nat.le_of_ble_eq_true rfl⟩ rfl (Nat.le_of_ble_eq_true rfl) rfl rfl ?_
  refine h_putR (j := 0) (t1 := 124) C dX4_init_12 rfl (Nat.le_of_ble_eq_true rfl) (Nat.le_of_ble_eq_true rfl) (Nat.le_of_ble_eq_true rfl) (Nat.le_of_ble_eq_true rfl) fl_4_12 rfl rfl rfl hnm rfl rfl (fun _ => rfl) (fun _ => rfl) rfl rfl rfl rfl ?_
  refine h_aload_n C dX4_init_15 rfl ?_
  refine h_bipush C dX4_init_16 rfl ?_
  refine h_newa20 (N := 6) (n1 := 128) (c1 := 9) (s1 := 2591) C dX4_init_18 rfl rfl rfl (by decide) ac_int (Nat.le_of_ble_eq_true rfl) ⟨Nat.le_of_ble_eq_true rfl, Nat.le_of_ble_eq_true rfl⟩ rfl rfl rfl ?_
  refine h_putR (j := 4) (t1 := 125) C dX4_init_20 rfl (Nat.le_of_ble_eq_true rfl) (Nat.le_of_ble_eq_true rfl) (Nat.le_of_ble_eq_true rfl) (Nat.le_of_ble_eq_true rfl) fl_4_18 rfl rfl rfl hnm rfl rfl (fun _ => rfl) (fun _ => rfl) rfl rfl rfl rfl ?_
  refine h_aload_n C dX4_init_23 rfl ?_
  refine h_bipush C dX4_init_24 rfl ?_
  refine h_newa20 (N := 6) (n1 := 129) (c1 := 10) (s1 := 2597) C dX4_init_26 rfl rfl rfl (by decide) ac_int (Nat.le_of_ble_eq_true rfl) ⟨Nat.le_of_ble_eq_true rfl, Nat.le_of_ble_eq_true rfl⟩ rfl rfl rfl ?_
  refine h_putR (j := 5) (t1 := 126) C dX4_init_28 rfl (Nat.le_of_ble_eq_true rfl) (Nat.le_of_ble_eq_true rfl) (Nat.le_of_ble_eq_true rfl) (Nat.le_of_ble_eq_true rfl) fl_4_22 rfl rfl rfl hnm rfl rfl (fun _ => rfl) (fun _ => rfl) rfl rfl rfl rfl ?_
  refine h_aload_n C dX4_init_31 rfl ?_
  refine h_aload_n C dX4_init_32 rfl ?_
  refine h_putR (j := 3) (t1 := 127) C dX4_init_33 rfl (Nat.le_of_ble_eq_true rfl) (Nat.le_of_ble_eq_true rfl) (Nat.le_of_ble_eq_true rfl) (Nat.le_of_ble_eq_true rfl) fl_4_25 rfl rfl rfl hnm rfl rfl (fun _ => rfl) (fun _ => rfl) rfl rfl rfl rfl ?_
  exact h_vret C dX4_init_36 hr hlk ⟨rfl, rfl, rfl⟩ ⟨rfl, rfl⟩ rfl
theorem cl_11_58 : Cond.classLink RX11 58 (RXf 8) ∈ TB := (tbc_2 141 rfl rfl)
theorem dX8_init_0 : decode cX8_init 0 = .ok (.aload_n 0, 1) := by decide +kernel
theorem dX8_init_1 : decode cX8_init 1 = .ok (.invokespecial 3, 3) := by decide +kernel
theorem dX8_init_4 : decode cX8_init 4 = .ok (.aload_n 0, 1) := by decide +kernel
theorem dX8_init_5 : decode cX8_init 5 = .ok (.bipush 10, 2) := by decide +kernel
theorem dX8_init_7 : decode cX8_init 7 = .ok (.newarray .int, 2) := by decide +kernel
theorem dX8_init_9 : decode cX8_init 9 = .ok (.putfield 9, 3) := by decide +kernel
theorem dX8_init_12 : decode cX8_init 12 = .ok (.aload_n 0, 1) := by decide +kernel
theorem dX8_init_13 : decode cX8_init 13 = .ok (.bipush 10, 2) := by decide +kernel
theorem dX8_init_15 : decode cX8_init 15 = .ok (.newarray .int, 2) := by decide +kernel
theorem dX8_init_17 : decode cX8_init 17 = .ok (.putfield 15, 3) := by decide +kernel
theorem dX8_init_20 : decode cX8_init 20 = .ok (.aload_n 0, 1) := by decide +kernel
theorem dX8_init_21 : decode cX8_init 21 = .ok (.bipush 8, 2) := by decide +kernel
theorem dX8_init_23 : decode cX8_init 23 = .ok (.bipush 8, 2) := by decide +kernel
theorem dX8_init_25 : decode cX8_init 25 = .ok (.multianewarray 18 2, 4) := by decide +kernel
theorem dX8_init_29 : decode cX8_init 29 = .ok (.putfield 20, 3) := by decide +kernel
theorem dX8_init_32 : decode cX8_init 32 = .ok (.aload_n 0, 1) := by decide +kernel
theorem dX8_init_33 : decode cX8_init 33 = .ok (.sipush 768, 3) := by decide +kernel
theorem dX8_init_36 : decode cX8_init 36 = .ok (.newarray .int, 2) := by decide +kernel
theorem dX8_init_38 : decode cX8_init 38 = .ok (.putfield 23, 3) := by decide +kernel
theorem dX8_init_41 : decode cX8_init 41 = .ok (.aload_n 0, 1) := by decide +kernel
theorem dX8_init_42 : decode cX8_init 42 = .ok (.bipush 10, 2) := by decide +kernel
theorem dX8_init_44 : decode cX8_init 44 = .ok (.bipush 8, 2) := by decide +kernel
theorem dX8_init_46 : decode cX8_init 46 = .ok (.multianewarray 18 2, 4) := by decide +kernel
theorem dX8_init_50 : decode cX8_init 50 = .ok (.putfield 26, 3) := by decide +kernel
theorem dX8_init_53 : decode cX8_init 53 = .ok (.aload_n 0, 1) := by decide +kernel
theorem dX8_init_54 : decode cX8_init 54 = .ok (.aload_n 1, 1) := by decide +kernel
theorem dX8_init_55 : decode cX8_init 55 = .ok (.putfield 29, 3) := by decide +kernel
theorem dX8_init_58 : decode cX8_init 58 = .ok (.aload_n 0, 1) := by decide +kernel
theorem dX8_init_59 : decode cX8_init 59 = .ok (.aload_n 2, 1) := by decide +kernel
theorem dX8_init_60 : decode cX8_init 60 = .ok (.putfield 33, 3) := by decide +kernel
theorem dX8_init_63 : decode cX8_init 63 = .ok (.aload_n 0, 1) := by decide +kernel
theorem dX8_init_64 : decode cX8_init 64 = .ok (.aload_n 3, 1) := by decide +kernel
theorem dX8_init_65 : decode cX8_init 65 = .ok (.putfield 37, 3) := by decide +kernel
theorem dX8_init_68 : decode cX8_init 68 = .ok (.aload_n 0, 1) := by decide +kernel
theorem dX8_init_69 : decode cX8_init 69 = .ok (.aload 4, 2) := by decide +kernel
theorem dX8_init_71 : decode cX8_init 71 = .ok (.putfield 41, 3) := by decide +kernel
theorem dX8_init_74 : decode cX8_init 74 = .ok (.return_, 1) := by decide +kernel
theorem mlo_8 : Cond.methodLink RX8 3 Lib.objectInit ∈ TB := (tbc_2 146 rfl rfl)
theorem cl_8_18 : Cond.classLink RX8 18 ("[" ++ (FieldType.array .int).toString) ∈ TB := (tbc_2 147 rfl rfl)
set_option maxRecDepth 100000 in
set_option maxHeartbeats 4000000 in
theorem ci_X8_init_129 {w : Wd} {l : Launch} : CtI w l yX8_init (Cond.code yX8_init cX8_init 5 none :: TB) { frames := 1, cells := 23, slots := 950, locals := 20 } [rv w 129, rv w 1, rv w 22, rv w 30, rv w 38] 130 130 108 153 157 108 none 23 950 := by
  refine CtI.of [some (rv w 129), some (rv w 1), some (rv w 22), some (rv w 30), some (rv w 38)] 0 rfl pn_RX8 (Nat.le_of_ble_eq_true rfl) ?_
  intro p e s m args below meth c C hr hlk hnm
  refine h_aload_n C dX8_init_0 rfl ?_
  refine h_objInit C dX8_init_1 mlo_8 im_obj cd_obj ⟨Nat.le_of_ble_eq_true rfl, Nat.le_of_ble_eq_true rfl⟩ ?_
  refine h_aload_n C dX8_init_4 rfl ?_
  refine h_bipush C dX8_init_5 rfl ?_
  refine h_newa20 (N := 10) (n1 := 131) (c1 := 1) (s1 := 10) C dX8_init_7 rfl rfl rfl (by decide) ac_int (Nat.le_of_ble_eq_true rfl) ⟨Nat.le_of_ble_eq_true rfl, Nat.le_of_ble_eq_true rfl⟩ rfl rfl rfl ?_
  refine h_putR (j := 2) (t1 := 131) C dX8_init_9 rfl (Nat.le_of_ble_eq_true rfl) (Nat.le_of_ble_eq_true rfl) (Nat.le_of_ble_eq_true rfl) (Nat.le_of_ble_eq_true rfl) fl_8_9 rfl rfl rfl hnm rfl rfl (fun _ => rfl) (fun _ => rfl) rfl rfl rfl rfl ?_
  refine h_aload_n C dX8_init_12 rfl ?_
  refine h_bipush C dX8_init_13 rfl ?_
  refine h_newa20 (N := 10) (n1 := 132) (c1 := 2) (s1 := 20) C dX8_init_15 rfl rfl rfl (by decide) ac_int (Nat.le_of_ble_eq_true rfl) ⟨Nat.le_of_ble_eq_true rfl, Nat.le_of_ble_eq_true rfl⟩ rfl rfl rfl ?_
  refine h_putR (j := 3) (t1 := 132) C dX8_init_17 rfl (Nat.le_of_ble_eq_true rfl) (Nat.le_of_ble_eq_true rfl) (Nat.le_of_ble_eq_true rfl) (Nat.le_of_ble_eq_true rfl) fl_8_15 rfl rfl rfl hnm rfl rfl (fun _ => rfl) (fun _ => rfl) rfl rfl rfl rfl ?_
  refine h_aload_n C dX8_init_20 rfl ?_
  refine h_bipush C dX8_init_21 rfl ?_
  refine h_bipush C dX8_init_23 rfl ?_
  refine h_mna (N := 8) (K := 8) (n1 := 141) (t1 := 140) (c1 := 11) (s1 := 92) C dX8_init_25 rfl rfl rfl (by decide) rfl (by decide) ⟨Nat.le_of_ble_eq_true rfl, Nat.le_of_ble_eq_true rfl, Nat.le_of_ble_eq_true rfl⟩ (by decide +kernel) (Nat.le_of_ble_eq_true rfl) cl_8_18 ac_int ⟨Nat.le_of_ble_eq_true rfl, Nat.le_of_ble_eq_true rfl⟩ rfl rfl rfl rfl ?_
  refine h_putR (j := 4) (t1 := 141) C dX8_init_29 rfl (Nat.le_of_ble_eq_true rfl) (Nat.le_of_ble_eq_true rfl) (Nat.le_of_ble_eq_true rfl) (Nat.le_of_ble_eq_true rfl) fl_8_20 rfl rfl rfl hnm rfl rfl (fun _ => rfl) (fun _ => rfl) rfl rfl rfl rfl ?_
  refine h_aload_n C dX8_init_32 rfl ?_
  refine h_sipush C dX8_init_33 rfl ?_
  refine h_newa20 (N := 768) (n1 := 142) (c1 := 12) (s1 := 860) C dX8_init_36 rfl rfl rfl (by decide) ac_int (Nat.le_of_ble_eq_true rfl) ⟨Nat.le_of_ble_eq_true rfl, Nat.le_of_ble_eq_true rfl⟩ rfl rfl rfl ?_
  refine h_putR (j := 5) (t1 := 142) C dX8_init_38 rfl (Nat.le_of_ble_eq_true rfl) (Nat.le_of_ble_eq_true rfl) (Nat.le_of_ble_eq_true rfl) (Nat.le_of_ble_eq_true rfl) fl_8_23 rfl rfl rfl hnm rfl rfl (fun _ => rfl) (fun _ => rfl) rfl rfl rfl rfl ?_
  refine h_aload_n C dX8_init_41 rfl ?_
  refine h_bipush C dX8_init_42 rfl ?_
  refine h_bipush C dX8_init_44 rfl ?_
  refine h_mna (N := 10) (K := 8) (n1 := 153) (t1 := 152) (c1 := 23) (s1 := 950) C dX8_init_46 rfl rfl rfl (by decide) rfl (by decide) ⟨Nat.le_of_ble_eq_true rfl, Nat.le_of_ble_eq_true rfl, Nat.le_of_ble_eq_true rfl⟩ (by decide +kernel) (Nat.le_of_ble_eq_true rfl) cl_8_18 ac_int ⟨Nat.le_of_ble_eq_true rfl, Nat.le_of_ble_eq_true rfl⟩ rfl rfl rfl rfl ?_
  refine h_putR (j := 11) (t1 := 153) C dX8_init_50 rfl (Nat.le_of_ble_eq_true rfl) (Nat.le_of_ble_eq_true rfl) (Nat.le_of_ble_eq_true rfl) (Nat.le_of_ble_eq_true rfl) fl_8_26 rfl rfl rfl hnm rfl rfl (fun _ => rfl) (fun _ => rfl) rfl rfl rfl rfl ?_
  refine h_aload_n C dX8_init_53 rfl ?_
  refine h_aload_n C dX8_init_54 rfl ?_
  refine h_putR (j := 7) (t1 := 154) C dX8_init_55 rfl (Nat.le_of_ble_eq_true rfl) (Nat.le_of_ble_eq_true rfl) (Nat.le_of_ble_eq_true rfl) (Nat.le_of_ble_eq_true rfl) fl_8_29 rfl rfl rfl hnm rfl rfl (fun _ => rfl) (fun _ => rfl) rfl rfl rfl rfl ?_
  refine h_aload_n C dX8_init_58 rfl ?_
  refine h_aload_n C dX8_init_59 rfl ?_
  refine h_putR (j := 8) (t1 := 155) C dX8_init_60 rfl (Nat.le_of_ble_eq_true rfl) (Nat.le_of_ble_eq_true rfl) (Nat.le_of_ble_eq_true rfl) (Nat.le_of_ble_eq_true rfl) fl_8_33 rfl rfl rfl hnm rfl rfl (fun _ => rfl) (fun _ => rfl) rfl rfl rfl rfl ?_
  refine h_aload_n C dX8_init_63 rfl ?_
  refine h_aload_n C dX8_init_64 rfl ?_
  refine h_putR (j := 9) (t1 := 156) C dX8_init_65 rfl (Nat.le_of_ble_eq_true rfl) (Nat.le_of_ble_eq_true rfl) (Nat.le_of_ble_eq_true rfl) (Nat.le_of_ble_eq_true rfl) fl_8_37 rfl rfl rfl hnm rfl rfl (fun _ => rfl) (fun _ => rfl) rfl rfl rfl rfl ?_
  refine h_aload_n C dX8_init_68 rfl ?_
  refine h_aload C dX8_init_69 rfl ?_
  refine h_putR (j := 10) (t1 := 157) C dX8_init_71 rfl (Nat.le_of_ble_eq_true rfl) (Nat.le_of_ble_eq_true rfl) (Nat.le_of_ble_eq_true rfl) (Nat.le_of_ble_eq_true rfl) fl_8_41 rfl rfl rfl hnm rfl rfl (fun _ => rfl) (fun _ => rfl) rfl rfl rfl rfl ?_
  exact h_vret C dX8_init_74 hr hlk ⟨rfl, rfl, rfl⟩ ⟨rfl, rfl⟩ rfl
theorem cl_11_71 : Cond.classLink RX11 71 (RXf 7) ∈ TB := (tbc_2 198 rfl rfl)
theorem dX7_init_0 : decode cX7_init 0 = .ok (.aload_n 0, 1) := by decide +kernel
theorem dX7_init_1 : decode cX7_init 1 = .ok (.invokespecial 3, 3) := by decide +kernel
theorem dX7_init_4 : decode cX7_init 4 = .ok (.aload_n 0, 1) := by decide +kernel
theorem dX7_init_5 : decode cX7_init 5 = .ok (.bipush 8, 2) := by decide +kernel
theorem dX7_init_7 : decode cX7_init 7 = .ok (.newarray .int, 2) := by decide +kernel
theorem dX7_init_9 : decode cX7_init 9 = .ok (.putfield 9, 3) := by decide +kernel
theorem dX7_init_12 : decode cX7_init 12 = .ok (.aload_n 0, 1) := by decide +kernel
theorem dX7_init_13 : decode cX7_init 13 = .ok (.bipush 8, 2) := by decide +kernel
theorem dX7_init_15 : decode cX7_init 15 = .ok (.bipush 96, 2) := by decide +kernel
theorem dX7_init_17 : decode cX7_init 17 = .ok (.multianewarray 15 2, 4) := by decide +kernel
theorem dX7_init_21 : decode cX7_init 21 = .ok (.putfield 17, 3) := by decide +kernel
theorem dX7_init_24 : decode cX7_init 24 = .ok (.aload_n 0, 1) := by decide +kernel
theorem dX7_init_25 : decode cX7_init 25 = .ok (.aload_n 1, 1) := by decide +kernel
theorem dX7_init_26 : decode cX7_init 26 = .ok (.putfield 20, 3) := by decide +kernel
theorem dX7_init_29 : decode cX7_init 29 = .ok (.aload_n 0, 1) := by decide +kernel
theorem dX7_init_30 : decode cX7_init 30 = .ok (.aload_n 2, 1) := by decide +kernel
theorem dX7_init_31 : decode cX7_init 31 = .ok (.putfield 24, 3) := by decide +kernel
theorem dX7_init_34 : decode cX7_init 34 = .ok (.return_, 1) := by decide +kernel
theorem mlo_7 : Cond.methodLink RX7 3 Lib.objectInit ∈ TB := (tbc_2 203 rfl rfl)
theorem cl_7_15 : Cond.classLink RX7 15 ("[" ++ (FieldType.array .int).toString) ∈ TB := (tbc_2 204 rfl rfl)
set_option maxRecDepth 100000 in
set_option maxHeartbeats 4000000 in
theorem ci_X7_init_153 {w : Wd} {l : Launch} : CtI w l yX7_init (Cond.code yX7_init cX7_init 3 none :: TB) { frames := 1, cells := 10, slots := 784, locals := 20 } [rv w 153, rv w 1, rv w 95] 154 159 108 164 171 108 none 10 784 := by
  refine CtI.of [some (rv w 153), some (rv w 1), some (rv w 95)] 0 rfl pn_RX7 (Nat.le_of_ble_eq_true rfl) ?_
  intro p e s m args below meth c C hr hlk hnm
  refine h_aload_n C dX7_init_0 rfl ?_
  refine h_objInit C dX7_init_1 mlo_7 im_obj cd_obj ⟨Nat.le_of_ble_eq_true rfl, Nat.le_of_ble_eq_true rfl⟩ ?_
  refine h_aload_n C dX7_init_4 rfl ?_
  refine h_bipush C dX7_init_5 rfl ?_
  refine h_newa20 (N := 8) (n1 := 155) (c1 := 1) (s1 := 8) C dX7_init_7 rfl rfl rfl (by decide) ac_int (Nat.le_of_ble_eq_true rfl) ⟨Nat.le_of_ble_eq_true rfl, Nat.le_of_ble_eq_true rfl⟩ rfl rfl rfl ?_
  refine h_putR (j := 0) (t1 := 160) C dX7_init_9 rfl (Nat.le_of_ble_eq_true rfl) (Nat.le_of_ble_eq_true rfl) (Nat.le_of_ble_eq_true rfl) (Nat.le_of_ble_eq_true rfl) fl_7_9 rfl rfl rfl hnm rfl rfl (fun _ => rfl) (fun _ => rfl) rfl rfl rfl rfl ?_
  refine h_aload_n C dX7_init_12 rfl ?_
  refine h_bipush C dX7_init_13 rfl ?_
  refine h_bipush C dX7_init_15 rfl ?_
  refine h_mna (N := 8) (K := 96) (n1 := 164) (t1 := 168) (c1 := 10) (s1 := 784) C dX7_init_17 rfl rfl rfl (by decide) rfl (by decide) ⟨Nat.le_of_ble_eq_true rfl, Nat.le_of_ble_eq_true rfl, Nat.le_of_ble_eq_true rfl⟩ (by decide +kernel) (Nat.le_of_ble_eq_true rfl) cl_7_15 ac_int ⟨Nat.le_of_ble_eq_true rfl, Nat.le_of_ble_eq_true rfl⟩ rfl rfl rfl rfl ?_
  refine h_putR (j := 3) (t1 := 169) C dX7_init_21 rfl (Nat.le_of_ble_eq_true rfl) (Nat.le_of_ble_eq_true rfl) (Nat.le_of_ble_eq_true rfl) (Nat.le_of_ble_eq_true rfl) fl_7_17 rfl rfl rfl hnm rfl rfl (fun _ => rfl) (fun _ => rfl) rfl rfl rfl rfl ?_
  refine h_aload_n C dX7_init_24 rfl ?_
  refine h_aload_n C dX7_init_25 rfl ?_
  refine h_putR (j := 1) (t1 := 170) C dX7_init_26 rfl (Nat.le_of_ble_eq_true rfl) (Nat.le_of_ble_eq_true rfl) (Nat.le_of_ble_eq_true rfl) (Nat.le_of_ble_eq_true rfl) fl_7_20 rfl rfl rfl hnm rfl rfl (fun _ => rfl) (fun _ => rfl) rfl rfl rfl rfl ?_
  refine h_aload_n C dX7_init_29 rfl ?_
  refine h_aload_n C dX7_init_30 rfl ?_
  refine h_putR (j := 2) (t1 := 171) C dX7_init_31 rfl (Nat.le_of_ble_eq_true rfl) (Nat.le_of_ble_eq_true rfl) (Nat.le_of_ble_eq_true rfl) (Nat.le_of_ble_eq_true rfl) fl_7_24 rfl rfl rfl hnm rfl rfl (fun _ => rfl) (fun _ => rfl) rfl rfl rfl rfl ?_
  exact h_vret C dX7_init_34 hr hlk ⟨rfl, rfl, rfl⟩ ⟨rfl, rfl⟩ rfl
theorem cl_11_80 : Cond.classLink RX11 80 (RXf 2) ∈ TB := (tbc_2 219 rfl rfl)
theorem dX2_init_0 : decode cX2_init 0 = .ok (.aload_n 0, 1) := by decide +kernel
theorem dX2_init_1 : decode cX2_init 1 = .ok (.invokespecial 3, 3) := by decide +kernel
theorem dX2_init_4 : decode cX2_init 4 = .ok (.aload_n 0, 1) := by decide +kernel
theorem dX2_init_5 : decode cX2_init 5 = .ok (.bipush 8, 2) := by decide +kernel
theorem dX2_init_7 : decode cX2_init 7 = .ok (.newarray .int, 2) := by decide +kernel
theorem dX2_init_9 : decode cX2_init 9 = .ok (.putfield 9, 3) := by decide +kernel
theorem dX2_init_12 : decode cX2_init 12 = .ok (.aload_n 0, 1) := by decide +kernel
theorem dX2_init_13 : decode cX2_init 13 = .ok (.bipush 8, 2) := by decide +kernel
theorem dX2_init_15 : decode cX2_init 15 = .ok (.newarray .int, 2) := by decide +kernel
theorem dX2_init_17 : decode cX2_init 17 = .ok (.putfield 15, 3) := by decide +kernel
theorem dX2_init_20 : decode cX2_init 20 = .ok (.aload_n 0, 1) := by decide +kernel
theorem dX2_init_21 : decode cX2_init 21 = .ok (.iconst 3, 1) := by decide +kernel
theorem dX2_init_22 : decode cX2_init 22 = .ok (.newarray .int, 2) := by decide +kernel
theorem dX2_init_24 : decode cX2_init 24 = .ok (.putfield 18, 3) := by decide +kernel
theorem dX2_init_27 : decode cX2_init 27 = .ok (.aload_n 0, 1) := by decide +kernel
theorem dX2_init_28 : decode cX2_init 28 = .ok (.bipush 8, 2) := by decide +kernel
theorem dX2_init_30 : decode cX2_init 30 = .ok (.newarray .int, 2) := by decide +kernel
theorem dX2_init_32 : decode cX2_init 32 = .ok (.putfield 21, 3) := by decide +kernel
theorem dX2_init_35 : decode cX2_init 35 = .ok (.aload_n 0, 1) := by decide +kernel
theorem dX2_init_36 : decode cX2_init 36 = .ok (.iconst 3, 1) := by decide +kernel
theorem dX2_init_37 : decode cX2_init 37 = .ok (.newarray .int, 2) := by decide +kernel
theorem dX2_init_39 : decode cX2_init 39 = .ok (.putfield 24, 3) := by decide +kernel
theorem dX2_init_42 : decode cX2_init 42 = .ok (.iconst 0, 1) := by decide +kernel
theorem dX2_init_43 : decode cX2_init 43 = .ok (.istore_n 1, 1) := by decide +kernel
theorem dX2_init_44 : decode cX2_init 44 = .ok (.iload_n 1, 1) := by decide +kernel
theorem dX2_init_45 : decode cX2_init 45 = .ok (.bipush 8, 2) := by decide +kernel
theorem dX2_init_47 : decode cX2_init 47 = .ok (.if_icmp .ge 16, 3) := by decide +kernel
theorem dX2_init_50 : decode cX2_init 50 = .ok (.aload_n 0, 1) := by decide +kernel
theorem dX2_init_51 : decode cX2_init 51 = .ok (.getfield 15, 3) := by decide +kernel
theorem dX2_init_54 : decode cX2_init 54 = .ok (.iload_n 1, 1) := by decide +kernel
theorem dX2_init_55 : decode cX2_init 55 = .ok (.iconst (-1), 1) := by decide +kernel
theorem dX2_init_56 : decode cX2_init 56 = .ok (.iastore, 1) := by decide +kernel
theorem dX2_init_57 : decode cX2_init 57 = .ok (.iinc 1 1, 3) := by decide +kernel
theorem dX2_init_60 : decode cX2_init 60 = .ok (.goto (-16), 3) := by decide +kernel
theorem dX2_init_63 : decode cX2_init 63 = .ok (.return_, 1) := by decide +kernel
theorem mlo_2 : Cond.methodLink RX2 3 Lib.objectInit ∈ TB := (tbc_2 224 rfl rfl)
set_option maxRecDepth 100000 in
set_option maxHeartbeats 4000000 in
theorem ci_X2_init_164 {w : Wd} {l : Launch} : CtI w l yX2_init (Cond.code yX2_init cX2_init 2 none :: TB) { frames := 1, cells := 5, slots := 30, locals := 20 } [rv w 164] 165 172 108 170 177 116 none 5 30 := by
  refine CtI.of [some (rv w 164), none] 1 rfl pn_RX2 (Nat.le_of_ble_eq_true rfl) ?_
  intro p e s m args below meth c C hr hlk hnm
  refine h_aload_n C dX2_init_0 rfl ?_
  refine h_objInit C dX2_init_1 mlo_2 im_obj cd_obj ⟨Nat.le_of_ble_eq_true rfl, Nat.le_of_ble_eq_true rfl⟩ ?_
  refine h_aload_n C dX2_init_4 rfl ?_
  refine h_bipush C dX2_init_5 rfl ?_
  refine h_newa20 (N := 8) (n1 := 166) (c1 := 1) (s1 := 8) C dX2_init_7 rfl rfl rfl (by decide) ac_int (Nat.le_of_ble_eq_true rfl) ⟨Nat.le_of_ble_eq_true rfl, Nat.le_of_ble_eq_true rfl⟩ rfl rfl rfl ?_
  refine h_putR (j := 0) (t1 := 173) C dX2_init_9 rfl (Nat.le_of_ble_eq_true rfl) (Nat.le_of_ble_eq_true rfl) (Nat.le_of_ble_eq_true rfl) (Nat.le_of_ble_eq_true rfl) fl_2_9 rfl rfl rfl hnm rfl rfl (fun _ => rfl) (fun _ => rfl) rfl rfl rfl rfl ?_
  refine h_aload_n C dX2_init_12 rfl ?_
  refine h_bipush C dX2_init_13 rfl ?_
  refine h_newa20 (N := 8) (n1 := 167) (c1 := 2) (s1 := 16) C dX2_init_15 rfl rfl rfl (by decide) ac_int (Nat.le_of_ble_eq_true rfl) ⟨Nat.le_of_ble_eq_true rfl, Nat.le_of_ble_eq_true rfl⟩ rfl rfl rfl ?_
  refine h_putR (j := 1) (t1 := 174) C dX2_init_17 rfl (Nat.le_of_ble_eq_true rfl) (Nat.le_of_ble_eq_true rfl) (Nat.le_of_ble_eq_true rfl) (Nat.le_of_ble_eq_true rfl) fl_2_15 rfl rfl rfl hnm rfl rfl (fun _ => rfl) (fun _ => rfl) rfl rfl rfl rfl ?_
  refine h_aload_n C dX2_init_20 rfl ?_
  refine h_iconst C dX2_init_21 ?_
  refine h_newa20 (N := 3) (n1 := 168) (c1 := 3) (s1 := 19) C dX2_init_22 rfl rfl rfl (by decide) ac_int (Nat.le_of_ble_eq_true rfl) ⟨Nat.le_of_ble_eq_true rfl, Nat.le_of_ble_eq_true rfl⟩ rfl rfl rfl ?_
  refine h_putR (j := 2) (t1 := 175) C dX2_init_24 rfl (Nat.le_of_ble_eq_true rfl) (Nat.le_of_ble_eq_true rfl) (Nat.le_of_ble_eq_true rfl) (Nat.le_of_ble_eq_true rfl) fl_2_18 rfl rfl rfl hnm rfl rfl (fun _ => rfl) (fun _ => rfl) rfl rfl rfl rfl ?_
  refine h_aload_n C dX2_init_27 rfl ?_
  refine h_bipush C dX2_init_28 rfl ?_
  refine h_newa20 (N := 8) (n1 := 169) (c1 := 4) (s1 := 27) C dX2_init_30 rfl rfl rfl (by decide) ac_int (Nat.le_of_ble_eq_true rfl) ⟨Nat.le_of_ble_eq_true rfl, Nat.le_of_ble_eq_true rfl⟩ rfl rfl rfl ?_
  refine h_putR (j := 4) (t1 := 176) C dX2_init_32 rfl (Nat.le_of_ble_eq_true rfl) (Nat.le_of_ble_eq_true rfl) (Nat.le_of_ble_eq_true rfl) (Nat.le_of_ble_eq_true rfl) fl_2_21 rfl rfl rfl hnm rfl rfl (fun _ => rfl) (fun _ => rfl) rfl rfl rfl rfl ?_
  refine h_aload_n C dX2_init_35 rfl ?_
  refine h_iconst C dX2_init_36 ?_
  refine h_newa20 (N := 3) (n1 := 170) (c1 := 5) (s1 := 30) C dX2_init_37 rfl rfl rfl (by decide) ac_int (Nat.le_of_ble_eq_true rfl) ⟨Nat.le_of_ble_eq_true rfl, Nat.le_of_ble_eq_true rfl⟩ rfl rfl rfl ?_
  refine h_putR (j := 5) (t1 := 177) C dX2_init_39 rfl (Nat.le_of_ble_eq_true rfl) (Nat.le_of_ble_eq_true rfl) (Nat.le_of_ble_eq_true rfl) (Nat.le_of_ble_eq_true rfl) fl_2_24 rfl rfl rfl hnm rfl rfl (fun _ => rfl) (fun _ => rfl) rfl rfl rfl rfl ?_
  refine h_iconst C dX2_init_42 ?_
  refine h_istore_n (L1 := [some (rv w 164), some (iv 0)]) C dX2_init_43 rfl (Nat.le_of_ble_eq_true rfl) rfl ?_
  refine h_iload_n C dX2_init_44 rfl ?_
  refine h_bipush C dX2_init_45 rfl ?_
  refine h_icmp_ge C dX2_init_47 (by decide) (by decide) rfl (tgt := 63) (fun c9 => absurd c9 (by decide)) (fun _ => ?_)
  refine h_aload_n C dX2_init_50 rfl ?_
  refine h_getR (j := 1) C dX2_init_51 rfl (Nat.le_of_ble_eq_true rfl) (Nat.le_of_ble_eq_true rfl) (Nat.le_of_ble_eq_true rfl) (Nat.le_of_ble_eq_true rfl) fl_2_15 rfl rfl (r := 166) rfl (Nat.le_of_ble_eq_true rfl) ?_
  refine h_iload_n C dX2_init_54 rfl ?_
  refine h_iconst C dX2_init_55 ?_
  refine h_iast (m1 := 109) C dX2_init_56 rfl (Nat.le_of_ble_eq_true rfl) (by decide) (by decide) rfl rfl ?_
  refine h_iinc (L1 := [some (rv w 164), some (iv 1)]) C dX2_init_57 rfl rfl (Nat.le_of_ble_eq_true rfl) rfl ?_
  refine h_goto C dX2_init_60 rfl (tgt := 44) ?_
  refine h_iload_n C dX2_init_44 rfl ?_
  refine h_bipush C dX2_init_45 rfl ?_
  refine h_icmp_ge C dX2_init_47 (by decide) (by decide) rfl (tgt := 63) (fun c9 => absurd c9 (by decide)) (fun _ => ?_)
  refine h_aload_n C dX2_init_50 rfl ?_
  refine h_getR (j := 1) C dX2_init_51 rfl (Nat.le_of_ble_eq_true rfl) (Nat.le_of_ble_eq_true rfl) (Nat.le_of_ble_eq_true rfl) (Nat.le_of_ble_eq_true rfl) fl_2_15 rfl rfl (r := 166) rfl (Nat.le_of_ble_eq_true rfl) ?_
  refine h_iload_n C dX2_init_54 rfl ?_
  refine h_iconst C dX2_init_55 ?_
  refine h_iast (m1 := 110) C dX2_init_56 rfl (Nat.le_of_ble_eq_true rfl) (by decide) (by decide) rfl rfl ?_
  refine h_iinc (L1 := [some (rv w 164), some (iv 2)]) C dX2_init_57 rfl rfl (Nat.le_of_ble_eq_true rfl) rfl ?_
  refine h_goto C dX2_init_60 rfl (tgt := 44) ?_
  refine h_iload_n C dX2_init_44 rfl ?_
  refine h_bipush C dX2_init_45 rfl ?_
  refine h_icmp_ge C dX2_init_47 (by decide) (by decide) rfl (tgt := 63) (fun c9 => absurd c9 (by decide)) (fun _ => ?_)
  refine h_aload_n C dX2_init_50 rfl ?_
  refine h_getR (j := 1) C dX2_init_51 rfl (Nat.le_of_ble_eq_true rfl) (Nat.le_of_ble_eq_true rfl) (Nat.le_of_ble_eq_true rfl) (Nat.le_of_ble_eq_true rfl) fl_2_15 rfl rfl (r := 166) rfl (Nat.le_of_ble_eq_true rfl) ?_
  refine h_iload_n C dX2_init_54 rfl ?_
  refine h_iconst C dX2_init_55 ?_
  refine h_iast (m1 := 111) C dX2_init_56 rfl (Nat.le_of_ble_eq_true rfl) (by decide) (by decide) rfl rfl ?_
  refine h_iinc (L1 := [some (rv w 164), some (iv 3)]) C dX2_init_57 rfl rfl (Nat.le_of_ble_eq_true rfl) rfl ?_
  refine h_goto C dX2_init_60 rfl (tgt := 44) ?_
  refine h_iload_n C dX2_init_44 rfl ?_
  refine h_bipush C dX2_init_45 rfl ?_
  refine h_icmp_ge C dX2_init_47 (by decide) (by decide) rfl (tgt := 63) (fun c9 => absurd c9 (by decide)) (fun _ => ?_)
  refine h_aload_n C dX2_init_50 rfl ?_
  refine h_getR (j := 1) C dX2_init_51 rfl (Nat.le_of_ble_eq_true rfl) (Nat.le_of_ble_eq_true rfl) (Nat.le_of_ble_eq_true rfl) (Nat.le_of_ble_eq_true rfl) fl_2_15 rfl rfl (r := 166) rfl (Nat.le_of_ble_eq_true rfl) ?_
  refine h_iload_n C dX2_init_54 rfl ?_
  refine h_iconst C dX2_init_55 ?_
  refine h_iast (m1 := 112) C dX2_init_56 rfl (Nat.le_of_ble_eq_true rfl) (by decide) (by decide) rfl rfl ?_
  refine h_iinc (L1 := [some (rv w 164), some (iv 4)]) C dX2_init_57 rfl rfl (Nat.le_of_ble_eq_true rfl) rfl ?_
  refine h_goto C dX2_init_60 rfl (tgt := 44) ?_
  refine h_iload_n C dX2_init_44 rfl ?_
  refine h_bipush C dX2_init_45 rfl ?_
  refine h_icmp_ge C dX2_init_47 (by decide) (by decide) rfl (tgt := 63) (fun c9 => absurd c9 (by decide)) (fun _ => ?_)
  refine h_aload_n C dX2_init_50 rfl ?_
  refine h_getR (j := 1) C dX2_init_51 rfl (Nat.le_of_ble_eq_true rfl) (Nat.le_of_ble_eq_true rfl) (Nat.le_of_ble_eq_true rfl) (Nat.le_of_ble_eq_true rfl) fl_2_15 rfl rfl (r := 166) rfl (Nat.le_of_ble_eq_true rfl) ?_
  refine h_iload_n C dX2_init_54 rfl ?_
  refine h_iconst C dX2_init_55 ?_
  refine h_iast (m1 := 113) C dX2_init_56 rfl (Nat.le_of_ble_eq_true rfl) (by decide) (by decide) rfl rfl ?_
  refine h_iinc (L1 := [some (rv w 164), some (iv 5)]) C dX2_init_57 rfl rfl (Nat.le_of_ble_eq_true rfl) rfl ?_
  refine h_goto C dX2_init_60 rfl (tgt := 44) ?_
  refine h_iload_n C dX2_init_44 rfl ?_
  refine h_bipush C dX2_init_45 rfl ?_
  refine h_icmp_ge C dX2_init_47 (by decide) (by decide) rfl (tgt := 63) (fun c9 => absurd c9 (by decide)) (fun _ => ?_)
  refine h_aload_n C dX2_init_50 rfl ?_
  refine h_getR (j := 1) C dX2_init_51 rfl (Nat.le_of_ble_eq_true rfl) (Nat.le_of_ble_eq_true rfl) (Nat.le_of_ble_eq_true rfl) (Nat.le_of_ble_eq_true rfl) fl_2_15 rfl rfl (r := 166) rfl (Nat.le_of_ble_eq_true rfl) ?_
  refine h_iload_n C dX2_init_54 rfl ?_
  refine h_iconst C dX2_init_55 ?_
  refine h_iast (m1 := 114) C dX2_init_56 rfl (Nat.le_of_ble_eq_true rfl) (by decide) (by decide) rfl rfl ?_
  refine h_iinc (L1 := [some (rv w 164), some (iv 6)]) C dX2_init_57 rfl rfl (Nat.le_of_ble_eq_true rfl) rfl ?_
  refine h_goto C dX2_init_60 rfl (tgt := 44) ?_
  refine h_iload_n C dX2_init_44 rfl ?_
  refine h_bipush C dX2_init_45 rfl ?_
  refine h_icmp_ge C dX2_init_47 (by decide) (by decide) rfl (tgt := 63) (fun c9 => absurd c9 (by decide)) (fun _ => ?_)
  refine h_aload_n C dX2_init_50 rfl ?_
  refine h_getR (j := 1) C dX2_init_51 rfl (Nat.le_of_ble_eq_true rfl) (Nat.le_of_ble_eq_true rfl) (Nat.le_of_ble_eq_true rfl) (Nat.le_of_ble_eq_true rfl) fl_2_15 rfl rfl (r := 166) rfl (Nat.le_of_ble_eq_true rfl) ?_
  refine h_iload_n C dX2_init_54 rfl ?_
  refine h_iconst C dX2_init_55 ?_
  refine h_iast (m1 := 115) C dX2_init_56 rfl (Nat.le_of_ble_eq_true rfl) (by decide) (by decide) rfl rfl ?_
  refine h_iinc (L1 := [some (rv w 164), some (iv 7)]) C dX2_init_57 rfl rfl (Nat.le_of_ble_eq_true rfl) rfl ?_
  refine h_goto C dX2_init_60 rfl (tgt := 44) ?_
  refine h_iload_n C dX2_init_44 rfl ?_
  refine h_bipush C dX2_init_45 rfl ?_
  refine h_icmp_ge C dX2_init_47 (by decide) (by decide) rfl (tgt := 63) (fun c9 => absurd c9 (by decide)) (fun _ => ?_)
  refine h_aload_n C dX2_init_50 rfl ?_
  refine h_getR (j := 1) C dX2_init_51 rfl (Nat.le_of_ble_eq_true rfl) (Nat.le_of_ble_eq_true rfl) (Nat.le_of_ble_eq_true rfl) (Nat.le_of_ble_eq_true rfl) fl_2_15 rfl rfl (r := 166) rfl (Nat.le_of_ble_eq_true rfl) ?_
  refine h_iload_n C dX2_init_54 rfl ?_
  refine h_iconst C dX2_init_55 ?_
  refine h_iast (m1 := 116) C dX2_init_56 rfl (Nat.le_of_ble_eq_true rfl) (by decide) (by decide) rfl rfl ?_
  refine h_iinc (L1 := [some (rv w 164), some (iv 8)]) C dX2_init_57 rfl rfl (Nat.le_of_ble_eq_true rfl) rfl ?_
  refine h_goto C dX2_init_60 rfl (tgt := 44) ?_
  refine h_iload_n C dX2_init_44 rfl ?_
  refine h_bipush C dX2_init_45 rfl ?_
  refine h_icmp_ge C dX2_init_47 (by decide) (by decide) rfl (tgt := 63) (fun _ => ?_) (fun c9 => absurd (by decide) c9)
  exact h_vret C dX2_init_63 hr hlk ⟨rfl, rfl, rfl⟩ ⟨rfl, rfl⟩ rfl
set_option maxRecDepth 100000 in
set_option maxHeartbeats 4000000 in
theorem ci_X11_init_0 {w : Wd} {l : Launch} : CtI w l yX11_init (Cond.code yX11_init cX11_init 7 none :: TB) { frames := 3, cells := 169, slots := 16241, locals := 61 } [rv w 0] 1 0 0 170 178 116 none 169 16241 := by
  refine CtI.of [some (rv w 0), none, none, none, none, none, none] 6 rfl pn_RX11 (Nat.le_of_ble_eq_true rfl) ?_
  intro p e s m args below meth c C hr hlk hnm
  refine h_aload_n C dX11_init_0 rfl ?_
  refine h_objInit C dX11_init_1 mlo_11 im_obj cd_obj ⟨Nat.le_of_ble_eq_true rfl, Nat.le_of_ble_eq_true rfl⟩ ?_
  refine h_new (ci := 10) (n1 := 2) (c1 := 1) (s1 := 6) C dX11_init_4 rfl (Nat.le_of_ble_eq_true rfl) cl_11_7 ins_10 ini_10 (by decide +kernel) ⟨Nat.le_of_ble_eq_true rfl, Nat.le_of_ble_eq_true rfl⟩ rfl rfl rfl ?_
  refine h_dup C dX11_init_7 rfl ?_
  refine h_callI (n := 0) (As := []) (c1 := 15) (s1 := 188) C dX11_init_8 cd_X10_init im_X10_init ini_10 ⟨nh_10.1, nh_10.2, by decide +kernel⟩ rfl ml_11_9 ci_X10_init_1 rfl ⟨rfl, rfl⟩ ⟨Nat.le_of_ble_eq_true rfl, Nat.le_of_ble_eq_true rfl⟩ ⟨Nat.le_of_ble_eq_true rfl, Nat.le_of_ble_eq_true rfl⟩ rfl (Nat.le_of_ble_eq_true rfl) rfl rfl ?_
  refine h_astore_n (L1 := [some (rv w 0), some (rv w 1), none, none, none, none, none]) C dX11_init_11 rfl (Nat.le_of_ble_eq_true rfl) rfl ?_
  refine h_new (ci := 9) (n1 := 17) (c1 := 16) (s1 := 195) C dX11_init_12 rfl (Nat.le_of_ble_eq_true rfl) cl_11_10 ins_9 ini_9 (by decide +kernel) ⟨Nat.le_of_ble_eq_true rfl, Nat.le_of_ble_eq_true rfl⟩ rfl rfl rfl ?_
  refine h_dup C dX11_init_15 rfl ?_
  refine h_callIN (n := 0) (As := []) (c1 := 21) (s1 := 4203) C dX11_init_16 cd_X9_init im_X9_init ini_9 ⟨nh_9.1, nh_9.2, by decide +kernel⟩ rfl C.2.2.2.2.2.2.2.1 ci_X9_init_16 rfl ⟨rfl, rfl⟩ ⟨Nat.le_of_ble_eq_true rfl, Nat.le_of_ble_eq_true rfl⟩ ⟨Nat.le_of_ble_eq_true rfl, Nat.le_of_ble_eq_true rfl⟩ rfl (Nat.le_of_ble_eq_true rfl) rfl rfl ?_
  refine h_astore_n (L1 := [some (rv w 0), some (rv w 1), some (rv w 16), none, none, none, none]) C dX11_init_19 rfl (Nat.le_of_ble_eq_true rfl) rfl ?_
  refine h_new (ci := 5) (n1 := 23) (c1 := 22) (s1 := 4212) C dX11_init_20 rfl (Nat.le_of_ble_eq_true rfl) cl_11_13 ins_5 ini_5 (by decide +kernel) ⟨Nat.le_of_ble_eq_true rfl, Nat.le_of_ble_eq_true rfl⟩ rfl rfl rfl ?_
  refine h_dup C dX11_init_23 rfl ?_
  refine h_callIN (n := 0) (As := []) (c1 := 29) (s1 := 6788) C dX11_init_24 cd_X5_init im_X5_init ini_5 ⟨nh_5.1, nh_5.2, by decide +kernel⟩ rfl C.2.2.2.2.2.2.2.2.1 ci_X5_init_22 rfl ⟨rfl, rfl⟩ ⟨Nat.le_of_ble_eq_true rfl, Nat.le_of_ble_eq_true rfl⟩ ⟨Nat.le_of_ble_eq_true rfl, Nat.le_of_ble_eq_true rfl⟩ rfl (Nat.le_of_ble_eq_true rfl) rfl rfl ?_
  refine h_astore_n (L1 := [some (rv w 0), some (rv w 1), some (rv w 16), some (rv w 22), none, none, none]) C dX11_init_27 rfl (Nat.le_of_ble_eq_true rfl) rfl ?_
  refine h_new (ci := 1) (n1 := 31) (c1 := 30) (s1 := 6797) C dX11_init_28 rfl (Nat.le_of_ble_eq_true rfl) cl_11_16 ins_1 ini_1 (by decide +kernel) ⟨Nat.le_of_ble_eq_true rfl, Nat.le_of_ble_eq_true rfl⟩ rfl rfl rfl ?_
  refine h_dup C dX11_init_31 rfl ?_
  refine h_callIN (n := 0) (As := []) (c1 := 37) (s1 := 7793) C dX11_init_32 cd_X1_init im_X1_init ini_1 ⟨nh_1.1, nh_1.2, by decide +kernel⟩ rfl C.2.2.2.2.2.2.2.2.2.1 ci_X1_init_30 rfl ⟨rfl, rfl⟩ ⟨Nat.le_of_ble_eq_true rfl, Nat.le_of_ble_eq_true rfl⟩ ⟨Nat.le_of_ble_eq_true rfl, Nat.le_of_ble_eq_true rfl⟩ rfl (Nat.le_of_ble_eq_true rfl) rfl rfl ?_
  refine h_astore (L1 := [some (rv w 0), some (rv w 1), some (rv w 16), some (rv w 22), some (rv w 30), none, none]) C dX11_init_35 rfl (Nat.le_of_ble_eq_true rfl) rfl ?_
  refine h_bipush C dX11_init_37 rfl ?_
  refine h_anew (N := 8) (n1 := 39) (c1 := 38) (s1 := 7801) C dX11_init_39 rfl rfl rfl (by decide) cl_11_21 (Nat.le_of_ble_eq_true rfl) (by decide +kernel) ⟨Nat.le_of_ble_eq_true rfl, Nat.le_of_ble_eq_true rfl⟩ rfl rfl rfl ?_
  refine h_astore (L1 := [some (rv w 0), some (rv w 1), some (rv w 16), some (rv w 22), some (rv w 30), some (rv w 38), none]) C dX11_init_42 rfl (Nat.le_of_ble_eq_true rfl) rfl ?_
  refine h_iconst C dX11_init_44 ?_
  refine h_istore (L1 := [some (rv w 0), some (rv w 1), some (rv w 16), some (rv w 22), some (rv w 30), some (rv w 38), some (iv 0)]) C dX11_init_45 rfl (Nat.le_of_ble_eq_true rfl) rfl ?_
  refine h_iload C dX11_init_47 rfl ?_
  refine h_bipush C dX11_init_49 rfl ?_
  refine h_icmp_ge C dX11_init_51 (by decide) (by decide) rfl (tgt := 72) (fun c9 => absurd c9 (by decide)) (fun _ => ?_)
  refine h_aload C dX11_init_54 rfl ?_
  refine h_iload C dX11_init_56 rfl ?_
  refine h_new (ci := 0) (n1 := 40) (c1 := 39) (s1 := 7820) C dX11_init_58 rfl (Nat.le_of_ble_eq_true rfl) cl_11_21 ins_0 ini_0 (by decide +kernel) ⟨Nat.le_of_ble_eq_true rfl, Nat.le_of_ble_eq_true rfl⟩ rfl rfl rfl ?_
  refine h_dup C dX11_init_61 rfl ?_
  refine h_callIN (n := 0) (As := []) (c1 := 45) (s1 := 8063) C dX11_init_62 cd_X0_init im_X0_init ini_0 ⟨nh_0.1, nh_0.2, by decide +kernel⟩ rfl C.2.2.2.2.2.2.2.2.2.2.1 ci_X0_init_39 rfl ⟨rfl, rfl⟩ ⟨Nat.le_of_ble_eq_true rfl, Nat.le_of_ble_eq_true rfl⟩ ⟨Nat.le_of_ble_eq_true rfl, Nat.le_of_ble_eq_true rfl⟩ rfl (Nat.le_of_ble_eq_true rfl) rfl rfl ?_
  refine h_aast (t1 := 40) C dX11_init_65 rfl rfl (Nat.le_of_ble_eq_true rfl) (Nat.le_of_ble_eq_true rfl) (Nat.le_of_ble_eq_true rfl) (by decide) (by decide) rfl rfl rfl rfl ?_
  refine h_iinc (L1 := [some (rv w 0), some (rv w 1), some (rv w 16), some (rv w 22), some (rv w 30), some (rv w 38), some (iv 1)]) C dX11_init_66 rfl rfl (Nat.le_of_ble_eq_true rfl) rfl ?_
  refine h_goto C dX11_init_69 rfl (tgt := 47) ?_
  refine h_iload C dX11_init_47 rfl ?_
  refine h_bipush C dX11_init_49 rfl ?_
  refine h_icmp_ge C dX11_init_51 (by decide) (by decide) rfl (tgt := 72) (fun c9 => absurd c9 (by decide)) (fun _ => ?_)
  refine h_aload C dX11_init_54 rfl ?_
  refine h_iload C dX11_init_56 rfl ?_
  refine h_new (ci := 0) (n1 := 47) (c1 := 46) (s1 := 8082) C dX11_init_58 rfl (Nat.le_of_ble_eq_true rfl) cl_11_21 ins_0 ini_0 (by decide +kernel) ⟨Nat.le_of_ble_eq_true rfl, Nat.le_of_ble_eq_true rfl⟩ rfl rfl rfl ?_
  refine h_dup C dX11_init_61 rfl ?_
  refine h_callIN (n := 0) (As := []) (c1 := 52) (s1 := 8325) C dX11_init_62 cd_X0_init im_X0_init ini_0 ⟨nh_0.1, nh_0.2, by decide +kernel⟩ rfl C.2.2.2.2.2.2.2.2.2.2.1 ci_X0_init_46 rfl ⟨rfl, rfl⟩ ⟨Nat.le_of_ble_eq_true rfl, Nat.le_of_ble_eq_true rfl⟩ ⟨Nat.le_of_ble_eq_true rfl, Nat.le_of_ble_eq_true rfl⟩ rfl (Nat.le_of_ble_eq_true rfl) rfl rfl ?_
  refine h_aast (t1 := 47) C dX11_init_65 rfl rfl (Nat.le_of_ble_eq_true rfl) (Nat.le_of_ble_eq_true rfl) (Nat.le_of_ble_eq_true rfl) (by decide) (by decide) rfl rfl rfl rfl ?_
  refine h_iinc (L1 := [some (rv w 0), some (rv w 1), some (rv w 16), some (rv w 22), some (rv w 30), some (rv w 38), some (iv 2)]) C dX11_init_66 rfl rfl (Nat.le_of_ble_eq_true rfl) rfl ?_
  refine h_goto C dX11_init_69 rfl (tgt := 47) ?_
  refine h_iload C dX11_init_47 rfl ?_
  refine h_bipush C dX11_init_49 rfl ?_
  refine h_icmp_ge C dX11_init_51 (by decide) (by decide) rfl (tgt := 72) (fun c9 => absurd c9 (by decide)) (fun _ => ?_)
  refine h_aload C dX11_init_54 rfl ?_
  refine h_iload C dX11_init_56 rfl ?_
  refine h_new (ci := 0) (n1 := 54) (c1 := 53) (s1 := 8344) C dX11_init_58 rfl (Nat.le_of_ble_eq_true rfl) cl_11_21 ins_0 ini_0 (by decide +kernel) ⟨Nat.le_of_ble_eq_true rfl, Nat.le_of_ble_eq_true rfl⟩ rfl rfl rfl ?_
  refine h_dup C dX11_init_61 rfl ?_
  refine h_callIN (n := 0) (As := []) (c1 := 59) (s1 := 8587) C dX11_init_62 cd_X0_init im_X0_init ini_0 ⟨nh_0.1, nh_0.2, by decide +kernel⟩ rfl C.2.2.2.2.2.2.2.2.2.2.1 ci_X0_init_53 rfl ⟨rfl, rfl⟩ ⟨Nat.le_of_ble_eq_true rfl, Nat.le_of_ble_eq_true rfl⟩ ⟨Nat.le_of_ble_eq_true rfl, Nat.le_of_ble_eq_true rfl⟩ rfl (Nat.le_of_ble_eq_true rfl) rfl rfl ?_
  refine h_aast (t1 := 54) C dX11_init_65 rfl rfl (Nat.le_of_ble_eq_true rfl) (Nat.le_of_ble_eq_true rfl) (Nat.le_of_ble_eq_true rfl) (by decide) (by decide) rfl rfl rfl rfl ?_
  refine h_iinc (L1 := [some (rv w 0), some (rv w 1), some (rv w 16), some (rv w 22), some (rv w 30), some (rv w 38), some (iv 3)]) C dX11_init_66 rfl rfl (Nat.le_of_ble_eq_true rfl) rfl ?_
  refine h_goto C dX11_init_69 rfl (tgt := 47) ?_
  refine h_iload C dX11_init_47 rfl ?_
  refine h_bipush C dX11_init_49 rfl ?_
  refine h_icmp_ge C dX11_init_51 (by decide) (by decide) rfl (tgt := 72) (fun c9 => absurd c9 (by decide)) (fun _ => ?_)
  refine h_aload C dX11_init_54 rfl ?_
  refine h_iload C dX11_init_56 rfl ?_
  refine h_new (ci := 0) (n1 := 61) (c1 := 60) (s1 := 8606) C dX11_init_58 rfl (Nat.le_of_ble_eq_true rfl) cl_11_21 ins_0 ini_0 (by decide +kernel) ⟨Nat.le_of_ble_eq_true rfl, Nat.le_of_ble_eq_true rfl⟩ rfl rfl rfl ?_
  refine h_dup C dX11_init_61 rfl ?_
  refine h_callIN (n := 0) (As := []) (c1 := 66) (s1 := 8849) C dX11_init_62 cd_X0_init im_X0_init ini_0 ⟨nh_0.1, nh_0.2, by decide +kernel⟩ rfl C.2.2.2.2.2.2.2.2.2.2.1 ci_X0_init_60 rfl ⟨rfl, rfl⟩ ⟨Nat.le_of_ble_eq_true rfl, Nat.le_of_ble_eq_true rfl⟩ ⟨Nat.le_of_ble_eq_true rfl, Nat.le_of_ble_eq_true rfl⟩ rfl (Nat.le_of_ble_eq_true rfl) rfl rfl ?_
  refine h_aast (t1 := 61) C dX11_init_65 rfl rfl (Nat.le_of_ble_eq_true rfl) (Nat.le_of_ble_eq_true rfl) (Nat.le_of_ble_eq_true rfl) (by decide) (by decide) rfl rfl rfl rfl ?_
  refine h_iinc (L1 := [some (rv w 0), some (rv w 1), some (rv w 16), some (rv w 22), some (rv w 30), some (rv w 38), some (iv 4)]) C dX11_init_66 rfl rfl (Nat.le_of_ble_eq_true rfl) rfl ?_
  refine h_goto C dX11_init_69 rfl (tgt := 47) ?_
  refine h_iload C dX11_init_47 rfl ?_
  refine h_bipush C dX11_init_49 rfl ?_
  refine h_icmp_ge C dX11_init_51 (by decide) (by decide) rfl (tgt := 72) (fun c9 => absurd c9 (by decide)) (fun _ => ?_)
  refine h_aload C dX11_init_54 rfl ?_
  refine h_iload C dX11_init_56 rfl ?_
  refine h_new (ci := 0) (n1 := 68) (c1 := 67) (s1 := 8868) C dX11_init_58 rfl (Nat.le_of_ble_eq_true rfl) cl_11_21 ins_0 ini_0 (by decide +kernel) ⟨Nat.le_of_ble_eq_true rfl, Nat.le_of_ble_eq_true rfl⟩ rfl rfl rfl ?_
  refine h_dup C dX11_init_61 rfl ?_
  refine h_callIN (n := 0) (As := []) (c1 := 73) (s1 := 9111) C dX11_init_62 cd_X0_init im_X0_init ini_0 ⟨nh_0.1, nh_0.2, by decide +kernel⟩ rfl C.2.2.2.2.2.2.2.2.2.2.1 ci_X0_init_67 rfl ⟨rfl, rfl⟩ ⟨Nat.le_of_ble_eq_true rfl, Nat.le_of_ble_eq_true rfl⟩ ⟨Nat.le_of_ble_eq_true rfl, Nat.le_of_ble_eq_true rfl⟩ rfl (Nat.le_of_ble_eq_true rfl) rfl rfl ?_
  refine h_aast (t1 := 68) C dX11_init_65 rfl rfl (Nat.le_of_ble_eq_true rfl) (Nat.le_of_ble_eq_true rfl) (Nat.le_of_ble_eq_true rfl) (by decide) (by decide) rfl rfl rfl rfl ?_
  refine h_iinc (L1 := [some (rv w 0), some (rv w 1), some (rv w 16), some (rv w 22), some (rv w 30), some (rv w 38), some (iv 5)]) C dX11_init_66 rfl rfl (Nat.le_of_ble_eq_true rfl) rfl ?_
  refine h_goto C dX11_init_69 rfl (tgt := 47) ?_
  refine h_iload C dX11_init_47 rfl ?_
  refine h_bipush C dX11_init_49 rfl ?_
  refine h_icmp_ge C dX11_init_51 (by decide) (by decide) rfl (tgt := 72) (fun c9 => absurd c9 (by decide)) (fun _ => ?_)
  refine h_aload C dX11_init_54 rfl ?_
  refine h_iload C dX11_init_56 rfl ?_
  refine h_new (ci := 0) (n1 := 75) (c1 := 74) (s1 := 9130) C dX11_init_58 rfl (Nat.le_of_ble_eq_true rfl) cl_11_21 ins_0 ini_0 (by decide +kernel) ⟨Nat.le_of_ble_eq_true rfl, Nat.le_of_ble_eq_true rfl⟩ rfl rfl rfl ?_
  refine h_dup C dX11_init_61 rfl ?_
  refine h_callIN (n := 0) (As := []) (c1 := 80) (s1 := 9373) C dX11_init_62 cd_X0_init im_X0_init ini_0 ⟨nh_0.1, nh_0.2, by decide +kernel⟩ rfl C.2.2.2.2.2.2.2.2.2.2.1 ci_X0_init_74 rfl ⟨rfl, rfl⟩ ⟨Nat.le_of_ble_eq_true rfl, Nat.le_of_ble_eq_true rfl⟩ ⟨Nat.le_of_ble_eq_true rfl, Nat.le_of_ble_eq_true rfl⟩ rfl (Nat.le_of_ble_eq_true rfl) rfl rfl ?_
  refine h_aast (t1 := 75) C dX11_init_65 rfl rfl (Nat.le_of_ble_eq_true rfl) (Nat.le_of_ble_eq_true rfl) (Nat.le_of_ble_eq_true rfl) (by decide) (by decide) rfl rfl rfl rfl ?_
  refine h_iinc (L1 := [some (rv w 0), some (rv w 1), some (rv w 16), some (rv w 22), some (rv w 30), some (rv w 38), some (iv 6)]) C dX11_init_66 rfl rfl (Nat.le_of_ble_eq_true rfl) rfl ?_
  refine h_goto C dX11_init_69 rfl (tgt := 47) ?_
  refine h_iload C dX11_init_47 rfl ?_
  refine h_bipush C dX11_init_49 rfl ?_
  refine h_icmp_ge C dX11_init_51 (by decide) (by decide) rfl (tgt := 72) (fun c9 => absurd c9 (by decide)) (fun _ => ?_)
  refine h_aload C dX11_init_54 rfl ?_
  refine h_iload C dX11_init_56 rfl ?_
  refine h_new (ci := 0) (n1 := 82) (c1 := 81) (s1 := 9392) C dX11_init_58 rfl (Nat.le_of_ble_eq_true rfl) cl_11_21 ins_0 ini_0 (by decide +kernel) ⟨Nat.le_of_ble_eq_true rfl, Nat.le_of_ble_eq_true rfl⟩ rfl rfl rfl ?_
  refine h_dup C dX11_init_61 rfl ?_
  refine h_callIN (n := 0) (As := []) (c1 := 87) (s1 := 9635) C dX11_init_62 cd_X0_init im_X0_init ini_0 ⟨nh_0.1, nh_0.2, by decide +kernel⟩ rfl C.2.2.2.2.2.2.2.2.2.2.1 ci_X0_init_81 rfl ⟨rfl, rfl⟩ ⟨Nat.le_of_ble_eq_true rfl, Nat.le_of_ble_eq_true rfl⟩ ⟨Nat.le_of_ble_eq_true rfl, Nat.le_of_ble_eq_true rfl⟩ rfl (Nat.le_of_ble_eq_true rfl) rfl rfl ?_
  refine h_aast (t1 := 82) C dX11_init_65 rfl rfl (Nat.le_of_ble_eq_true rfl) (Nat.le_of_ble_eq_true rfl) (Nat.le_of_ble_eq_true rfl) (by decide) (by decide) rfl rfl rfl rfl ?_
  refine h_iinc (L1 := [some (rv w 0), some (rv w 1), some (rv w 16), some (rv w 22), some (rv w 30), some (rv w 38), some (iv 7)]) C dX11_init_66 rfl rfl (Nat.le_of_ble_eq_true rfl) rfl ?_
  refine h_goto C dX11_init_69 rfl (tgt := 47) ?_
  refine h_iload C dX11_init_47 rfl ?_
  refine h_bipush C dX11_init_49 rfl ?_
  refine h_icmp_ge C dX11_init_51 (by decide) (by decide) rfl (tgt := 72) (fun c9 => absurd c9 (by decide)) (fun _ => ?_)
  refine h_aload C dX11_init_54 rfl ?_
  refine h_iload C dX11_init_56 rfl ?_
  refine h_new (ci := 0) (n1 := 89) (c1 := 88) (s1 := 9654) C dX11_init_58 rfl (Nat.le_of_ble_eq_true rfl) cl_11_21 ins_0 ini_0 (by decide +kernel) ⟨Nat.le_of_ble_eq_true rfl, Nat.le_of_ble_eq_true rfl⟩ rfl rfl rfl ?_
  refine h_dup C dX11_init_61 rfl ?_
  refine h_callIN (n := 0) (As := []) (c1 := 94) (s1 := 9897) C dX11_init_62 cd_X0_init im_X0_init ini_0 ⟨nh_0.1, nh_0.2, by decide +kernel⟩ rfl C.2.2.2.2.2.2.2.2.2.2.1 ci_X0_init_88 rfl ⟨rfl, rfl⟩ ⟨Nat.le_of_ble_eq_true rfl, Nat.le_of_ble_eq_true rfl⟩ ⟨Nat.le_of_ble_eq_true rfl, Nat.le_of_ble_eq_true rfl⟩ rfl (Nat.le_of_ble_eq_true rfl) rfl rfl ?_
  refine h_aast (t1 := 89) C dX11_init_65 rfl rfl (Nat.le_of_ble_eq_true rfl) (Nat.le_of_ble_eq_true rfl) (Nat.le_of_ble_eq_true rfl) (by decide) (by decide) rfl rfl rfl rfl ?_
  refine h_iinc (L1 := [some (rv w 0), some (rv w 1), some (rv w 16), some (rv w 22), some (rv w 30), some (rv w 38), some (iv 8)]) C dX11_init_66 rfl rfl (Nat.le_of_ble_eq_true rfl) rfl ?_
  refine h_goto C dX11_init_69 rfl (tgt := 47) ?_
  refine h_iload C dX11_init_47 rfl ?_
  refine h_bipush C dX11_init_49 rfl ?_
  refine h_icmp_ge C dX11_init_51 (by decide) (by decide) rfl (tgt := 72) (fun _ => ?_) (fun c9 => absurd (by decide) c9)
  refine h_new (ci := 6) (n1 := 96) (c1 := 95) (s1 := 9905) C dX11_init_72 rfl (Nat.le_of_ble_eq_true rfl) cl_11_24 ins_6 ini_6 (by decide +kernel) ⟨Nat.le_of_ble_eq_true rfl, Nat.le_of_ble_eq_true rfl⟩ rfl rfl rfl ?_
  refine h_dup C dX11_init_75 rfl ?_
  refine h_aload_n C dX11_init_76 rfl ?_
  refine h_aload C dX11_init_77 rfl ?_
  refine h_callI (n := 2) (As := [rv w 1, rv w 30]) (c1 := 117) (s1 := 11841) C dX11_init_79 cd_X6_init im_X6_init ini_6 ⟨nh_6.1, nh_6.2, by decide +kernel⟩ rfl ml_11_26 ci_X6_init_95 rfl ⟨rfl, rfl⟩ ⟨Nat.le_of_ble_eq_true rfl, Nat.le_of_ble_eq_true rfl⟩ ⟨Nat.le_of_ble_eq_true rfl, Nat.le_of_ble_eq_true rfl⟩ rfl (Nat.le_of_ble_eq_true rfl) rfl rfl ?_
  refine h_astore (L1 := [some (rv w 0), some (rv w 1), some (rv w 16), some (rv w 22), some (rv w 30), some (rv w 38), some (rv w 95)]) C dX11_init_82 rfl (Nat.le_of_ble_eq_true rfl) rfl ?_
  refine h_aload_n C dX11_init_84 rfl ?_
  refine h_aload_n C dX11_init_85 rfl ?_
  refine h_putR (j := 0) (t1 := 114) C dX11_init_86 rfl (Nat.le_of_ble_eq_true rfl) (Nat.le_of_ble_eq_true rfl) (Nat.le_of_ble_eq_true rfl) (Nat.le_of_ble_eq_true rfl) fl_11_29 rfl rfl rfl hnm rfl rfl (fun _ => rfl) (fun _ => rfl) rfl rfl rfl rfl ?_
  refine h_aload_n C dX11_init_89 rfl ?_
  refine h_aload_n C dX11_init_90 rfl ?_
  refine h_putR (j := 1) (t1 := 115) C dX11_init_91 rfl (Nat.le_of_ble_eq_true rfl) (Nat.le_of_ble_eq_true rfl) (Nat.le_of_ble_eq_true rfl) (Nat.le_of_ble_eq_true rfl) fl_11_33 rfl rfl rfl hnm rfl rfl (fun _ => rfl) (fun _ => rfl) rfl rfl rfl rfl ?_
  refine h_aload_n C dX11_init_94 rfl ?_
  refine h_aload_n C dX11_init_95 rfl ?_
  refine h_putR (j := 2) (t1 := 116) C dX11_init_96 rfl (Nat.le_of_ble_eq_true rfl) (Nat.le_of_ble_eq_true rfl) (Nat.le_of_ble_eq_true rfl) (Nat.le_of_ble_eq_true rfl) fl_11_37 rfl rfl rfl hnm rfl rfl (fun _ => rfl) (fun _ => rfl) rfl rfl rfl rfl ?_
  refine h_aload_n C dX11_init_99 rfl ?_
  refine h_new (ci := 4) (n1 := 119) (c1 := 118) (s1 := 11856) C dX11_init_100 rfl (Nat.le_of_ble_eq_true rfl) cl_11_41 ins_4 ini_4 (by decide +kernel) ⟨Nat.le_of_ble_eq_true rfl, Nat.le_of_ble_eq_true rfl⟩ rfl rfl rfl ?_
  refine h_dup C dX11_init_103 rfl ?_
  refine h_aload_n C dX11_init_104 rfl ?_
  refine h_callI (n := 1) (As := [rv w 16]) (c1 := 128) (s1 := 14453) C dX11_init_105 cd_X4_init im_X4_init ini_4 ⟨nh_4.1, nh_4.2, by decide +kernel⟩ rfl ml_11_43 ci_X4_init_118 rfl ⟨rfl, rfl⟩ ⟨Nat.le_of_ble_eq_true rfl, Nat.le_of_ble_eq_true rfl⟩ ⟨Nat.le_of_ble_eq_true rfl, Nat.le_of_ble_eq_true rfl⟩ rfl (Nat.le_of_ble_eq_true rfl) rfl rfl ?_
  refine h_putR (j := 3) (t1 := 128) C dX11_init_108 rfl (Nat.le_of_ble_eq_true rfl) (Nat.le_of_ble_eq_true rfl) (Nat.le_of_ble_eq_true rfl) (Nat.le_of_ble_eq_true rfl) fl_11_46 rfl rfl rfl hnm rfl rfl (fun _ => rfl) (fun _ => rfl) rfl rfl rfl rfl ?_
  refine h_aload_n C dX11_init_111 rfl ?_
  refine h_aload C dX11_init_112 rfl ?_
  refine h_putR (j := 4) (t1 := 129) C dX11_init_114 rfl (Nat.le_of_ble_eq_true rfl) (Nat.le_of_ble_eq_true rfl) (Nat.le_of_ble_eq_true rfl) (Nat.le_of_ble_eq_true rfl) fl_11_50 rfl rfl rfl hnm rfl rfl (fun _ => rfl) (fun _ => rfl) rfl rfl rfl rfl ?_
  refine h_aload_n C dX11_init_117 rfl ?_
  refine h_aload C dX11_init_118 rfl ?_
  refine h_putR (j := 5) (t1 := 130) C dX11_init_120 rfl (Nat.le_of_ble_eq_true rfl) (Nat.le_of_ble_eq_true rfl) (Nat.le_of_ble_eq_true rfl) (Nat.le_of_ble_eq_true rfl) fl_11_54 rfl rfl rfl hnm rfl rfl (fun _ => rfl) (fun _ => rfl) rfl rfl rfl rfl ?_
  refine h_aload_n C dX11_init_123 rfl ?_
  refine h_new (ci := 8) (n1 := 130) (c1 := 129) (s1 := 14467) C dX11_init_124 rfl (Nat.le_of_ble_eq_true rfl) cl_11_58 ins_8 ini_8 (by decide +kernel) ⟨Nat.le_of_ble_eq_true rfl, Nat.le_of_ble_eq_true rfl⟩ rfl rfl rfl ?_
  refine h_dup C dX11_init_127 rfl ?_
  refine h_aload_n C dX11_init_128 rfl ?_
  refine h_aload_n C dX11_init_129 rfl ?_
  refine h_aload C dX11_init_130 rfl ?_
  refine h_aload C dX11_init_132 rfl ?_
  refine h_callI (n := 4) (As := [rv w 1, rv w 22, rv w 30, rv w 38]) (c1 := 152) (s1 := 15417) C dX11_init_134 cd_X8_init im_X8_init ini_8 ⟨nh_8.1, nh_8.2, by decide +kernel⟩ rfl ml_11_60 ci_X8_init_129 rfl ⟨rfl, rfl⟩ ⟨Nat.le_of_ble_eq_true rfl, Nat.le_of_ble_eq_true rfl⟩ ⟨Nat.le_of_ble_eq_true rfl, Nat.le_of_ble_eq_true rfl⟩ rfl (Nat.le_of_ble_eq_true rfl) rfl rfl ?_
  refine h_putR (j := 7) (t1 := 158) C dX11_init_137 rfl (Nat.le_of_ble_eq_true rfl) (Nat.le_of_ble_eq_true rfl) (Nat.le_of_ble_eq_true rfl) (Nat.le_of_ble_eq_true rfl) fl_11_63 rfl rfl rfl hnm rfl rfl (fun _ => rfl) (fun _ => rfl) rfl rfl rfl rfl ?_
  refine h_aload_n C dX11_init_140 rfl ?_
  refine h_aload C dX11_init_141 rfl ?_
  refine h_putR (j := 8) (t1 := 159) C dX11_init_143 rfl (Nat.le_of_ble_eq_true rfl) (Nat.le_of_ble_eq_true rfl) (Nat.le_of_ble_eq_true rfl) (Nat.le_of_ble_eq_true rfl) fl_11_67 rfl rfl rfl hnm rfl rfl (fun _ => rfl) (fun _ => rfl) rfl rfl rfl rfl ?_
  refine h_aload_n C dX11_init_146 rfl ?_
  refine h_new (ci := 7) (n1 := 154) (c1 := 153) (s1 := 15421) C dX11_init_147 rfl (Nat.le_of_ble_eq_true rfl) cl_11_71 ins_7 ini_7 (by decide +kernel) ⟨Nat.le_of_ble_eq_true rfl, Nat.le_of_ble_eq_true rfl⟩ rfl rfl rfl ?_
  refine h_dup C dX11_init_150 rfl ?_
  refine h_aload_n C dX11_init_151 rfl ?_
  refine h_aload C dX11_init_152 rfl ?_
  refine h_callI (n := 2) (As := [rv w 1, rv w 95]) (c1 := 163) (s1 := 16205) C dX11_init_154 cd_X7_init im_X7_init ini_7 ⟨nh_7.1, nh_7.2, by decide +kernel⟩ rfl ml_11_73 ci_X7_init_153 rfl ⟨rfl, rfl⟩ ⟨Nat.le_of_ble_eq_true rfl, Nat.le_of_ble_eq_true rfl⟩ ⟨Nat.le_of_ble_eq_true rfl, Nat.le_of_ble_eq_true rfl⟩ rfl (Nat.le_of_ble_eq_true rfl) rfl rfl ?_
  refine h_putR (j := 9) (t1 := 172) C dX11_init_157 rfl (Nat.le_of_ble_eq_true rfl) (Nat.le_of_ble_eq_true rfl) (Nat.le_of_ble_eq_true rfl) (Nat.le_of_ble_eq_true rfl) fl_11_76 rfl rfl rfl hnm rfl rfl (fun _ => rfl) (fun _ => rfl) rfl rfl rfl rfl ?_
  refine h_aload_n C dX11_init_160 rfl ?_
  refine h_new (ci := 2) (n1 := 165) (c1 := 164) (s1 := 16211) C dX11_init_161 rfl (Nat.le_of_ble_eq_true rfl) cl_11_80 ins_2 ini_2 (by decide +kernel) ⟨Nat.le_of_ble_eq_true rfl, Nat.le_of_ble_eq_true rfl⟩ rfl rfl rfl ?_
  refine h_dup C dX11_init_164 rfl ?_
  refine h_callI (n := 0) (As := []) (c1 := 169) (s1 := 16241) C dX11_init_165 cd_X2_init im_X2_init ini_2 ⟨nh_2.1, nh_2.2, by decide +kernel⟩ rfl ml_11_82 ci_X2_init_164 rfl ⟨rfl, rfl⟩ ⟨Nat.le_of_ble_eq_true rfl, Nat.le_of_ble_eq_true rfl⟩ ⟨Nat.le_of_ble_eq_true rfl, Nat.le_of_ble_eq_true rfl⟩ rfl (Nat.le_of_ble_eq_true rfl) rfl rfl ?_
  refine h_putR (j := 10) (t1 := 178) C dX11_init_168 rfl (Nat.le_of_ble_eq_true rfl) (Nat.le_of_ble_eq_true rfl) (Nat.le_of_ble_eq_true rfl) (Nat.le_of_ble_eq_true rfl) fl_11_83 rfl rfl rfl hnm rfl rfl (fun _ => rfl) (fun _ => rfl) rfl rfl rfl rfl ?_
  exact h_vret C dX11_init_171 hr hlk ⟨rfl, rfl, rfl⟩ ⟨rfl, rfl⟩ rfl
theorem dX12_init_0 : decode cX12_init 0 = .ok (.aload_n 0, 1) := by decide +kernel
theorem dX12_init_1 : decode cX12_init 1 = .ok (.invokespecial 7, 3) := by decide +kernel
theorem dX12_init_4 : decode cX12_init 4 = .ok (.aload_n 0, 1) := by decide +kernel
theorem dX12_init_5 : decode cX12_init 5 = .ok (.sipush 2000, 3) := by decide +kernel
theorem dX12_init_8 : decode cX12_init 8 = .ok (.newarray .byte, 2) := by decide +kernel
theorem dX12_init_10 : decode cX12_init 10 = .ok (.putfield 13, 3) := by decide +kernel
theorem dX12_init_13 : decode cX12_init 13 = .ok (.aload_n 0, 1) := by decide +kernel
theorem dX12_init_14 : decode cX12_init 14 = .ok (.sipush 2000, 3) := by decide +kernel
theorem dX12_init_17 : decode cX12_init 17 = .ok (.newarray .byte, 2) := by decide +kernel
theorem dX12_init_19 : decode cX12_init 19 = .ok (.putfield 17, 3) := by decide +kernel
theorem dX12_init_22 : decode cX12_init 22 = .ok (.aload_n 0, 1) := by decide +kernel
theorem dX12_init_23 : decode cX12_init 23 = .ok (.sipush 503, 3) := by decide +kernel
theorem dX12_init_26 : decode cX12_init 26 = .ok (.newarray .int, 2) := by decide +kernel
theorem dX12_init_28 : decode cX12_init 28 = .ok (.putfield 20, 3) := by decide +kernel
theorem dX12_init_31 : decode cX12_init 31 = .ok (.aload_n 0, 1) := by decide +kernel
theorem dX12_init_32 : decode cX12_init 32 = .ok (.sipush 503, 3) := by decide +kernel
theorem dX12_init_35 : decode cX12_init 35 = .ok (.newarray .int, 2) := by decide +kernel
theorem dX12_init_37 : decode cX12_init 37 = .ok (.putfield 24, 3) := by decide +kernel
theorem dX12_init_40 : decode cX12_init 40 = .ok (.aload_n 0, 1) := by decide +kernel
theorem dX12_init_41 : decode cX12_init 41 = .ok (.sipush 503, 3) := by decide +kernel
theorem dX12_init_44 : decode cX12_init 44 = .ok (.newarray .int, 2) := by decide +kernel
theorem dX12_init_46 : decode cX12_init 46 = .ok (.putfield 27, 3) := by decide +kernel
theorem dX12_init_49 : decode cX12_init 49 = .ok (.aload_n 0, 1) := by decide +kernel
theorem dX12_init_50 : decode cX12_init 50 = .ok (.sipush 503, 3) := by decide +kernel
theorem dX12_init_53 : decode cX12_init 53 = .ok (.newarray .long, 2) := by decide +kernel
theorem dX12_init_55 : decode cX12_init 55 = .ok (.putfield 30, 3) := by decide +kernel
theorem dX12_init_58 : decode cX12_init 58 = .ok (.aload_n 0, 1) := by decide +kernel
theorem dX12_init_59 : decode cX12_init 59 = .ok (.bipush 26, 2) := by decide +kernel
theorem dX12_init_61 : decode cX12_init 61 = .ok (.newarray .long, 2) := by decide +kernel
theorem dX12_init_63 : decode cX12_init 63 = .ok (.putfield 34, 3) := by decide +kernel
theorem dX12_init_66 : decode cX12_init 66 = .ok (.aload_n 0, 1) := by decide +kernel
theorem dX12_init_67 : decode cX12_init 67 = .ok (.iconst (-1), 1) := by decide +kernel
theorem dX12_init_68 : decode cX12_init 68 = .ok (.putfield 37, 3) := by decide +kernel
theorem dX12_init_71 : decode cX12_init 71 = .ok (.aload_n 0, 1) := by decide +kernel
theorem dX12_init_72 : decode cX12_init 72 = .ok (.iconst 2, 1) := by decide +kernel
theorem dX12_init_73 : decode cX12_init 73 = .ok (.newarray .int, 2) := by decide +kernel
theorem dX12_init_75 : decode cX12_init 75 = .ok (.putfield 40, 3) := by decide +kernel
theorem dX12_init_78 : decode cX12_init 78 = .ok (.aload_n 0, 1) := by decide +kernel
theorem dX12_init_79 : decode cX12_init 79 = .ok (.bipush 16, 2) := by decide +kernel
theorem dX12_init_81 : decode cX12_init 81 = .ok (.newarray .long, 2) := by decide +kernel
theorem dX12_init_83 : decode cX12_init 83 = .ok (.putfield 43, 3) := by decide +kernel
theorem dX12_init_86 : decode cX12_init 86 = .ok (.aload_n 0, 1) := by decide +kernel
theorem dX12_init_87 : decode cX12_init 87 = .ok (.bipush 16, 2) := by decide +kernel
theorem dX12_init_89 : decode cX12_init 89 = .ok (.newarray .int, 2) := by decide +kernel
theorem dX12_init_91 : decode cX12_init 91 = .ok (.putfield 46, 3) := by decide +kernel
theorem dX12_init_94 : decode cX12_init 94 = .ok (.aload_n 0, 1) := by decide +kernel
theorem dX12_init_95 : decode cX12_init 95 = .ok (.sipush 2000, 3) := by decide +kernel
theorem dX12_init_98 : decode cX12_init 98 = .ok (.newarray .int, 2) := by decide +kernel
theorem dX12_init_100 : decode cX12_init 100 = .ok (.putfield 49, 3) := by decide +kernel
theorem dX12_init_103 : decode cX12_init 103 = .ok (.aload_n 0, 1) := by decide +kernel
theorem dX12_init_104 : decode cX12_init 104 = .ok (.sipush 2000, 3) := by decide +kernel
theorem dX12_init_107 : decode cX12_init 107 = .ok (.newarray .int, 2) := by decide +kernel
theorem dX12_init_109 : decode cX12_init 109 = .ok (.putfield 52, 3) := by decide +kernel
theorem dX12_init_112 : decode cX12_init 112 = .ok (.aload_n 0, 1) := by decide +kernel
theorem dX12_init_113 : decode cX12_init 113 = .ok (.sipush 2000, 3) := by decide +kernel
theorem dX12_init_116 : decode cX12_init 116 = .ok (.newarray .int, 2) := by decide +kernel
theorem dX12_init_118 : decode cX12_init 118 = .ok (.putfield 55, 3) := by decide +kernel
theorem dX12_init_121 : decode cX12_init 121 = .ok (.aload_n 0, 1) := by decide +kernel
theorem dX12_init_122 : decode cX12_init 122 = .ok (.sipush 2000, 3) := by decide +kernel
theorem dX12_init_125 : decode cX12_init 125 = .ok (.newarray .int, 2) := by decide +kernel
theorem dX12_init_127 : decode cX12_init 127 = .ok (.putfield 58, 3) := by decide +kernel
theorem dX12_init_130 : decode cX12_init 130 = .ok (.aload_n 0, 1) := by decide +kernel
theorem dX12_init_131 : decode cX12_init 131 = .ok (.bipush 8, 2) := by decide +kernel
theorem dX12_init_133 : decode cX12_init 133 = .ok (.newarray .int, 2) := by decide +kernel
theorem dX12_init_135 : decode cX12_init 135 = .ok (.putfield 61, 3) := by decide +kernel
theorem dX12_init_138 : decode cX12_init 138 = .ok (.aload_n 0, 1) := by decide +kernel
theorem dX12_init_139 : decode cX12_init 139 = .ok (.bipush 8, 2) := by decide +kernel
theorem dX12_init_141 : decode cX12_init 141 = .ok (.newarray .int, 2) := by decide +kernel
theorem dX12_init_143 : decode cX12_init 143 = .ok (.putfield 64, 3) := by decide +kernel
theorem dX12_init_146 : decode cX12_init 146 = .ok (.aload_n 0, 1) := by decide +kernel
theorem dX12_init_147 : decode cX12_init 147 = .ok (.bipush 24, 2) := by decide +kernel
theorem dX12_init_149 : decode cX12_init 149 = .ok (.newarray .int, 2) := by decide +kernel
theorem dX12_init_151 : decode cX12_init 151 = .ok (.putfield 67, 3) := by decide +kernel
theorem dX12_init_154 : decode cX12_init 154 = .ok (.aload_n 0, 1) := by decide +kernel
theorem dX12_init_155 : decode cX12_init 155 = .ok (.bipush 24, 2) := by decide +kernel
theorem dX12_init_157 : decode cX12_init 157 = .ok (.newarray .int, 2) := by decide +kernel
theorem dX12_init_159 : decode cX12_init 159 = .ok (.putfield 70, 3) := by decide +kernel
theorem dX12_init_162 : decode cX12_init 162 = .ok (.aload_n 0, 1) := by decide +kernel
theorem dX12_init_163 : decode cX12_init 163 = .ok (.bipush 24, 2) := by decide +kernel
theorem dX12_init_165 : decode cX12_init 165 = .ok (.newarray .int, 2) := by decide +kernel
theorem dX12_init_167 : decode cX12_init 167 = .ok (.putfield 73, 3) := by decide +kernel
theorem dX12_init_170 : decode cX12_init 170 = .ok (.aload_n 0, 1) := by decide +kernel
theorem dX12_init_171 : decode cX12_init 171 = .ok (.bipush 8, 2) := by decide +kernel
theorem dX12_init_173 : decode cX12_init 173 = .ok (.newarray .int, 2) := by decide +kernel
theorem dX12_init_175 : decode cX12_init 175 = .ok (.putfield 76, 3) := by decide +kernel
theorem dX12_init_178 : decode cX12_init 178 = .ok (.aload_n 0, 1) := by decide +kernel
theorem dX12_init_179 : decode cX12_init 179 = .ok (.bipush 8, 2) := by decide +kernel
theorem dX12_init_181 : decode cX12_init 181 = .ok (.newarray .int, 2) := by decide +kernel
theorem dX12_init_183 : decode cX12_init 183 = .ok (.putfield 79, 3) := by decide +kernel
theorem dX12_init_186 : decode cX12_init 186 = .ok (.aload_n 0, 1) := by decide +kernel
theorem dX12_init_187 : decode cX12_init 187 = .ok (.bipush 8, 2) := by decide +kernel
theorem dX12_init_189 : decode cX12_init 189 = .ok (.newarray .int, 2) := by decide +kernel
theorem dX12_init_191 : decode cX12_init 191 = .ok (.putfield 82, 3) := by decide +kernel
theorem dX12_init_194 : decode cX12_init 194 = .ok (.aload_n 0, 1) := by decide +kernel
theorem dX12_init_195 : decode cX12_init 195 = .ok (.bipush 100, 2) := by decide +kernel
theorem dX12_init_197 : decode cX12_init 197 = .ok (.newarray .int, 2) := by decide +kernel
theorem dX12_init_199 : decode cX12_init 199 = .ok (.putfield 85, 3) := by decide +kernel
theorem dX12_init_202 : decode cX12_init 202 = .ok (.aload_n 0, 1) := by decide +kernel
theorem dX12_init_203 : decode cX12_init 203 = .ok (.bipush 100, 2) := by decide +kernel
theorem dX12_init_205 : decode cX12_init 205 = .ok (.newarray .int, 2) := by decide +kernel
theorem dX12_init_207 : decode cX12_init 207 = .ok (.putfield 88, 3) := by decide +kernel
theorem dX12_init_210 : decode cX12_init 210 = .ok (.aload_n 0, 1) := by decide +kernel
theorem dX12_init_211 : decode cX12_init 211 = .ok (.sipush 150, 3) := by decide +kernel
theorem dX12_init_214 : decode cX12_init 214 = .ok (.newarray .int, 2) := by decide +kernel
theorem dX12_init_216 : decode cX12_init 216 = .ok (.putfield 91, 3) := by decide +kernel
theorem dX12_init_219 : decode cX12_init 219 = .ok (.aload_n 0, 1) := by decide +kernel
theorem dX12_init_220 : decode cX12_init 220 = .ok (.sipush 150, 3) := by decide +kernel
theorem dX12_init_223 : decode cX12_init 223 = .ok (.newarray .int, 2) := by decide +kernel
theorem dX12_init_225 : decode cX12_init 225 = .ok (.putfield 94, 3) := by decide +kernel
theorem dX12_init_228 : decode cX12_init 228 = .ok (.aload_n 0, 1) := by decide +kernel
theorem dX12_init_229 : decode cX12_init 229 = .ok (.sipush 150, 3) := by decide +kernel
theorem dX12_init_232 : decode cX12_init 232 = .ok (.newarray .int, 2) := by decide +kernel
theorem dX12_init_234 : decode cX12_init 234 = .ok (.putfield 97, 3) := by decide +kernel
theorem dX12_init_237 : decode cX12_init 237 = .ok (.aload_n 0, 1) := by decide +kernel
theorem dX12_init_238 : decode cX12_init 238 = .ok (.sipush 150, 3) := by decide +kernel
theorem dX12_init_241 : decode cX12_init 241 = .ok (.newarray .int, 2) := by decide +kernel
theorem dX12_init_243 : decode cX12_init 243 = .ok (.putfield 100, 3) := by decide +kernel
theorem dX12_init_246 : decode cX12_init 246 = .ok (.aload_n 0, 1) := by decide +kernel
theorem dX12_init_247 : decode cX12_init 247 = .ok (.sipush 150, 3) := by decide +kernel
theorem dX12_init_250 : decode cX12_init 250 = .ok (.newarray .int, 2) := by decide +kernel
theorem dX12_init_252 : decode cX12_init 252 = .ok (.putfield 103, 3) := by decide +kernel
theorem dX12_init_255 : decode cX12_init 255 = .ok (.aload_n 0, 1) := by decide +kernel
theorem dX12_init_256 : decode cX12_init 256 = .ok (.sipush 960, 3) := by decide +kernel
theorem dX12_init_259 : decode cX12_init 259 = .ok (.newarray .boolean, 2) := by decide +kernel
theorem dX12_init_261 : decode cX12_init 261 = .ok (.putfield 106, 3) := by decide +kernel
theorem dX12_init_264 : decode cX12_init 264 = .ok (.aload_n 0, 1) := by decide +kernel
theorem dX12_init_265 : decode cX12_init 265 = .ok (.iconst (-1), 1) := by decide +kernel
theorem dX12_init_266 : decode cX12_init 266 = .ok (.putfield 110, 3) := by decide +kernel
theorem dX12_init_269 : decode cX12_init 269 = .ok (.aload_n 0, 1) := by decide +kernel
theorem dX12_init_270 : decode cX12_init 270 = .ok (.sipush 768, 3) := by decide +kernel
theorem dX12_init_273 : decode cX12_init 273 = .ok (.newarray .int, 2) := by decide +kernel
theorem dX12_init_275 : decode cX12_init 275 = .ok (.putfield 113, 3) := by decide +kernel
theorem dX12_init_278 : decode cX12_init 278 = .ok (.aload_n 0, 1) := by decide +kernel
theorem dX12_init_279 : decode cX12_init 279 = .ok (.bipush 64, 2) := by decide +kernel
theorem dX12_init_281 : decode cX12_init 281 = .ok (.newarray .int, 2) := by decide +kernel
theorem dX12_init_283 : decode cX12_init 283 = .ok (.putfield 116, 3) := by decide +kernel
theorem dX12_init_286 : decode cX12_init 286 = .ok (.aload_n 0, 1) := by decide +kernel
theorem dX12_init_287 : decode cX12_init 287 = .ok (.bipush 64, 2) := by decide +kernel
theorem dX12_init_289 : decode cX12_init 289 = .ok (.newarray .int, 2) := by decide +kernel
theorem dX12_init_291 : decode cX12_init 291 = .ok (.putfield 119, 3) := by decide +kernel
theorem dX12_init_294 : decode cX12_init 294 = .ok (.aload_n 0, 1) := by decide +kernel
theorem dX12_init_295 : decode cX12_init 295 = .ok (.bipush 8, 2) := by decide +kernel
theorem dX12_init_297 : decode cX12_init 297 = .ok (.newarray .int, 2) := by decide +kernel
theorem dX12_init_299 : decode cX12_init 299 = .ok (.putfield 122, 3) := by decide +kernel
theorem dX12_init_302 : decode cX12_init 302 = .ok (.aload_n 0, 1) := by decide +kernel
theorem dX12_init_303 : decode cX12_init 303 = .ok (.bipush 10, 2) := by decide +kernel
theorem dX12_init_305 : decode cX12_init 305 = .ok (.newarray .int, 2) := by decide +kernel
theorem dX12_init_307 : decode cX12_init 307 = .ok (.putfield 125, 3) := by decide +kernel
theorem dX12_init_310 : decode cX12_init 310 = .ok (.aload_n 0, 1) := by decide +kernel
theorem dX12_init_311 : decode cX12_init 311 = .ok (.bipush 80, 2) := by decide +kernel
theorem dX12_init_313 : decode cX12_init 313 = .ok (.newarray .int, 2) := by decide +kernel
theorem dX12_init_315 : decode cX12_init 315 = .ok (.putfield 128, 3) := by decide +kernel
theorem dX12_init_318 : decode cX12_init 318 = .ok (.aload_n 0, 1) := by decide +kernel
theorem dX12_init_319 : decode cX12_init 319 = .ok (.bipush 64, 2) := by decide +kernel
theorem dX12_init_321 : decode cX12_init 321 = .ok (.newarray .int, 2) := by decide +kernel
theorem dX12_init_323 : decode cX12_init 323 = .ok (.putfield 131, 3) := by decide +kernel
theorem dX12_init_326 : decode cX12_init 326 = .ok (.aload_n 0, 1) := by decide +kernel
theorem dX12_init_327 : decode cX12_init 327 = .ok (.bipush 8, 2) := by decide +kernel
theorem dX12_init_329 : decode cX12_init 329 = .ok (.newarray .int, 2) := by decide +kernel
theorem dX12_init_331 : decode cX12_init 331 = .ok (.putfield 134, 3) := by decide +kernel
theorem dX12_init_334 : decode cX12_init 334 = .ok (.aload_n 0, 1) := by decide +kernel
theorem dX12_init_335 : decode cX12_init 335 = .ok (.bipush 8, 2) := by decide +kernel
theorem dX12_init_337 : decode cX12_init 337 = .ok (.newarray .int, 2) := by decide +kernel
theorem dX12_init_339 : decode cX12_init 339 = .ok (.putfield 137, 3) := by decide +kernel
theorem dX12_init_342 : decode cX12_init 342 = .ok (.aload_n 0, 1) := by decide +kernel
theorem dX12_init_343 : decode cX12_init 343 = .ok (.sipush 768, 3) := by decide +kernel
theorem dX12_init_346 : decode cX12_init 346 = .ok (.newarray .int, 2) := by decide +kernel
theorem dX12_init_348 : decode cX12_init 348 = .ok (.putfield 140, 3) := by decide +kernel
theorem dX12_init_351 : decode cX12_init 351 = .ok (.aload_n 0, 1) := by decide +kernel
theorem dX12_init_352 : decode cX12_init 352 = .ok (.bipush 8, 2) := by decide +kernel
theorem dX12_init_354 : decode cX12_init 354 = .ok (.newarray .int, 2) := by decide +kernel
theorem dX12_init_356 : decode cX12_init 356 = .ok (.putfield 143, 3) := by decide +kernel
theorem dX12_init_359 : decode cX12_init 359 = .ok (.aload_n 0, 1) := by decide +kernel
theorem dX12_init_360 : decode cX12_init 360 = .ok (.bipush 8, 2) := by decide +kernel
theorem dX12_init_362 : decode cX12_init 362 = .ok (.newarray .int, 2) := by decide +kernel
theorem dX12_init_364 : decode cX12_init 364 = .ok (.putfield 146, 3) := by decide +kernel
theorem dX12_init_367 : decode cX12_init 367 = .ok (.aload_n 0, 1) := by decide +kernel
theorem dX12_init_368 : decode cX12_init 368 = .ok (.bipush 8, 2) := by decide +kernel
theorem dX12_init_370 : decode cX12_init 370 = .ok (.newarray .int, 2) := by decide +kernel
theorem dX12_init_372 : decode cX12_init 372 = .ok (.putfield 149, 3) := by decide +kernel
theorem dX12_init_375 : decode cX12_init 375 = .ok (.aload_n 0, 1) := by decide +kernel
theorem dX12_init_376 : decode cX12_init 376 = .ok (.bipush 8, 2) := by decide +kernel
theorem dX12_init_378 : decode cX12_init 378 = .ok (.newarray .int, 2) := by decide +kernel
theorem dX12_init_380 : decode cX12_init 380 = .ok (.putfield 152, 3) := by decide +kernel
theorem dX12_init_383 : decode cX12_init 383 = .ok (.aload_n 0, 1) := by decide +kernel
theorem dX12_init_384 : decode cX12_init 384 = .ok (.bipush 8, 2) := by decide +kernel
theorem dX12_init_386 : decode cX12_init 386 = .ok (.newarray .int, 2) := by decide +kernel
theorem dX12_init_388 : decode cX12_init 388 = .ok (.putfield 155, 3) := by decide +kernel
theorem dX12_init_391 : decode cX12_init 391 = .ok (.aload_n 0, 1) := by decide +kernel
theorem dX12_init_392 : decode cX12_init 392 = .ok (.bipush 8, 2) := by decide +kernel
theorem dX12_init_394 : decode cX12_init 394 = .ok (.newarray .int, 2) := by decide +kernel
theorem dX12_init_396 : decode cX12_init 396 = .ok (.putfield 158, 3) := by decide +kernel
theorem dX12_init_399 : decode cX12_init 399 = .ok (.aload_n 0, 1) := by decide +kernel
theorem dX12_init_400 : decode cX12_init 400 = .ok (.bipush 8, 2) := by decide +kernel
theorem dX12_init_402 : decode cX12_init 402 = .ok (.newarray .int, 2) := by decide +kernel
theorem dX12_init_404 : decode cX12_init 404 = .ok (.putfield 161, 3) := by decide +kernel
theorem dX12_init_407 : decode cX12_init 407 = .ok (.aload_n 0, 1) := by decide +kernel
theorem dX12_init_408 : decode cX12_init 408 = .ok (.bipush 8, 2) := by decide +kernel
theorem dX12_init_410 : decode cX12_init 410 = .ok (.newarray .int, 2) := by decide +kernel
theorem dX12_init_412 : decode cX12_init 412 = .ok (.putfield 164, 3) := by decide +kernel
theorem dX12_init_415 : decode cX12_init 415 = .ok (.aload_n 0, 1) := by decide +kernel
theorem dX12_init_416 : decode cX12_init 416 = .ok (.sipush 512, 3) := by decide +kernel
theorem dX12_init_419 : decode cX12_init 419 = .ok (.newarray .int, 2) := by decide +kernel
theorem dX12_init_421 : decode cX12_init 421 = .ok (.putfield 167, 3) := by decide +kernel
theorem dX12_init_424 : decode cX12_init 424 = .ok (.aload_n 0, 1) := by decide +kernel
theorem dX12_init_425 : decode cX12_init 425 = .ok (.sipush 512, 3) := by decide +kernel
theorem dX12_init_428 : decode cX12_init 428 = .ok (.newarray .int, 2) := by decide +kernel
theorem dX12_init_430 : decode cX12_init 430 = .ok (.putfield 170, 3) := by decide +kernel
theorem dX12_init_433 : decode cX12_init 433 = .ok (.aload_n 0, 1) := by decide +kernel
theorem dX12_init_434 : decode cX12_init 434 = .ok (.iconst (-1), 1) := by decide +kernel
theorem dX12_init_435 : decode cX12_init 435 = .ok (.putfield 173, 3) := by decide +kernel
theorem dX12_init_438 : decode cX12_init 438 = .ok (.aload_n 0, 1) := by decide +kernel
theorem dX12_init_439 : decode cX12_init 439 = .ok (.sipush 7680, 3) := by decide +kernel
theorem dX12_init_442 : decode cX12_init 442 = .ok (.newarray .boolean, 2) := by decide +kernel
theorem dX12_init_444 : decode cX12_init 444 = .ok (.putfield 176, 3) := by decide +kernel
theorem dX12_init_447 : decode cX12_init 447 = .ok (.aload_n 0, 1) := by decide +kernel
theorem dX12_init_448 : decode cX12_init 448 = .ok (.sipush 960, 3) := by decide +kernel
theorem dX12_init_451 : decode cX12_init 451 = .ok (.newarray .boolean, 2) := by decide +kernel
theorem dX12_init_453 : decode cX12_init 453 = .ok (.putfield 179, 3) := by decide +kernel
theorem dX12_init_456 : decode cX12_init 456 = .ok (.aload_n 0, 1) := by decide +kernel
theorem dX12_init_457 : decode cX12_init 457 = .ok (.sipush 960, 3) := by decide +kernel
theorem dX12_init_460 : decode cX12_init 460 = .ok (.newarray .boolean, 2) := by decide +kernel
theorem dX12_init_462 : decode cX12_init 462 = .ok (.putfield 182, 3) := by decide +kernel
theorem dX12_init_465 : decode cX12_init 465 = .ok (.aload_n 0, 1) := by decide +kernel
theorem dX12_init_466 : decode cX12_init 466 = .ok (.sipush 960, 3) := by decide +kernel
theorem dX12_init_469 : decode cX12_init 469 = .ok (.newarray .boolean, 2) := by decide +kernel
theorem dX12_init_471 : decode cX12_init 471 = .ok (.putfield 185, 3) := by decide +kernel
theorem dX12_init_474 : decode cX12_init 474 = .ok (.aload_n 0, 1) := by decide +kernel
theorem dX12_init_475 : decode cX12_init 475 = .ok (.sipush 768, 3) := by decide +kernel
theorem dX12_init_478 : decode cX12_init 478 = .ok (.newarray .boolean, 2) := by decide +kernel
theorem dX12_init_480 : decode cX12_init 480 = .ok (.putfield 188, 3) := by decide +kernel
theorem dX12_init_483 : decode cX12_init 483 = .ok (.aload_n 0, 1) := by decide +kernel
theorem dX12_init_484 : decode cX12_init 484 = .ok (.sipush 7680, 3) := by decide +kernel
theorem dX12_init_487 : decode cX12_init 487 = .ok (.newarray .boolean, 2) := by decide +kernel
theorem dX12_init_489 : decode cX12_init 489 = .ok (.putfield 191, 3) := by decide +kernel
theorem dX12_init_492 : decode cX12_init 492 = .ok (.aload_n 0, 1) := by decide +kernel
theorem dX12_init_493 : decode cX12_init 493 = .ok (.bipush 10, 2) := by decide +kernel
theorem dX12_init_495 : decode cX12_init 495 = .ok (.newarray .boolean, 2) := by decide +kernel
theorem dX12_init_497 : decode cX12_init 497 = .ok (.putfield 194, 3) := by decide +kernel
theorem dX12_init_500 : decode cX12_init 500 = .ok (.aload_n 0, 1) := by decide +kernel
theorem dX12_init_501 : decode cX12_init 501 = .ok (.iconst (-1), 1) := by decide +kernel
theorem dX12_init_502 : decode cX12_init 502 = .ok (.putfield 197, 3) := by decide +kernel
theorem dX12_init_505 : decode cX12_init 505 = .ok (.aload_n 0, 1) := by decide +kernel
theorem dX12_init_506 : decode cX12_init 506 = .ok (.bipush 8, 2) := by decide +kernel
theorem dX12_init_508 : decode cX12_init 508 = .ok (.newarray .int, 2) := by decide +kernel
theorem dX12_init_510 : decode cX12_init 510 = .ok (.putfield 200, 3) := by decide +kernel
theorem dX12_init_513 : decode cX12_init 513 = .ok (.aload_n 0, 1) := by decide +kernel
theorem dX12_init_514 : decode cX12_init 514 = .ok (.iconst 3, 1) := by decide +kernel
theorem dX12_init_515 : decode cX12_init 515 = .ok (.newarray .int, 2) := by decide +kernel
theorem dX12_init_517 : decode cX12_init 517 = .ok (.putfield 203, 3) := by decide +kernel
theorem dX12_init_520 : decode cX12_init 520 = .ok (.aload_n 0, 1) := by decide +kernel
theorem dX12_init_521 : decode cX12_init 521 = .ok (.bipush 8, 2) := by decide +kernel
theorem dX12_init_523 : decode cX12_init 523 = .ok (.newarray .int, 2) := by decide +kernel
theorem dX12_init_525 : decode cX12_init 525 = .ok (.putfield 206, 3) := by decide +kernel
theorem dX12_init_528 : decode cX12_init 528 = .ok (.aload_n 0, 1) := by decide +kernel
theorem dX12_init_529 : decode cX12_init 529 = .ok (.bipush 8, 2) := by decide +kernel
theorem dX12_init_531 : decode cX12_init 531 = .ok (.newarray .int, 2) := by decide +kernel
theorem dX12_init_533 : decode cX12_init 533 = .ok (.putfield 209, 3) := by decide +kernel
theorem dX12_init_536 : decode cX12_init 536 = .ok (.aload_n 0, 1) := by decide +kernel
theorem dX12_init_537 : decode cX12_init 537 = .ok (.bipush 8, 2) := by decide +kernel
theorem dX12_init_539 : decode cX12_init 539 = .ok (.newarray .int, 2) := by decide +kernel
theorem dX12_init_541 : decode cX12_init 541 = .ok (.putfield 212, 3) := by decide +kernel
theorem dX12_init_544 : decode cX12_init 544 = .ok (.aload_n 0, 1) := by decide +kernel
theorem dX12_init_545 : decode cX12_init 545 = .ok (.iconst 3, 1) := by decide +kernel
theorem dX12_init_546 : decode cX12_init 546 = .ok (.newarray .int, 2) := by decide +kernel
theorem dX12_init_548 : decode cX12_init 548 = .ok (.putfield 215, 3) := by decide +kernel
theorem dX12_init_551 : decode cX12_init 551 = .ok (.aload_n 0, 1) := by decide +kernel
theorem dX12_init_552 : decode cX12_init 552 = .ok (.getfield 34, 3) := by decide +kernel
theorem dX12_init_555 : decode cX12_init 555 = .ok (.iconst 0, 1) := by decide +kernel
theorem dX12_init_556 : decode cX12_init 556 = .ok (.bipush 99, 2) := by decide +kernel
theorem dX12_init_558 : decode cX12_init 558 = .ok (.bipush 111, 2) := by decide +kernel
theorem dX12_init_560 : decode cX12_init 560 = .ok (.bipush 100, 2) := by decide +kernel
theorem dX12_init_562 : decode cX12_init 562 = .ok (.bipush 101, 2) := by decide +kernel
theorem dX12_init_564 : decode cX12_init 564 = .ok (.iconst 0, 1) := by decide +kernel
theorem dX12_init_565 : decode cX12_init 565 = .ok (.iconst 0, 1) := by decide +kernel
theorem dX12_init_566 : decode cX12_init 566 = .ok (.iconst 0, 1) := by decide +kernel
theorem dX12_init_567 : decode cX12_init 567 = .ok (.invokestatic 218, 3) := by decide +kernel
theorem dX12_init_570 : decode cX12_init 570 = .ok (.lastore, 1) := by decide +kernel
theorem dX12_init_571 : decode cX12_init 571 = .ok (.aload_n 0, 1) := by decide +kernel
theorem dX12_init_572 : decode cX12_init 572 = .ok (.getfield 34, 3) := by decide +kernel
theorem dX12_init_575 : decode cX12_init 575 = .ok (.iconst 1, 1) := by decide +kernel
theorem dX12_init_576 : decode cX12_init 576 = .ok (.bipush 101, 2) := by decide +kernel
theorem dX12_init_578 : decode cX12_init 578 = .ok (.bipush 110, 2) := by decide +kernel
theorem dX12_init_580 : decode cX12_init 580 = .ok (.bipush 100, 2) := by decide +kernel
theorem dX12_init_582 : decode cX12_init 582 = .ok (.iconst 0, 1) := by decide +kernel
theorem dX12_init_583 : decode cX12_init 583 = .ok (.iconst 0, 1) := by decide +kernel
theorem dX12_init_584 : decode cX12_init 584 = .ok (.iconst 0, 1) := by decide +kernel
theorem dX12_init_585 : decode cX12_init 585 = .ok (.iconst 0, 1) := by decide +kernel
theorem dX12_init_586 : decode cX12_init 586 = .ok (.invokestatic 218, 3) := by decide +kernel
theorem dX12_init_589 : decode cX12_init 589 = .ok (.lastore, 1) := by decide +kernel
theorem dX12_init_590 : decode cX12_init 590 = .ok (.aload_n 0, 1) := by decide +kernel
theorem dX12_init_591 : decode cX12_init 591 = .ok (.getfield 34, 3) := by decide +kernel
theorem dX12_init_594 : decode cX12_init 594 = .ok (.iconst 2, 1) := by decide +kernel
theorem dX12_init_595 : decode cX12_init 595 = .ok (.bipush 103, 2) := by decide +kernel
theorem dX12_init_597 : decode cX12_init 597 = .ok (.bipush 111, 2) := by decide +kernel
theorem dX12_init_599 : decode cX12_init 599 = .ok (.iconst 0, 1) := by decide +kernel
theorem dX12_init_600 : decode cX12_init 600 = .ok (.iconst 0, 1) := by decide +kernel
theorem dX12_init_601 : decode cX12_init 601 = .ok (.iconst 0, 1) := by decide +kernel
theorem dX12_init_602 : decode cX12_init 602 = .ok (.iconst 0, 1) := by decide +kernel
theorem dX12_init_603 : decode cX12_init 603 = .ok (.iconst 0, 1) := by decide +kernel
theorem dX12_init_604 : decode cX12_init 604 = .ok (.invokestatic 218, 3) := by decide +kernel
theorem dX12_init_607 : decode cX12_init 607 = .ok (.lastore, 1) := by decide +kernel
theorem dX12_init_608 : decode cX12_init 608 = .ok (.aload_n 0, 1) := by decide +kernel
theorem dX12_init_609 : decode cX12_init 609 = .ok (.getfield 34, 3) := by decide +kernel
theorem dX12_init_612 : decode cX12_init 612 = .ok (.iconst 3, 1) := by decide +kernel
theorem dX12_init_613 : decode cX12_init 613 = .ok (.bipush 119, 2) := by decide +kernel
theorem dX12_init_615 : decode cX12_init 615 = .ok (.bipush 97, 2) := by decide +kernel
theorem dX12_init_617 : decode cX12_init 617 = .ok (.bipush 105, 2) := by decide +kernel
theorem dX12_init_619 : decode cX12_init 619 = .ok (.bipush 116, 2) := by decide +kernel
theorem dX12_init_621 : decode cX12_init 621 = .ok (.iconst 0, 1) := by decide +kernel
theorem dX12_init_622 : decode cX12_init 622 = .ok (.iconst 0, 1) := by decide +kernel
theorem dX12_init_623 : decode cX12_init 623 = .ok (.iconst 0, 1) := by decide +kernel
theorem dX12_init_624 : decode cX12_init 624 = .ok (.invokestatic 218, 3) := by decide +kernel
theorem dX12_init_627 : decode cX12_init 627 = .ok (.lastore, 1) := by decide +kernel
theorem dX12_init_628 : decode cX12_init 628 = .ok (.aload_n 0, 1) := by decide +kernel
theorem dX12_init_629 : decode cX12_init 629 = .ok (.getfield 34, 3) := by decide +kernel
theorem dX12_init_632 : decode cX12_init 632 = .ok (.iconst 4, 1) := by decide +kernel
theorem dX12_init_633 : decode cX12_init 633 = .ok (.bipush 116, 2) := by decide +kernel
theorem dX12_init_635 : decode cX12_init 635 = .ok (.bipush 105, 2) := by decide +kernel
theorem dX12_init_637 : decode cX12_init 637 = .ok (.bipush 108, 2) := by decide +kernel
theorem dX12_init_639 : decode cX12_init 639 = .ok (.bipush 108, 2) := by decide +kernel
theorem dX12_init_641 : decode cX12_init 641 = .ok (.iconst 0, 1) := by decide +kernel
theorem dX12_init_642 : decode cX12_init 642 = .ok (.iconst 0, 1) := by decide +kernel
theorem dX12_init_643 : decode cX12_init 643 = .ok (.iconst 0, 1) := by decide +kernel
theorem dX12_init_644 : decode cX12_init 644 = .ok (.invokestatic 218, 3) := by decide +kernel
theorem dX12_init_647 : decode cX12_init 647 = .ok (.lastore, 1) := by decide +kernel
theorem dX12_init_648 : decode cX12_init 648 = .ok (.aload_n 0, 1) := by decide +kernel
theorem dX12_init_649 : decode cX12_init 649 = .ok (.getfield 34, 3) := by decide +kernel
theorem dX12_init_652 : decode cX12_init 652 = .ok (.iconst 5, 1) := by decide +kernel
theorem dX12_init_653 : decode cX12_init 653 = .ok (.bipush 109, 2) := by decide +kernel
theorem dX12_init_655 : decode cX12_init 655 = .ok (.bipush 97, 2) := by decide +kernel
theorem dX12_init_657 : decode cX12_init 657 = .ok (.bipush 114, 2) := by decide +kernel
theorem dX12_init_659 : decode cX12_init 659 = .ok (.bipush 107, 2) := by decide +kernel
theorem dX12_init_661 : decode cX12_init 661 = .ok (.iconst 0, 1) := by decide +kernel
theorem dX12_init_662 : decode cX12_init 662 = .ok (.iconst 0, 1) := by decide +kernel
theorem dX12_init_663 : decode cX12_init 663 = .ok (.iconst 0, 1) := by decide +kernel
theorem dX12_init_664 : decode cX12_init 664 = .ok (.invokestatic 218, 3) := by decide +kernel
theorem dX12_init_667 : decode cX12_init 667 = .ok (.lastore, 1) := by decide +kernel
theorem dX12_init_668 : decode cX12_init 668 = .ok (.aload_n 0, 1) := by decide +kernel
theorem dX12_init_669 : decode cX12_init 669 = .ok (.getfield 34, 3) := by decide +kernel
theorem dX12_init_672 : decode cX12_init 672 = .ok (.bipush 6, 2) := by decide +kernel
theorem dX12_init_674 : decode cX12_init 674 = .ok (.bipush 119, 2) := by decide +kernel
theorem dX12_init_676 : decode cX12_init 676 = .ok (.bipush 105, 2) := by decide +kernel
theorem dX12_init_678 : decode cX12_init 678 = .ok (.bipush 112, 2) := by decide +kernel
theorem dX12_init_680 : decode cX12_init 680 = .ok (.bipush 101, 2) := by decide +kernel
theorem dX12_init_682 : decode cX12_init 682 = .ok (.iconst 0, 1) := by decide +kernel
theorem dX12_init_683 : decode cX12_init 683 = .ok (.iconst 0, 1) := by decide +kernel
theorem dX12_init_684 : decode cX12_init 684 = .ok (.iconst 0, 1) := by decide +kernel
theorem dX12_init_685 : decode cX12_init 685 = .ok (.invokestatic 218, 3) := by decide +kernel
theorem dX12_init_688 : decode cX12_init 688 = .ok (.lastore, 1) := by decide +kernel
theorem dX12_init_689 : decode cX12_init 689 = .ok (.aload_n 0, 1) := by decide +kernel
theorem dX12_init_690 : decode cX12_init 690 = .ok (.getfield 34, 3) := by decide +kernel
theorem dX12_init_693 : decode cX12_init 693 = .ok (.bipush 7, 2) := by decide +kernel
theorem dX12_init_695 : decode cX12_init 695 = .ok (.bipush 119, 2) := by decide +kernel
theorem dX12_init_697 : decode cX12_init 697 = .ok (.bipush 114, 2) := by decide +kernel
theorem dX12_init_699 : decode cX12_init 699 = .ok (.bipush 105, 2) := by decide +kernel
theorem dX12_init_701 : decode cX12_init 701 = .ok (.bipush 116, 2) := by decide +kernel
theorem dX12_init_703 : decode cX12_init 703 = .ok (.bipush 101, 2) := by decide +kernel
theorem dX12_init_705 : decode cX12_init 705 = .ok (.iconst 0, 1) := by decide +kernel
theorem dX12_init_706 : decode cX12_init 706 = .ok (.iconst 0, 1) := by decide +kernel
theorem dX12_init_707 : decode cX12_init 707 = .ok (.invokestatic 218, 3) := by decide +kernel
theorem dX12_init_710 : decode cX12_init 710 = .ok (.lastore, 1) := by decide +kernel
theorem dX12_init_711 : decode cX12_init 711 = .ok (.aload_n 0, 1) := by decide +kernel
theorem dX12_init_712 : decode cX12_init 712 = .ok (.getfield 34, 3) := by decide +kernel
theorem dX12_init_715 : decode cX12_init 715 = .ok (.bipush 8, 2) := by decide +kernel
theorem dX12_init_717 : decode cX12_init 717 = .ok (.bipush 108, 2) := by decide +kernel
theorem dX12_init_719 : decode cX12_init 719 = .ok (.bipush 101, 2) := by decide +kernel
theorem dX12_init_721 : decode cX12_init 721 = .ok (.bipush 97, 2) := by decide +kernel
theorem dX12_init_723 : decode cX12_init 723 = .ok (.bipush 118, 2) := by decide +kernel
theorem dX12_init_725 : decode cX12_init 725 = .ok (.bipush 101, 2) := by decide +kernel
theorem dX12_init_727 : decode cX12_init 727 = .ok (.iconst 0, 1) := by decide +kernel
theorem dX12_init_728 : decode cX12_init 728 = .ok (.iconst 0, 1) := by decide +kernel
theorem dX12_init_729 : decode cX12_init 729 = .ok (.invokestatic 218, 3) := by decide +kernel
theorem dX12_init_732 : decode cX12_init 732 = .ok (.lastore, 1) := by decide +kernel
theorem dX12_init_733 : decode cX12_init 733 = .ok (.aload_n 0, 1) := by decide +kernel
theorem dX12_init_734 : decode cX12_init 734 = .ok (.getfield 34, 3) := by decide +kernel
theorem dX12_init_737 : decode cX12_init 737 = .ok (.bipush 9, 2) := by decide +kernel
theorem dX12_init_739 : decode cX12_init 739 = .ok (.bipush 116, 2) := by decide +kernel
theorem dX12_init_741 : decode cX12_init 741 = .ok (.bipush 97, 2) := by decide +kernel
theorem dX12_init_743 : decode cX12_init 743 = .ok (.bipush 107, 2) := by decide +kernel
theorem dX12_init_745 : decode cX12_init 745 = .ok (.bipush 101, 2) := by decide +kernel
theorem dX12_init_747 : decode cX12_init 747 = .ok (.iconst 0, 1) := by decide +kernel
theorem dX12_init_748 : decode cX12_init 748 = .ok (.iconst 0, 1) := by decide +kernel
theorem dX12_init_749 : decode cX12_init 749 = .ok (.iconst 0, 1) := by decide +kernel
theorem dX12_init_750 : decode cX12_init 750 = .ok (.invokestatic 218, 3) := by decide +kernel
theorem dX12_init_753 : decode cX12_init 753 = .ok (.lastore, 1) := by decide +kernel
theorem dX12_init_754 : decode cX12_init 754 = .ok (.aload_n 0, 1) := by decide +kernel
theorem dX12_init_755 : decode cX12_init 755 = .ok (.getfield 34, 3) := by decide +kernel
theorem dX12_init_758 : decode cX12_init 758 = .ok (.bipush 10, 2) := by decide +kernel
theorem dX12_init_760 : decode cX12_init 760 = .ok (.bipush 98, 2) := by decide +kernel
theorem dX12_init_762 : decode cX12_init 762 = .ok (.bipush 117, 2) := by decide +kernel
theorem dX12_init_764 : decode cX12_init 764 = .ok (.bipush 114, 2) := by decide +kernel
theorem dX12_init_766 : decode cX12_init 766 = .ok (.bipush 110, 2) := by decide +kernel
theorem dX12_init_768 : decode cX12_init 768 = .ok (.iconst 0, 1) := by decide +kernel
theorem dX12_init_769 : decode cX12_init 769 = .ok (.iconst 0, 1) := by decide +kernel
theorem dX12_init_770 : decode cX12_init 770 = .ok (.iconst 0, 1) := by decide +kernel
theorem dX12_init_771 : decode cX12_init 771 = .ok (.invokestatic 218, 3) := by decide +kernel
theorem dX12_init_774 : decode cX12_init 774 = .ok (.lastore, 1) := by decide +kernel
theorem dX12_init_775 : decode cX12_init 775 = .ok (.aload_n 0, 1) := by decide +kernel
theorem dX12_init_776 : decode cX12_init 776 = .ok (.getfield 34, 3) := by decide +kernel
theorem dX12_init_779 : decode cX12_init 779 = .ok (.bipush 11, 2) := by decide +kernel
theorem dX12_init_781 : decode cX12_init 781 = .ok (.bipush 116, 2) := by decide +kernel
theorem dX12_init_783 : decode cX12_init 783 = .ok (.bipush 101, 2) := by decide +kernel
theorem dX12_init_785 : decode cX12_init 785 = .ok (.bipush 108, 2) := by decide +kernel
theorem dX12_init_787 : decode cX12_init 787 = .ok (.bipush 108, 2) := by decide +kernel
theorem dX12_init_789 : decode cX12_init 789 = .ok (.iconst 0, 1) := by decide +kernel
theorem dX12_init_790 : decode cX12_init 790 = .ok (.iconst 0, 1) := by decide +kernel
theorem dX12_init_791 : decode cX12_init 791 = .ok (.iconst 0, 1) := by decide +kernel
theorem dX12_init_792 : decode cX12_init 792 = .ok (.invokestatic 218, 3) := by decide +kernel
theorem dX12_init_795 : decode cX12_init 795 = .ok (.lastore, 1) := by decide +kernel
theorem dX12_init_796 : decode cX12_init 796 = .ok (.aload_n 0, 1) := by decide +kernel
theorem dX12_init_797 : decode cX12_init 797 = .ok (.getfield 34, 3) := by decide +kernel
theorem dX12_init_800 : decode cX12_init 800 = .ok (.bipush 12, 2) := by decide +kernel
theorem dX12_init_802 : decode cX12_init 802 = .ok (.bipush 97, 2) := by decide +kernel
theorem dX12_init_804 : decode cX12_init 804 = .ok (.bipush 98, 2) := by decide +kernel
theorem dX12_init_806 : decode cX12_init 806 = .ok (.bipush 111, 2) := by decide +kernel
theorem dX12_init_808 : decode cX12_init 808 = .ok (.bipush 114, 2) := by decide +kernel
theorem dX12_init_810 : decode cX12_init 810 = .ok (.bipush 116, 2) := by decide +kernel
theorem dX12_init_812 : decode cX12_init 812 = .ok (.iconst 0, 1) := by decide +kernel
theorem dX12_init_813 : decode cX12_init 813 = .ok (.iconst 0, 1) := by decide +kernel
theorem dX12_init_814 : decode cX12_init 814 = .ok (.invokestatic 218, 3) := by decide +kernel
theorem dX12_init_817 : decode cX12_init 817 = .ok (.lastore, 1) := by decide +kernel
theorem dX12_init_818 : decode cX12_init 818 = .ok (.aload_n 0, 1) := by decide +kernel
theorem dX12_init_819 : decode cX12_init 819 = .ok (.getfield 34, 3) := by decide +kernel
theorem dX12_init_822 : decode cX12_init 822 = .ok (.bipush 13, 2) := by decide +kernel
theorem dX12_init_824 : decode cX12_init 824 = .ok (.bipush 100, 2) := by decide +kernel
theorem dX12_init_826 : decode cX12_init 826 = .ok (.bipush 111, 2) := by decide +kernel
theorem dX12_init_828 : decode cX12_init 828 = .ok (.iconst 0, 1) := by decide +kernel
theorem dX12_init_829 : decode cX12_init 829 = .ok (.iconst 0, 1) := by decide +kernel
theorem dX12_init_830 : decode cX12_init 830 = .ok (.iconst 0, 1) := by decide +kernel
theorem dX12_init_831 : decode cX12_init 831 = .ok (.iconst 0, 1) := by decide +kernel
theorem dX12_init_832 : decode cX12_init 832 = .ok (.iconst 0, 1) := by decide +kernel
theorem dX12_init_833 : decode cX12_init 833 = .ok (.invokestatic 218, 3) := by decide +kernel
theorem dX12_init_836 : decode cX12_init 836 = .ok (.lastore, 1) := by decide +kernel
theorem dX12_init_837 : decode cX12_init 837 = .ok (.aload_n 0, 1) := by decide +kernel
theorem dX12_init_838 : decode cX12_init 838 = .ok (.getfield 34, 3) := by decide +kernel
theorem dX12_init_841 : decode cX12_init 841 = .ok (.bipush 14, 2) := by decide +kernel
theorem dX12_init_843 : decode cX12_init 843 = .ok (.bipush 108, 2) := by decide +kernel
theorem dX12_init_845 : decode cX12_init 845 = .ok (.bipush 111, 2) := by decide +kernel
theorem dX12_init_847 : decode cX12_init 847 = .ok (.bipush 111, 2) := by decide +kernel
theorem dX12_init_849 : decode cX12_init 849 = .ok (.bipush 112, 2) := by decide +kernel
theorem dX12_init_851 : decode cX12_init 851 = .ok (.iconst 0, 1) := by decide +kernel
theorem dX12_init_852 : decode cX12_init 852 = .ok (.iconst 0, 1) := by decide +kernel
theorem dX12_init_853 : decode cX12_init 853 = .ok (.iconst 0, 1) := by decide +kernel
theorem dX12_init_854 : decode cX12_init 854 = .ok (.invokestatic 218, 3) := by decide +kernel
theorem dX12_init_857 : decode cX12_init 857 = .ok (.lastore, 1) := by decide +kernel
theorem dX12_init_858 : decode cX12_init 858 = .ok (.aload_n 0, 1) := by decide +kernel
theorem dX12_init_859 : decode cX12_init 859 = .ok (.getfield 34, 3) := by decide +kernel
theorem dX12_init_862 : decode cX12_init 862 = .ok (.bipush 15, 2) := by decide +kernel
theorem dX12_init_864 : decode cX12_init 864 = .ok (.bipush 105, 2) := by decide +kernel
theorem dX12_init_866 : decode cX12_init 866 = .ok (.bipush 102, 2) := by decide +kernel
theorem dX12_init_868 : decode cX12_init 868 = .ok (.iconst 0, 1) := by decide +kernel
theorem dX12_init_869 : decode cX12_init 869 = .ok (.iconst 0, 1) := by decide +kernel
theorem dX12_init_870 : decode cX12_init 870 = .ok (.iconst 0, 1) := by decide +kernel
theorem dX12_init_871 : decode cX12_init 871 = .ok (.iconst 0, 1) := by decide +kernel
theorem dX12_init_872 : decode cX12_init 872 = .ok (.iconst 0, 1) := by decide +kernel
theorem dX12_init_873 : decode cX12_init 873 = .ok (.invokestatic 218, 3) := by decide +kernel
theorem dX12_init_876 : decode cX12_init 876 = .ok (.lastore, 1) := by decide +kernel
theorem dX12_init_877 : decode cX12_init 877 = .ok (.aload_n 0, 1) := by decide +kernel
theorem dX12_init_878 : decode cX12_init 878 = .ok (.getfield 34, 3) := by decide +kernel
theorem dX12_init_881 : decode cX12_init 881 = .ok (.bipush 16, 2) := by decide +kernel
theorem dX12_init_883 : decode cX12_init 883 = .ok (.bipush 101, 2) := by decide +kernel
theorem dX12_init_885 : decode cX12_init 885 = .ok (.bipush 108, 2) := by decide +kernel
theorem dX12_init_887 : decode cX12_init 887 = .ok (.bipush 115, 2) := by decide +kernel
theorem dX12_init_889 : decode cX12_init 889 = .ok (.bipush 101, 2) := by decide +kernel
theorem dX12_init_891 : decode cX12_init 891 = .ok (.iconst 0, 1) := by decide +kernel
theorem dX12_init_892 : decode cX12_init 892 = .ok (.iconst 0, 1) := by decide +kernel
theorem dX12_init_893 : decode cX12_init 893 = .ok (.iconst 0, 1) := by decide +kernel
theorem dX12_init_894 : decode cX12_init 894 = .ok (.invokestatic 218, 3) := by decide +kernel
theorem dX12_init_897 : decode cX12_init 897 = .ok (.lastore, 1) := by decide +kernel
theorem dX12_init_898 : decode cX12_init 898 = .ok (.aload_n 0, 1) := by decide +kernel
theorem dX12_init_899 : decode cX12_init 899 = .ok (.getfield 34, 3) := by decide +kernel
theorem dX12_init_902 : decode cX12_init 902 = .ok (.bipush 17, 2) := by decide +kernel
theorem dX12_init_904 : decode cX12_init 904 = .ok (.bipush 109, 2) := by decide +kernel
theorem dX12_init_906 : decode cX12_init 906 = .ok (.bipush 101, 2) := by decide +kernel
theorem dX12_init_908 : decode cX12_init 908 = .ok (.bipush 101, 2) := by decide +kernel
theorem dX12_init_910 : decode cX12_init 910 = .ok (.bipush 116, 2) := by decide +kernel
theorem dX12_init_912 : decode cX12_init 912 = .ok (.iconst 0, 1) := by decide +kernel
theorem dX12_init_913 : decode cX12_init 913 = .ok (.iconst 0, 1) := by decide +kernel
theorem dX12_init_914 : decode cX12_init 914 = .ok (.iconst 0, 1) := by decide +kernel
theorem dX12_init_915 : decode cX12_init 915 = .ok (.invokestatic 218, 3) := by decide +kernel
theorem dX12_init_918 : decode cX12_init 918 = .ok (.lastore, 1) := by decide +kernel
theorem dX12_init_919 : decode cX12_init 919 = .ok (.aload_n 0, 1) := by decide +kernel
theorem dX12_init_920 : decode cX12_init 920 = .ok (.getfield 34, 3) := by decide +kernel
theorem dX12_init_923 : decode cX12_init 923 = .ok (.bipush 18, 2) := by decide +kernel
theorem dX12_init_925 : decode cX12_init 925 = .ok (.bipush 102, 2) := by decide +kernel
theorem dX12_init_927 : decode cX12_init 927 = .ok (.bipush 111, 2) := by decide +kernel
theorem dX12_init_929 : decode cX12_init 929 = .ok (.bipush 114, 2) := by decide +kernel
theorem dX12_init_931 : decode cX12_init 931 = .ok (.iconst 0, 1) := by decide +kernel
theorem dX12_init_932 : decode cX12_init 932 = .ok (.iconst 0, 1) := by decide +kernel
theorem dX12_init_933 : decode cX12_init 933 = .ok (.iconst 0, 1) := by decide +kernel
theorem dX12_init_934 : decode cX12_init 934 = .ok (.iconst 0, 1) := by decide +kernel
theorem dX12_init_935 : decode cX12_init 935 = .ok (.invokestatic 218, 3) := by decide +kernel
theorem dX12_init_938 : decode cX12_init 938 = .ok (.lastore, 1) := by decide +kernel
theorem dX12_init_939 : decode cX12_init 939 = .ok (.aload_n 0, 1) := by decide +kernel
theorem dX12_init_940 : decode cX12_init 940 = .ok (.getfield 34, 3) := by decide +kernel
theorem dX12_init_943 : decode cX12_init 943 = .ok (.bipush 19, 2) := by decide +kernel
theorem dX12_init_945 : decode cX12_init 945 = .ok (.bipush 110, 2) := by decide +kernel
theorem dX12_init_947 : decode cX12_init 947 = .ok (.bipush 111, 2) := by decide +kernel
theorem dX12_init_949 : decode cX12_init 949 = .ok (.bipush 116, 2) := by decide +kernel
theorem dX12_init_951 : decode cX12_init 951 = .ok (.iconst 0, 1) := by decide +kernel
theorem dX12_init_952 : decode cX12_init 952 = .ok (.iconst 0, 1) := by decide +kernel
theorem dX12_init_953 : decode cX12_init 953 = .ok (.iconst 0, 1) := by decide +kernel
theorem dX12_init_954 : decode cX12_init 954 = .ok (.iconst 0, 1) := by decide +kernel
theorem dX12_init_955 : decode cX12_init 955 = .ok (.invokestatic 218, 3) := by decide +kernel
theorem dX12_init_958 : decode cX12_init 958 = .ok (.lastore, 1) := by decide +kernel
theorem dX12_init_959 : decode cX12_init 959 = .ok (.aload_n 0, 1) := by decide +kernel
theorem dX12_init_960 : decode cX12_init 960 = .ok (.getfield 34, 3) := by decide +kernel
theorem dX12_init_963 : decode cX12_init 963 = .ok (.bipush 20, 2) := by decide +kernel
theorem dX12_init_965 : decode cX12_init 965 = .ok (.bipush 112, 2) := by decide +kernel
theorem dX12_init_967 : decode cX12_init 967 = .ok (.bipush 97, 2) := by decide +kernel
theorem dX12_init_969 : decode cX12_init 969 = .ok (.bipush 112, 2) := by decide +kernel
theorem dX12_init_971 : decode cX12_init 971 = .ok (.bipush 101, 2) := by decide +kernel
theorem dX12_init_973 : decode cX12_init 973 = .ok (.bipush 114, 2) := by decide +kernel
theorem dX12_init_975 : decode cX12_init 975 = .ok (.iconst 0, 1) := by decide +kernel
theorem dX12_init_976 : decode cX12_init 976 = .ok (.iconst 0, 1) := by decide +kernel
theorem dX12_init_977 : decode cX12_init 977 = .ok (.invokestatic 218, 3) := by decide +kernel
theorem dX12_init_980 : decode cX12_init 980 = .ok (.lastore, 1) := by decide +kernel
theorem dX12_init_981 : decode cX12_init 981 = .ok (.aload_n 0, 1) := by decide +kernel
theorem dX12_init_982 : decode cX12_init 982 = .ok (.getfield 34, 3) := by decide +kernel
theorem dX12_init_985 : decode cX12_init 985 = .ok (.bipush 21, 2) := by decide +kernel
theorem dX12_init_987 : decode cX12_init 987 = .ok (.bipush 107, 2) := by decide +kernel
theorem dX12_init_989 : decode cX12_init 989 = .ok (.bipush 110, 2) := by decide +kernel
theorem dX12_init_991 : decode cX12_init 991 = .ok (.bipush 111, 2) := by decide +kernel
theorem dX12_init_993 : decode cX12_init 993 = .ok (.bipush 119, 2) := by decide +kernel
theorem dX12_init_995 : decode cX12_init 995 = .ok (.bipush 115, 2) := by decide +kernel
theorem dX12_init_997 : decode cX12_init 997 = .ok (.iconst 0, 1) := by decide +kernel
theorem dX12_init_998 : decode cX12_init 998 = .ok (.iconst 0, 1) := by decide +kernel
theorem dX12_init_999 : decode cX12_init 999 = .ok (.invokestatic 218, 3) := by decide +kernel
theorem dX12_init_1002 : decode cX12_init 1002 = .ok (.lastore, 1) := by decide +kernel
theorem dX12_init_1003 : decode cX12_init 1003 = .ok (.aload_n 0, 1) := by decide +kernel
theorem dX12_init_1004 : decode cX12_init 1004 = .ok (.getfield 34, 3) := by decide +kernel
theorem dX12_init_1007 : decode cX12_init 1007 = .ok (.bipush 22, 2) := by decide +kernel
theorem dX12_init_1009 : decode cX12_init 1009 = .ok (.bipush 104, 2) := by decide +kernel
theorem dX12_init_1011 : decode cX12_init 1011 = .ok (.bipush 97, 2) := by decide +kernel
theorem dX12_init_1013 : decode cX12_init 1013 = .ok (.bipush 115, 2) := by decide +kernel
theorem dX12_init_1015 : decode cX12_init 1015 = .ok (.iconst 0, 1) := by decide +kernel
theorem dX12_init_1016 : decode cX12_init 1016 = .ok (.iconst 0, 1) := by decide +kernel
theorem dX12_init_1017 : decode cX12_init 1017 = .ok (.iconst 0, 1) := by decide +kernel
theorem dX12_init_1018 : decode cX12_init 1018 = .ok (.iconst 0, 1) := by decide +kernel
theorem dX12_init_1019 : decode cX12_init 1019 = .ok (.invokestatic 218, 3) := by decide +kernel
theorem dX12_init_1022 : decode cX12_init 1022 = .ok (.lastore, 1) := by decide +kernel
theorem dX12_init_1023 : decode cX12_init 1023 = .ok (.aload_n 0, 1) := by decide +kernel
theorem dX12_init_1024 : decode cX12_init 1024 = .ok (.getfield 34, 3) := by decide +kernel
theorem dX12_init_1027 : decode cX12_init 1027 = .ok (.bipush 23, 2) := by decide +kernel
theorem dX12_init_1029 : decode cX12_init 1029 = .ok (.bipush 119, 2) := by decide +kernel
theorem dX12_init_1031 : decode cX12_init 1031 = .ok (.bipush 105, 2) := by decide +kernel
theorem dX12_init_1033 : decode cX12_init 1033 = .ok (.bipush 116, 2) := by decide +kernel
theorem dX12_init_1035 : decode cX12_init 1035 = .ok (.bipush 104, 2) := by decide +kernel
theorem dX12_init_1037 : decode cX12_init 1037 = .ok (.iconst 0, 1) := by decide +kernel
theorem dX12_init_1038 : decode cX12_init 1038 = .ok (.iconst 0, 1) := by decide +kernel
theorem dX12_init_1039 : decode cX12_init 1039 = .ok (.iconst 0, 1) := by decide +kernel
theorem dX12_init_1040 : decode cX12_init 1040 = .ok (.invokestatic 218, 3) := by decide +kernel
theorem dX12_init_1043 : decode cX12_init 1043 = .ok (.lastore, 1) := by decide +kernel
theorem dX12_init_1044 : decode cX12_init 1044 = .ok (.aload_n 0, 1) := by decide +kernel
theorem dX12_init_1045 : decode cX12_init 1045 = .ok (.getfield 34, 3) := by decide +kernel
theorem dX12_init_1048 : decode cX12_init 1048 = .ok (.bipush 24, 2) := by decide +kernel
theorem dX12_init_1050 : decode cX12_init 1050 = .ok (.bipush 108, 2) := by decide +kernel
theorem dX12_init_1052 : decode cX12_init 1052 = .ok (.bipush 97, 2) := by decide +kernel
theorem dX12_init_1054 : decode cX12_init 1054 = .ok (.bipush 116, 2) := by decide +kernel
theorem dX12_init_1056 : decode cX12_init 1056 = .ok (.bipush 101, 2) := by decide +kernel
theorem dX12_init_1058 : decode cX12_init 1058 = .ok (.iconst 0, 1) := by decide +kernel
theorem dX12_init_1059 : decode cX12_init 1059 = .ok (.iconst 0, 1) := by decide +kernel
theorem dX12_init_1060 : decode cX12_init 1060 = .ok (.iconst 0, 1) := by decide +kernel
theorem dX12_init_1061 : decode cX12_init 1061 = .ok (.invokestatic 218, 3) := by decide +kernel
theorem dX12_init_1064 : decode cX12_init 1064 = .ok (.lastore, 1) := by decide +kernel
theorem dX12_init_1065 : decode cX12_init 1065 = .ok (.aload_n 0, 1) := by decide +kernel
theorem dX12_init_1066 : decode cX12_init 1066 = .ok (.getfield 34, 3) := by decide +kernel
theorem dX12_init_1069 : decode cX12_init 1069 = .ok (.bipush 25, 2) := by decide +kernel
theorem dX12_init_1071 : decode cX12_init 1071 = .ok (.bipush 119, 2) := by decide +kernel
theorem dX12_init_1073 : decode cX12_init 1073 = .ok (.bipush 97, 2) := by decide +kernel
theorem dX12_init_1075 : decode cX12_init 1075 = .ok (.bipush 116, 2) := by decide +kernel
theorem dX12_init_1077 : decode cX12_init 1077 = .ok (.bipush 99, 2) := by decide +kernel
theorem dX12_init_1079 : decode cX12_init 1079 = .ok (.bipush 104, 2) := by decide +kernel
theorem dX12_init_1081 : decode cX12_init 1081 = .ok (.bipush 101, 2) := by decide +kernel
theorem dX12_init_1083 : decode cX12_init 1083 = .ok (.bipush 100, 2) := by decide +kernel
theorem dX12_init_1085 : decode cX12_init 1085 = .ok (.invokestatic 218, 3) := by decide +kernel
theorem dX12_init_1088 : decode cX12_init 1088 = .ok (.lastore, 1) := by decide +kernel
theorem dX12_init_1089 : decode cX12_init 1089 = .ok (.return_, 1) := by decide +kernel
theorem mlo_12 : Cond.methodLink RX12 7 Lib.objectInit ∈ TB := (tbc_6 71 rfl rfl)
set_option maxRecDepth 100000 in
set_option maxHeartbeats 4000000 in
theorem ci_X12_init_170 {w : Wd} {l : Launch} : CtI w l yX12_init (Cond.code yX12_init cX12_init 1 none :: TB) { frames := 2, cells := 63, slots := 38080, locals := 48 } [rv w 170] 171 178 116 234 241 146 none 63 38080 := by
  refine CtI.of [some (rv w 170)] 0 rfl pn_RX12 (Nat.le_of_ble_eq_true rfl) ?_
  intro p e s m args below meth c C hr hlk hnm
  refine h_aload_n C dX12_init_0 rfl ?_
  refine h_objInit C dX12_init_1 mlo_12 im_obj cd_obj ⟨Nat.le_of_ble_eq_true rfl, Nat.le_of_ble_eq_true rfl⟩ ?_
  refine h_aload_n C dX12_init_4 rfl ?_
  refine h_sipush C dX12_init_5 rfl ?_
  refine h_newa21 (N := 2000) (n1 := 172) (c1 := 1) (s1 := 2000) C dX12_init_8 rfl rfl rfl (by decide) ac_byte (Nat.le_of_ble_eq_true rfl) ⟨Nat.le_of_ble_eq_true rfl, Nat.le_of_ble_eq_true rfl⟩ rfl rfl rfl ?_
  refine h_putR (j := 1) (t1 := 179) C dX12_init_10 rfl (Nat.le_of_ble_eq_true rfl) (Nat.le_of_ble_eq_true rfl) (Nat.le_of_ble_eq_true rfl) (Nat.le_of_ble_eq_true rfl) fl_12_13 rfl rfl rfl hnm rfl rfl (fun _ => rfl) (fun _ => rfl) rfl rfl rfl rfl ?_
  refine h_aload_n C dX12_init_13 rfl ?_
  refine h_sipush C dX12_init_14 rfl ?_
  refine h_newa21 (N := 2000) (n1 := 173) (c1 := 2) (s1 := 4000) C dX12_init_17 rfl rfl rfl (by decide) ac_byte (Nat.le_of_ble_eq_true rfl) ⟨Nat.le_of_ble_eq_true rfl, Nat.le_of_ble_eq_true rfl⟩ rfl rfl rfl ?_
  refine h_putR (j := 3) (t1 := 180) C dX12_init_19 rfl (Nat.le_of_ble_eq_true rfl) (Nat.le_of_ble_eq_true rfl) (Nat.le_of_ble_eq_true rfl) (Nat.le_of_ble_eq_true rfl) fl_12_17 rfl rfl rfl hnm rfl rfl (fun _ => rfl) (fun _ => rfl) rfl rfl rfl rfl ?_
  refine h_aload_n C dX12_init_22 rfl ?_
  refine h_sipush C dX12_init_23 rfl ?_
  refine h_newa20 (N := 503) (n1 := 174) (c1 := 3) (s1 := 4503) C dX12_init_26 rfl rfl rfl (by decide) ac_int (Nat.le_of_ble_eq_true rfl) ⟨Nat.le_of_ble_eq_true rfl, Nat.le_of_ble_eq_true rfl⟩ rfl rfl rfl ?_
  refine h_putR (j := 5) (t1 := 181) C dX12_init_28 rfl (Nat.le_of_ble_eq_true rfl) (Nat.le_of_ble_eq_true rfl) (Nat.le_of_ble_eq_true rfl) (Nat.le_of_ble_eq_true rfl) fl_12_20 rfl rfl rfl hnm rfl rfl (fun _ => rfl) (fun _ => rfl) rfl rfl rfl rfl ?_
  refine h_aload_n C dX12_init_31 rfl ?_
  refine h_sipush C dX12_init_32 rfl ?_
  refine h_newa20 (N := 503) (n1 := 175) (c1 := 4) (s1 := 5006) C dX12_init_35 rfl rfl rfl (by decide) ac_int (Nat.le_of_ble_eq_true rfl) ⟨Nat.le_of_ble_eq_true rfl, Nat.le_of_ble_eq_true rfl⟩ rfl rfl rfl ?_
  refine h_putR (j := 6) (t1 := 182) C dX12_init_37 rfl (Nat.le_of_ble_eq_true rfl) (Nat.le_of_ble_eq_true rfl) (Nat.le_of_ble_eq_true rfl) (Nat.le_of_ble_eq_true rfl) fl_12_24 rfl rfl rfl hnm rfl rfl (fun _ => rfl) (fun _ => rfl) rfl rfl rfl rfl ?_
  refine h_aload_n C dX12_init_40 rfl ?_
  refine h_sipush C dX12_init_41 rfl ?_
  refine h_newa20 (N := 503) (n1 := 176) (c1 := 5) (s1 := 5509) C dX12_init_44 rfl rfl rfl (by decide) ac_int (Nat.le_of_ble_eq_true rfl) ⟨Nat.le_of_ble_eq_true rfl, Nat.le_of_ble_eq_true rfl⟩ rfl rfl rfl ?_
  refine h_putR (j := 7) (t1 := 183) C dX12_init_46 rfl (Nat.le_of_ble_eq_true rfl) (Nat.le_of_ble_eq_true rfl) (Nat.le_of_ble_eq_true rfl) (Nat.le_of_ble_eq_true rfl) fl_12_27 rfl rfl rfl hnm rfl rfl (fun _ => rfl) (fun _ => rfl) rfl rfl rfl rfl ?_
  refine h_aload_n C dX12_init_49 rfl ?_
  refine h_sipush C dX12_init_50 rfl ?_
  refine h_newa23 (N := 503) (n1 := 177) (c1 := 6) (s1 := 6012) C dX12_init_53 rfl rfl rfl (by decide) ac_long (Nat.le_of_ble_eq_true rfl) ⟨Nat.le_of_ble_eq_true rfl, Nat.le_of_ble_eq_true rfl⟩ rfl rfl rfl ?_
  refine h_putR (j := 8) (t1 := 184) C dX12_init_55 rfl (Nat.le_of_ble_eq_true rfl) (Nat.le_of_ble_eq_true rfl) (Nat.le_of_ble_eq_true rfl) (Nat.le_of_ble_eq_true rfl) fl_12_30 rfl rfl rfl hnm rfl rfl (fun _ => rfl) (fun _ => rfl) rfl rfl rfl rfl ?_
  refine h_aload_n C dX12_init_58 rfl ?_
  refine h_bipush C dX12_init_59 rfl ?_
  refine h_newa23 (N := 26) (n1 := 178) (c1 := 7) (s1 := 6038) C dX12_init_61 rfl rfl rfl (by decide) ac_long (Nat.le_of_ble_eq_true rfl) ⟨Nat.le_of_ble_eq_true rfl, Nat.le_of_ble_eq_true rfl⟩ rfl rfl rfl ?_
  refine h_putR (j := 9) (t1 := 185) C dX12_init_63 rfl (Nat.le_of_ble_eq_true rfl) (Nat.le_of_ble_eq_true rfl) (Nat.le_of_ble_eq_true rfl) (Nat.le_of_ble_eq_true rfl) fl_12_34 rfl rfl rfl hnm rfl rfl (fun _ => rfl) (fun _ => rfl) rfl rfl rfl rfl ?_
  refine h_aload_n C dX12_init_66 rfl ?_
  refine h_iconst C dX12_init_67 ?_
  refine h_putI (j := 16) (m1 := 117) C dX12_init_68 rfl (Nat.le_of_ble_eq_true rfl) (Nat.le_of_ble_eq_true rfl) (Nat.le_of_ble_eq_true rfl) (Nat.le_of_ble_eq_true rfl) fl_12_37 rfl rfl rfl rfl rfl ?_
  refine h_aload_n C dX12_init_71 rfl ?_
  refine h_iconst C dX12_init_72 ?_
  refine h_newa20 (N := 2) (n1 := 179) (c1 := 8) (s1 := 6040) C dX12_init_73 rfl rfl rfl (by decide) ac_int (Nat.le_of_ble_eq_true rfl) ⟨Nat.le_of_ble_eq_true rfl, Nat.le_of_ble_eq_true rfl⟩ rfl rfl rfl ?_
  refine h_putR (j := 19) (t1 := 186) C dX12_init_75 rfl (Nat.le_of_ble_eq_true rfl) (Nat.le_of_ble_eq_true rfl) (Nat.le_of_ble_eq_true rfl) (Nat.le_of_ble_eq_true rfl) fl_12_40 rfl rfl rfl hnm rfl rfl (fun _ => rfl) (fun _ => rfl) rfl rfl rfl rfl ?_
  refine h_aload_n C dX12_init_78 rfl ?_
  refine h_bipush C dX12_init_79 rfl ?_
  refine h_newa23 (N := 16) (n1 := 180) (c1 := 9) (s1 := 6056) C dX12_init_81 rfl rfl rfl (by decide) ac_long (Nat.le_of_ble_eq_true rfl) ⟨Nat.le_of_ble_eq_true rfl, Nat.le_of_ble_eq_true rfl⟩ rfl rfl rfl ?_
  refine h_putR (j := 20) (t1 := 187) C dX12_init_83 rfl (Nat.le_of_ble_eq_true rfl) (Nat.le_of_ble_eq_true rfl) (Nat.le_of_ble_eq_true rfl) (Nat.le_of_ble_eq_true rfl) fl_12_43 rfl rfl rfl hnm rfl rfl (fun _ => rfl) (fun _ => rfl) rfl rfl rfl rfl ?_
  refine h_aload_n C dX12_init_86 rfl ?_
  refine h_bipush C dX12_init_87 rfl ?_
  refine h_newa20 (N := 16) (n1 := 181) (c1 := 10) (s1 := 6072) C dX12_init_89 rfl rfl rfl (by decide) ac_int (Nat.le_of_ble_eq_true rfl) ⟨Nat.le_of_ble_eq_true rfl, Nat.le_of_ble_eq_true rfl⟩ rfl rfl rfl ?_
  refine h_putR (j := 21) (t1 := 188) C dX12_init_91 rfl (Nat.le_of_ble_eq_true rfl) (Nat.le_of_ble_eq_true rfl) (Nat.le_of_ble_eq_true rfl) (Nat.le_of_ble_eq_true rfl) fl_12_46 rfl rfl rfl hnm rfl rfl (fun _ => rfl) (fun _ => rfl) rfl rfl rfl rfl ?_
  refine h_aload_n C dX12_init_94 rfl ?_
  refine h_sipush C dX12_init_95 rfl ?_
  refine h_newa20 (N := 2000) (n1 := 182) (c1 := 11) (s1 := 8072) C dX12_init_98 rfl rfl rfl (by decide) ac_int (Nat.le_of_ble_eq_true rfl) ⟨Nat.le_of_ble_eq_true rfl, Nat.le_of_ble_eq_true rfl⟩ rfl rfl rfl ?_
  refine h_putR (j := 23) (t1 := 189) C dX12_init_100 rfl (Nat.le_of_ble_eq_true rfl) (Nat.le_of_ble_eq_true rfl) (Nat.le_of_ble_eq_true rfl) (Nat.le_of_ble_eq_true rfl) fl_12_49 rfl rfl rfl hnm rfl rfl (fun _ => rfl) (fun _ => rfl) rfl rfl rfl rfl ?_
  refine h_aload_n C dX12_init_103 rfl ?_
  refine h_sipush C dX12_init_104 rfl ?_
  refine h_newa20 (N := 2000) (n1 := 183) (c1 := 12) (s1 := 10072) C dX12_init_107 rfl rfl rfl (by decide) ac_int (Nat.le_of_ble_eq_true rfl) ⟨Nat.le_of_ble_eq_true rfl, Nat.le_of_ble_eq_true rfl⟩ rfl rfl rfl ?_
  refine h_putR (j := 24) (t1 := 190) C dX12_init_109 rfl (Nat.le_of_ble_eq_true rfl) (Nat.le_of_ble_eq_true rfl) (Nat.le_of_ble_eq_true rfl) (Nat.le_of_ble_eq_true rfl) fl_12_52 rfl rfl rfl hnm rfl rfl (fun _ => rfl) (fun _ => rfl) rfl rfl rfl rfl ?_
  refine h_aload_n C dX12_init_112 rfl ?_
  refine h_sipush C dX12_init_113 rfl ?_
  refine h_newa20 (N := 2000) (n1 := 184) (c1 := 13) (s1 := 12072) C dX12_init_116 rfl rfl rfl (by decide) ac_int (Nat.le_of_ble_eq_true rfl) ⟨Nat.le_of_ble_eq_true rfl, Nat.le_of_ble_eq_true rfl⟩ rfl rfl rfl ?_
  refine h_putR (j := 25) (t1 := 191) C dX12_init_118 rfl (Nat.le_of_ble_eq_true rfl) (Nat.le_of_ble_eq_true rfl) (Nat.le_of_ble_eq_true rfl) (Nat.le_of_ble_eq_true rfl) fl_12_55 rfl rfl rfl hnm rfl rfl (fun _ => rfl) (fun _ => rfl) rfl rfl rfl rfl ?_
  refine h_aload_n C dX12_init_121 rfl ?_
  refine h_sipush C dX12_init_122 rfl ?_
  refine h_newa20 (N := 2000) (n1 := 185) (c1 := 14) (s1 := 14072) C dX12_init_125 rfl rfl rfl (by decide) ac_int (Nat.le_of_ble_eq_true rfl) ⟨Nat.le_of_ble_eq_true rfl, Nat.le_of_ble_eq_true rfl⟩ rfl rfl rfl ?_
  refine h_putR (j := 26) (t1 := 192) C dX12_init_127 rfl (Nat.le_of_ble_eq_true rfl) (Nat.le_of_ble_eq_true rfl) (Nat.le_of_ble_eq_true rfl) (Nat.le_of_ble_eq_true rfl) fl_12_58 rfl rfl rfl hnm rfl rfl (fun _ => rfl) (fun _ => rfl) rfl rfl rfl rfl ?_
  refine h_aload_n C dX12_init_130 rfl ?_
  refine h_bipush C dX12_init_131 rfl ?_
  refine h_newa20 (N := 8) (n1 := 186) (c1 := 15) (s1 := 14080) C dX12_init_133 rfl rfl rfl (by decide) ac_int (Nat.le_of_ble_eq_true rfl) ⟨Nat.le_of_ble_eq_true rfl, Nat.le_of_ble_eq_true rfl⟩ rfl rfl rfl ?_
  refine h_putR (j := 28) (t1 := 193) C dX12_init_135 rfl (Nat.le_of_ble_eq_true rfl) (Nat.le_of_ble_eq_true rfl) (Nat.le_of_ble_eq_true rfl) (Nat.le_of_ble_eq_true rfl) fl_12_61 rfl rfl rfl hnm rfl rfl (fun _ => rfl) (fun _ => rfl) rfl rfl rfl rfl ?_
  refine h_aload_n C dX12_init_138 rfl ?_
  refine h_bipush C dX12_init_139 rfl ?_
  refine h_newa20 (N := 8) (n1 := 187) (c1 := 16) (s1 := 14088) C dX12_init_141 rfl rfl rfl (by decide) ac_int (Nat.le_of_ble_eq_true rfl) ⟨Nat.le_of_ble_eq_true rfl, Nat.le_of_ble_eq_true rfl⟩ rfl rfl rfl ?_
  refine h_putR (j := 29) (t1 := 194) C dX12_init_143 rfl (Nat.le_of_ble_eq_true rfl) (Nat.le_of_ble_eq_true rfl) (Nat.le_of_ble_eq_true rfl) (Nat.le_of_ble_eq_true rfl) fl_12_64 rfl rfl rfl hnm rfl rfl (fun _ => rfl) (fun _ => rfl) rfl rfl rfl rfl ?_
  refine h_aload_n C dX12_init_146 rfl ?_
  refine h_bipush C dX12_init_147 rfl ?_
  refine h_newa20 (N := 24) (n1 := 188) (c1 := 17) (s1 := 14112) C dX12_init_149 rfl rfl rfl (by decide) ac_int (Nat.le_of_ble_eq_true rfl) ⟨Nat.le_of_ble_eq_true rfl, Nat.le_of_ble_eq_true rfl⟩ rfl rfl rfl ?_
  refine h_putR (j := 32) (t1 := 195) C dX12_init_151 rfl (Nat.le_of_ble_eq_true rfl) (Nat.le_of_ble_eq_true rfl) (Nat.le_of_ble_eq_true rfl) (Nat.le_of_ble_eq_true rfl) fl_12_67 rfl rfl rfl hnm rfl rfl (fun _ => rfl) (fun _ => rfl) rfl rfl rfl rfl ?_
  refine h_aload_n C dX12_init_154 rfl ?_
  refine h_bipush C dX12_init_155 rfl ?_
  refine h_newa20 (N := 24) (n1 := 189) (c1 := 18) (s1 := 14136) C dX12_init_157 rfl rfl rfl (by decide) ac_int (Nat.le_of_ble_eq_true rfl) ⟨Nat.le_of_ble_eq_true rfl, Nat.le_of_ble_eq_true rfl⟩ rfl rfl rfl ?_
  refine h_putR (j := 33) (t1 := 196) C dX12_init_159 rfl (Nat.le_of_ble_eq_true rfl) (Nat.le_of_ble_eq_true rfl) (Nat.le_of_ble_eq_true rfl) (Nat.le_of_ble_eq_true rfl) fl_12_70 rfl rfl rfl hnm rfl rfl (fun _ => rfl) (fun _ => rfl) rfl rfl rfl rfl ?_
  refine h_aload_n C dX12_init_162 rfl ?_
  refine h_bipush C dX12_init_163 rfl ?_
  refine h_newa20 (N := 24) (n1 := 190) (c1 := 19) (s1 := 14160) C dX12_init_165 rfl rfl rfl (by decide) ac_int (Nat.le_of_ble_eq_true rfl) ⟨Nat.le_of_ble_eq_true rfl, Nat.le_of_ble_eq_true rfl⟩ rfl rfl rfl ?_
  refine h_putR (j := 34) (t1 := 197) C dX12_init_167 rfl (Nat.le_of_ble_eq_true rfl) (Nat.le_of_ble_eq_true rfl) (Nat.le_of_ble_eq_true rfl) (Nat.le_of_ble_eq_true rfl) fl_12_73 rfl rfl rfl hnm rfl rfl (fun _ => rfl) (fun _ => rfl) rfl rfl rfl rfl ?_
  refine h_aload_n C dX12_init_170 rfl ?_
  refine h_bipush C dX12_init_171 rfl ?_
  refine h_newa20 (N := 8) (n1 := 191) (c1 := 20) (s1 := 14168) C dX12_init_173 rfl rfl rfl (by decide) ac_int (Nat.le_of_ble_eq_true rfl) ⟨Nat.le_of_ble_eq_true rfl, Nat.le_of_ble_eq_true rfl⟩ rfl rfl rfl ?_
  refine h_putR (j := 36) (t1 := 198) C dX12_init_175 rfl (Nat.le_of_ble_eq_true rfl) (Nat.le_of_ble_eq_true rfl) (Nat.le_of_ble_eq_true rfl) (Nat.le_of_ble_eq_true rfl) fl_12_76 rfl rfl rfl hnm rfl rfl (fun _ => rfl) (fun _ => rfl) rfl rfl rfl rfl ?_
  refine h_aload_n C dX12_init_178 rfl ?_
  refine h_bipush C dX12_init_179 rfl ?_
  refine h_newa20 (N := 8) (n1 := 192) (c1 := 21) (s1 := 14176) C dX12_init_181 rfl rfl rfl (by decide) ac_int (Nat.le_of_ble_eq_true rfl) ⟨Nat.le_of_ble_eq_true rfl, Nat.le_of_ble_eq_true rfl⟩ rfl rfl rfl ?_
  refine h_putR (j := 37) (t1 := 199) C dX12_init_183 rfl (Nat.le_of_ble_eq_true rfl) (Nat.le_of_ble_eq_true rfl) (Nat.le_of_ble_eq_true rfl) (Nat.le_of_ble_eq_true rfl) fl_12_79 rfl rfl rfl hnm rfl rfl (fun _ => rfl) (fun _ => rfl) rfl rfl rfl rfl ?_
  refine h_aload_n C dX12_init_186 rfl ?_
  refine h_bipush C dX12_init_187 rfl ?_
  refine h_newa20 (N := 8) (n1 := 193) (c1 := 22) (s1 := 14184) C dX12_init_189 rfl rfl rfl (by decide) ac_int (Nat.le_of_ble_eq_true rfl) ⟨Nat.le_of_ble_eq_true rfl, Nat.le_of_ble_eq_true rfl⟩ rfl rfl rfl ?_
  refine h_putR (j := 38) (t1 := 200) C dX12_init_191 rfl (Nat.le_of_ble_eq_true rfl) (Nat.le_of_ble_eq_true rfl) (Nat.le_of_ble_eq_true rfl) (Nat.le_of_ble_eq_true rfl) fl_12_82 rfl rfl rfl hnm rfl rfl (fun _ => rfl) (fun _ => rfl) rfl rfl rfl rfl ?_
  refine h_aload_n C dX12_init_194 rfl ?_
  refine h_bipush C dX12_init_195 rfl ?_
  refine h_newa20 (N := 100) (n1 := 194) (c1 := 23) (s1 := 14284) C dX12_init_197 rfl rfl rfl (by decide) ac_int (Nat.le_of_ble_eq_true rfl) ⟨Nat.le_of_ble_eq_true rfl, Nat.le_of_ble_eq_true rfl⟩ rfl rfl rfl ?_
  refine h_putR (j := 39) (t1 := 201) C dX12_init_199 rfl (Nat.le_of_ble_eq_true rfl) (Nat.le_of_ble_eq_true rfl) (Nat.le_of_ble_eq_true rfl) (Nat.le_of_ble_eq_true rfl) fl_12_85 rfl rfl rfl hnm rfl rfl (fun _ => rfl) (fun _ => rfl) rfl rfl rfl rfl ?_
  refine h_aload_n C dX12_init_202 rfl ?_
  refine h_bipush C dX12_init_203 rfl ?_
  refine h_newa20 (N := 100) (n1 := 195) (c1 := 24) (s1 := 14384) C dX12_init_205 rfl rfl rfl (by decide) ac_int (Nat.le_of_ble_eq_true rfl) ⟨Nat.le_of_ble_eq_true rfl, Nat.le_of_ble_eq_true rfl⟩ rfl rfl rfl ?_
  refine h_putR (j := 40) (t1 := 202) C dX12_init_207 rfl (Nat.le_of_ble_eq_true rfl) (Nat.le_of_ble_eq_true rfl) (Nat.le_of_ble_eq_true rfl) (Nat.le_of_ble_eq_true rfl) fl_12_88 rfl rfl rfl hnm rfl rfl (fun _ => rfl) (fun _ => rfl) rfl rfl rfl rfl ?_
  refine h_aload_n C dX12_init_210 rfl ?_
  refine h_sipush C dX12_init_211 rfl ?_
  refine h_newa20 (N := 150) (n1 := 196) (c1 := 25) (s1 := 14534) C dX12_init_214 rfl rfl rfl (by decide) ac_int (Nat.le_of_ble_eq_true rfl) ⟨Nat.le_of_ble_eq_true rfl, Nat.le_of_ble_eq_true rfl⟩ rfl rfl rfl ?_
  refine h_putR (j := 42) (t1 := 203) C dX12_init_216 rfl (Nat.le_of_ble_eq_true rfl) (Nat.le_of_ble_eq_true rfl) (Nat.le_of_ble_eq_true rfl) (Nat.le_of_ble_eq_true rfl) fl_12_91 rfl rfl rfl hnm rfl rfl (fun _ => rfl) (fun _ => rfl) rfl rfl rfl rfl ?_
  refine h_aload_n C dX12_init_219 rfl ?_
  refine h_sipush C dX12_init_220 rfl ?_
  refine h_newa20 (N := 150) (n1 := 197) (c1 := 26) (s1 := 14684) C dX12_init_223 rfl rfl rfl (by decide) ac_int (Nat.le_of_ble_eq_true rfl) ⟨Nat.le_of_ble_eq_true rfl, Nat.le_of_ble_eq_true rfl⟩ rfl rfl rfl ?_
  refine h_putR (j := 43) (t1 := 204) C dX12_init_225 rfl (Nat.le_of_ble_eq_true rfl) (Nat.le_of_ble_eq_true rfl) (Nat.le_of_ble_eq_true rfl) (Nat.le_of_ble_eq_true rfl) fl_12_94 rfl rfl rfl hnm rfl rfl (fun _ => rfl) (fun _ => rfl) rfl rfl rfl rfl ?_
  refine h_aload_n C dX12_init_228 rfl ?_
  refine h_sipush C dX12_init_229 rfl ?_
  refine h_newa20 (N := 150) (n1 := 198) (c1 := 27) (s1 := 14834) C dX12_init_232 rfl rfl rfl (by decide) ac_int (Nat.le_of_ble_eq_true rfl) ⟨Nat.le_of_ble_eq_true rfl, Nat.le_of_ble_eq_true rfl⟩ rfl rfl rfl ?_
  refine h_putR (j := 44) (t1 := 205) C dX12_init_234 rfl (Nat.le_of_ble_eq_true rfl) (Nat.le_of_ble_eq_true rfl) (Nat.le_of_ble_eq_true rfl) (Nat.le_of_ble_eq_true rfl) fl_12_97 rfl rfl rfl hnm rfl rfl (fun _ => rfl) (fun _ => rfl) rfl rfl rfl rfl ?_
  refine h_aload_n C dX12_init_237 rfl ?_
  refine h_sipush C dX12_init_238 rfl ?_
  refine h_newa20 (N := 150) (n1 := 199) (c1 := 28) (s1 := 14984) C dX12_init_241 rfl rfl rfl (by decide) ac_int (Nat.le_of_ble_eq_true rfl) ⟨Nat.le_of_ble_eq_true rfl, Nat.le_of_ble_eq_true rfl⟩ rfl rfl rfl ?_
  refine h_putR (j := 45) (t1 := 206) C dX12_init_243 rfl (Nat.le_of_ble_eq_true rfl) (Nat.le_of_ble_eq_true rfl) (Nat.le_of_ble_eq_true rfl) (Nat.le_of_ble_eq_true rfl) fl_12_100 rfl rfl rfl hnm rfl rfl (fun _ => rfl) (fun _ => rfl) rfl rfl rfl rfl ?_
  refine h_aload_n C dX12_init_246 rfl ?_
  refine h_sipush C dX12_init_247 rfl ?_
  refine h_newa20 (N := 150) (n1 := 200) (c1 := 29) (s1 := 15134) C dX12_init_250 rfl rfl rfl (by decide) ac_int (Nat.le_of_ble_eq_true rfl) ⟨Nat.le_of_ble_eq_true rfl, Nat.le_of_ble_eq_true rfl⟩ rfl rfl rfl ?_
  refine h_putR (j := 46) (t1 := 207) C dX12_init_252 rfl (Nat.le_of_ble_eq_true rfl) (Nat.le_of_ble_eq_true rfl) (Nat.le_of_ble_eq_true rfl) (Nat.le_of_ble_eq_true rfl) fl_12_103 rfl rfl rfl hnm rfl rfl (fun _ => rfl) (fun _ => rfl) rfl rfl rfl rfl ?_
  refine h_aload_n C dX12_init_255 rfl ?_
  refine h_sipush C dX12_init_256 rfl ?_
  refine h_newa22 (N := 960) (n1 := 201) (c1 := 30) (s1 := 16094) C dX12_init_259 rfl rfl rfl (by decide) ac_boolean (Nat.le_of_ble_eq_true rfl) ⟨Nat.le_of_ble_eq_true rfl, Nat.le_of_ble_eq_true rfl⟩ rfl rfl rfl ?_
  refine h_putR (j := 47) (t1 := 208) C dX12_init_261 rfl (Nat.le_of_ble_eq_true rfl) (Nat.le_of_ble_eq_true rfl) (Nat.le_of_ble_eq_true rfl) (Nat.le_of_ble_eq_true rfl) fl_12_106 rfl rfl rfl hnm rfl rfl (fun _ => rfl) (fun _ => rfl) rfl rfl rfl rfl ?_
  refine h_aload_n C dX12_init_264 rfl ?_
  refine h_iconst C dX12_init_265 ?_
  refine h_putI (j := 48) (m1 := 118) C dX12_init_266 rfl (Nat.le_of_ble_eq_true rfl) (Nat.le_of_ble_eq_true rfl) (Nat.le_of_ble_eq_true rfl) (Nat.le_of_ble_eq_true rfl) fl_12_110 rfl rfl rfl rfl rfl ?_
  refine h_aload_n C dX12_init_269 rfl ?_
  refine h_sipush C dX12_init_270 rfl ?_
  refine h_newa20 (N := 768) (n1 := 202) (c1 := 31) (s1 := 16862) C dX12_init_273 rfl rfl rfl (by decide) ac_int (Nat.le_of_ble_eq_true rfl) ⟨Nat.le_of_ble_eq_true rfl, Nat.le_of_ble_eq_true rfl⟩ rfl rfl rfl ?_
  refine h_putR (j := 49) (t1 := 209) C dX12_init_275 rfl (Nat.le_of_ble_eq_true rfl) (Nat.le_of_ble_eq_true rfl) (Nat.le_of_ble_eq_true rfl) (Nat.le_of_ble_eq_true rfl) fl_12_113 rfl rfl rfl hnm rfl rfl (fun _ => rfl) (fun _ => rfl) rfl rfl rfl rfl ?_
  refine h_aload_n C dX12_init_278 rfl ?_
  refine h_bipush C dX12_init_279 rfl ?_
  refine h_newa20 (N := 64) (n1 := 203) (c1 := 32) (s1 := 16926) C dX12_init_281 rfl rfl rfl (by decide) ac_int (Nat.le_of_ble_eq_true rfl) ⟨Nat.le_of_ble_eq_true rfl, Nat.le_of_ble_eq_true rfl⟩ rfl rfl rfl ?_
  refine h_putR (j := 50) (t1 := 210) C dX12_init_283 rfl (Nat.le_of_ble_eq_true rfl) (Nat.le_of_ble_eq_true rfl) (Nat.le_of_ble_eq_true rfl) (Nat.le_of_ble_eq_true rfl) fl_12_116 rfl rfl rfl hnm rfl rfl (fun _ => rfl) (fun _ => rfl) rfl rfl rfl rfl ?_
  refine h_aload_n C dX12_init_286 rfl ?_
  refine h_bipush C dX12_init_287 rfl ?_
  refine h_newa20 (N := 64) (n1 := 204) (c1 := 33) (s1 := 16990) C dX12_init_289 rfl rfl rfl (by decide) ac_int (Nat.le_of_ble_eq_true rfl) ⟨Nat.le_of_ble_eq_true rfl, Nat.le_of_ble_eq_true rfl⟩ rfl rfl rfl ?_
  refine h_putR (j := 51) (t1 := 211) C dX12_init_291 rfl (Nat.le_of_ble_eq_true rfl) (Nat.le_of_ble_eq_true rfl) (Nat.le_of_ble_eq_true rfl) (Nat.le_of_ble_eq_true rfl) fl_12_119 rfl rfl rfl hnm rfl rfl (fun _ => rfl) (fun _ => rfl) rfl rfl rfl rfl ?_
  refine h_aload_n C dX12_init_294 rfl ?_
  refine h_bipush C dX12_init_295 rfl ?_
  refine h_newa20 (N := 8) (n1 := 205) (c1 := 34) (s1 := 16998) C dX12_init_297 rfl rfl rfl (by decide) ac_int (Nat.le_of_ble_eq_true rfl) ⟨Nat.le_of_ble_eq_true rfl, Nat.le_of_ble_eq_true rfl⟩ rfl rfl rfl ?_
  refine h_putR (j := 52) (t1 := 212) C dX12_init_299 rfl (Nat.le_of_ble_eq_true rfl) (Nat.le_of_ble_eq_true rfl) (Nat.le_of_ble_eq_true rfl) (Nat.le_of_ble_eq_true rfl) fl_12_122 rfl rfl rfl hnm rfl rfl (fun _ => rfl) (fun _ => rfl) rfl rfl rfl rfl ?_
  refine h_aload_n C dX12_init_302 rfl ?_
  refine h_bipush C dX12_init_303 rfl ?_
  refine h_newa20 (N := 10) (n1 := 206) (c1 := 35) (s1 := 17008) C dX12_init_305 rfl rfl rfl (by decide) ac_int (Nat.le_of_ble_eq_true rfl) ⟨Nat.le_of_ble_eq_true rfl, Nat.le_of_ble_eq_true rfl⟩ rfl rfl rfl ?_
  refine h_putR (j := 53) (t1 := 213) C dX12_init_307 rfl (Nat.le_of_ble_eq_true rfl) (Nat.le_of_ble_eq_true rfl) (Nat.le_of_ble_eq_true rfl) (Nat.le_of_ble_eq_true rfl) fl_12_125 rfl rfl rfl hnm rfl rfl (fun _ => rfl) (fun _ => rfl) rfl rfl rfl rfl ?_
  refine h_aload_n C dX12_init_310 rfl ?_
  refine h_bipush C dX12_init_311 rfl ?_
  refine h_newa20 (N := 80) (n1 := 207) (c1 := 36) (s1 := 17088) C dX12_init_313 rfl rfl rfl (by decide) ac_int (Nat.le_of_ble_eq_true rfl) ⟨Nat.le_of_ble_eq_true rfl, Nat.le_of_ble_eq_true rfl⟩ rfl rfl rfl ?_
  refine h_putR (j := 54) (t1 := 214) C dX12_init_315 rfl (Nat.le_of_ble_eq_true rfl) (Nat.le_of_ble_eq_true rfl) (Nat.le_of_ble_eq_true rfl) (Nat.le_of_ble_eq_true rfl) fl_12_128 rfl rfl rfl hnm rfl rfl (fun _ => rfl) (fun _ => rfl) rfl rfl rfl rfl ?_
  refine h_aload_n C dX12_init_318 rfl ?_
  refine h_bipush C dX12_init_319 rfl ?_
  refine h_newa20 (N := 64) (n1 := 208) (c1 := 37) (s1 := 17152) C dX12_init_321 rfl rfl rfl (by decide) ac_int (Nat.le_of_ble_eq_true rfl) ⟨Nat.le_of_ble_eq_true rfl, Nat.le_of_ble_eq_true rfl⟩ rfl rfl rfl ?_
  refine h_putR (j := 55) (t1 := 215) C dX12_init_323 rfl (Nat.le_of_ble_eq_true rfl) (Nat.le_of_ble_eq_true rfl) (Nat.le_of_ble_eq_true rfl) (Nat.le_of_ble_eq_true rfl) fl_12_131 rfl rfl rfl hnm rfl rfl (fun _ => rfl) (fun _ => rfl) rfl rfl rfl rfl ?_
  refine h_aload_n C dX12_init_326 rfl ?_
  refine h_bipush C dX12_init_327 rfl ?_
  refine h_newa20 (N := 8) (n1 := 209) (c1 := 38) (s1 := 17160) C dX12_init_329 rfl rfl rfl (by decide) ac_int (Nat.le_of_ble_eq_true rfl) ⟨Nat.le_of_ble_eq_true rfl, Nat.le_of_ble_eq_true rfl⟩ rfl rfl rfl ?_
  refine h_putR (j := 56) (t1 := 216) C dX12_init_331 rfl (Nat.le_of_ble_eq_true rfl) (Nat.le_of_ble_eq_true rfl) (Nat.le_of_ble_eq_true rfl) (Nat.le_of_ble_eq_true rfl) fl_12_134 rfl rfl rfl hnm rfl rfl (fun _ => rfl) (fun _ => rfl) rfl rfl rfl rfl ?_
  refine h_aload_n C dX12_init_334 rfl ?_
  refine h_bipush C dX12_init_335 rfl ?_
  refine h_newa20 (N := 8) (n1 := 210) (c1 := 39) (s1 := 17168) C dX12_init_337 rfl rfl rfl (by decide) ac_int (Nat.le_of_ble_eq_true rfl) ⟨Nat.le_of_ble_eq_true rfl, Nat.le_of_ble_eq_true rfl⟩ rfl rfl rfl ?_
  refine h_putR (j := 57) (t1 := 217) C dX12_init_339 rfl (Nat.le_of_ble_eq_true rfl) (Nat.le_of_ble_eq_true rfl) (Nat.le_of_ble_eq_true rfl) (Nat.le_of_ble_eq_true rfl) fl_12_137 rfl rfl rfl hnm rfl rfl (fun _ => rfl) (fun _ => rfl) rfl rfl rfl rfl ?_
  refine h_aload_n C dX12_init_342 rfl ?_
  refine h_sipush C dX12_init_343 rfl ?_
  refine h_newa20 (N := 768) (n1 := 211) (c1 := 40) (s1 := 17936) C dX12_init_346 rfl rfl rfl (by decide) ac_int (Nat.le_of_ble_eq_true rfl) ⟨Nat.le_of_ble_eq_true rfl, Nat.le_of_ble_eq_true rfl⟩ rfl rfl rfl ?_
  refine h_putR (j := 59) (t1 := 218) C dX12_init_348 rfl (Nat.le_of_ble_eq_true rfl) (Nat.le_of_ble_eq_true rfl) (Nat.le_of_ble_eq_true rfl) (Nat.le_of_ble_eq_true rfl) fl_12_140 rfl rfl rfl hnm rfl rfl (fun _ => rfl) (fun _ => rfl) rfl rfl rfl rfl ?_
  refine h_aload_n C dX12_init_351 rfl ?_
  refine h_bipush C dX12_init_352 rfl ?_
  refine h_newa20 (N := 8) (n1 := 212) (c1 := 41) (s1 := 17944) C dX12_init_354 rfl rfl rfl (by decide) ac_int (Nat.le_of_ble_eq_true rfl) ⟨Nat.le_of_ble_eq_true rfl, Nat.le_of_ble_eq_true rfl⟩ rfl rfl rfl ?_
  refine h_putR (j := 61) (t1 := 219) C dX12_init_356 rfl (Nat.le_of_ble_eq_true rfl) (Nat.le_of_ble_eq_true rfl) (Nat.le_of_ble_eq_true rfl) (Nat.le_of_ble_eq_true rfl) fl_12_143 rfl rfl rfl hnm rfl rfl (fun _ => rfl) (fun _ => rfl) rfl rfl rfl rfl ?_
  refine h_aload_n C dX12_init_359 rfl ?_
  refine h_bipush C dX12_init_360 rfl ?_
  refine h_newa20 (N := 8) (n1 := 213) (c1 := 42) (s1 := 17952) C dX12_init_362 rfl rfl rfl (by decide) ac_int (Nat.le_of_ble_eq_true rfl) ⟨Nat.le_of_ble_eq_true rfl, Nat.le_of_ble_eq_true rfl⟩ rfl rfl rfl ?_
  refine h_putR (j := 62) (t1 := 220) C dX12_init_364 rfl (Nat.le_of_ble_eq_true rfl) (Nat.le_of_ble_eq_true rfl) (Nat.le_of_ble_eq_true rfl) (Nat.le_of_ble_eq_true rfl) fl_12_146 rfl rfl rfl hnm rfl rfl (fun _ => rfl) (fun _ => rfl) rfl rfl rfl rfl ?_
  refine h_aload_n C dX12_init_367 rfl ?_
  refine h_bipush C dX12_init_368 rfl ?_
  refine h_newa20 (N := 8) (n1 := 214) (c1 := 43) (s1 := 17960) C dX12_init_370 rfl rfl rfl (by decide) ac_int (Nat.le_of_ble_eq_true rfl) ⟨Nat.le_of_ble_eq_true rfl, Nat.le_of_ble_eq_true rfl⟩ rfl rfl rfl ?_
  refine h_putR (j := 63) (t1 := 221) C dX12_init_372 rfl (Nat.le_of_ble_eq_true rfl) (Nat.le_of_ble_eq_true rfl) (Nat.le_of_ble_eq_true rfl) (Nat.le_of_ble_eq_true rfl) fl_12_149 rfl rfl rfl hnm rfl rfl (fun _ => rfl) (fun _ => rfl) rfl rfl rfl rfl ?_
  refine h_aload_n C dX12_init_375 rfl ?_
  refine h_bipush C dX12_init_376 rfl ?_
  refine h_newa20 (N := 8) (n1 := 215) (c1 := 44) (s1 := 17968) C dX12_init_378 rfl rfl rfl (by decide) ac_int (Nat.le_of_ble_eq_true rfl) ⟨Nat.le_of_ble_eq_true rfl, Nat.le_of_ble_eq_true rfl⟩ rfl rfl rfl ?_
  refine h_putR (j := 64) (t1 := 222) C dX12_init_380 rfl (Nat.le_of_ble_eq_true rfl) (Nat.le_of_ble_eq_true rfl) (Nat.le_of_ble_eq_true rfl) (Nat.le_of_ble_eq_true rfl) fl_12_152 rfl rfl rfl hnm rfl rfl (fun _ => rfl) (fun _ => rfl) rfl rfl rfl rfl ?_
  refine h_aload_n C dX12_init_383 rfl ?_
  refine h_bipush C dX12_init_384 rfl ?_
  refine h_newa20 (N := 8) (n1 := 216) (c1 := 45) (s1 := 17976) C dX12_init_386 rfl rfl rfl (by decide) ac_int (Nat.le_of_ble_eq_true rfl) ⟨Nat.le_of_ble_eq_true rfl, Nat.le_of_ble_eq_true rfl⟩ rfl rfl rfl ?_
  refine h_putR (j := 65) (t1 := 223) C dX12_init_388 rfl (Nat.le_of_ble_eq_true rfl) (Nat.le_of_ble_eq_true rfl) (Nat.le_of_ble_eq_true rfl) (Nat.le_of_ble_eq_true rfl) fl_12_155 rfl rfl rfl hnm rfl rfl (fun _ => rfl) (fun _ => rfl) rfl rfl rfl rfl ?_
  refine h_aload_n C dX12_init_391 rfl ?_
  refine h_bipush C dX12_init_392 rfl ?_
  refine h_newa20 (N := 8) (n1 := 217) (c1 := 46) (s1 := 17984) C dX12_init_394 rfl rfl rfl (by decide) ac_int (Nat.le_of_ble_eq_true rfl) ⟨Nat.le_of_ble_eq_true rfl, Nat.le_of_ble_eq_true rfl⟩ rfl rfl rfl ?_
  refine h_putR (j := 66) (t1 := 224) C dX12_init_396 rfl (Nat.le_of_ble_eq_true rfl) (Nat.le_of_ble_eq_true rfl) (Nat.le_of_ble_eq_true rfl) (Nat.le_of_ble_eq_true rfl) fl_12_158 rfl rfl rfl hnm rfl rfl (fun _ => rfl) (fun _ => rfl) rfl rfl rfl rfl ?_
  refine h_aload_n C dX12_init_399 rfl ?_
  refine h_bipush C dX12_init_400 rfl ?_
  refine h_newa20 (N := 8) (n1 := 218) (c1 := 47) (s1 := 17992) C dX12_init_402 rfl rfl rfl (by decide) ac_int (Nat.le_of_ble_eq_true rfl) ⟨Nat.le_of_ble_eq_true rfl, Nat.le_of_ble_eq_true rfl⟩ rfl rfl rfl ?_
  refine h_putR (j := 67) (t1 := 225) C dX12_init_404 rfl (Nat.le_of_ble_eq_true rfl) (Nat.le_of_ble_eq_true rfl) (Nat.le_of_ble_eq_true rfl) (Nat.le_of_ble_eq_true rfl) fl_12_161 rfl rfl rfl hnm rfl rfl (fun _ => rfl) (fun _ => rfl) rfl rfl rfl rfl ?_
  refine h_aload_n C dX12_init_407 rfl ?_
  refine h_bipush C dX12_init_408 rfl ?_
  refine h_newa20 (N := 8) (n1 := 219) (c1 := 48) (s1 := 18000) C dX12_init_410 rfl rfl rfl (by decide) ac_int (Nat.le_of_ble_eq_true rfl) ⟨Nat.le_of_ble_eq_true rfl, Nat.le_of_ble_eq_true rfl⟩ rfl rfl rfl ?_
  refine h_putR (j := 68) (t1 := 226) C dX12_init_412 rfl (Nat.le_of_ble_eq_true rfl) (Nat.le_of_ble_eq_true rfl) (Nat.le_of_ble_eq_true rfl) (Nat.le_of_ble_eq_true rfl) fl_12_164 rfl rfl rfl hnm rfl rfl (fun _ => rfl) (fun _ => rfl) rfl rfl rfl rfl ?_
  refine h_aload_n C dX12_init_415 rfl ?_
  refine h_sipush C dX12_init_416 rfl ?_
  refine h_newa20 (N := 512) (n1 := 220) (c1 := 49) (s1 := 18512) C dX12_init_419 rfl rfl rfl (by decide) ac_int (Nat.le_of_ble_eq_true rfl) ⟨Nat.le_of_ble_eq_true rfl, Nat.le_of_ble_eq_true rfl⟩ rfl rfl rfl ?_
  refine h_putR (j := 69) (t1 := 227) C dX12_init_421 rfl (Nat.le_of_ble_eq_true rfl) (Nat.le_of_ble_eq_true rfl) (Nat.le_of_ble_eq_true rfl) (Nat.le_of_ble_eq_true rfl) fl_12_167 rfl rfl rfl hnm rfl rfl (fun _ => rfl) (fun _ => rfl) rfl rfl rfl rfl ?_
  refine h_aload_n C dX12_init_424 rfl ?_
  refine h_sipush C dX12_init_425 rfl ?_
  refine h_newa20 (N := 512) (n1 := 221) (c1 := 50) (s1 := 19024) C dX12_init_428 rfl rfl rfl (by decide) ac_int (Nat.le_of_ble_eq_true rfl) ⟨Nat.le_of_ble_eq_true rfl, Nat.le_of_ble_eq_true rfl⟩ rfl rfl rfl ?_
  refine h_putR (j := 70) (t1 := 228) C dX12_init_430 rfl (Nat.le_of_ble_eq_true rfl) (Nat.le_of_ble_eq_true rfl) (Nat.le_of_ble_eq_true rfl) (Nat.le_of_ble_eq_true rfl) fl_12_170 rfl rfl rfl hnm rfl rfl (fun _ => rfl) (fun _ => rfl) rfl rfl rfl rfl ?_
  refine h_aload_n C dX12_init_433 rfl ?_
  refine h_iconst C dX12_init_434 ?_
  refine h_putI (j := 74) (m1 := 119) C dX12_init_435 rfl (Nat.le_of_ble_eq_true rfl) (Nat.le_of_ble_eq_true rfl) (Nat.le_of_ble_eq_true rfl) (Nat.le_of_ble_eq_true rfl) fl_12_173 rfl rfl rfl rfl rfl ?_
  refine h_aload_n C dX12_init_438 rfl ?_
  refine h_sipush C dX12_init_439 rfl ?_
  refine h_newa22 (N := 7680) (n1 := 222) (c1 := 51) (s1 := 26704) C dX12_init_442 rfl rfl rfl (by decide) ac_boolean (Nat.le_of_ble_eq_true rfl) ⟨Nat.le_of_ble_eq_true rfl, Nat.le_of_ble_eq_true rfl⟩ rfl rfl rfl ?_
  refine h_putR (j := 75) (t1 := 229) C dX12_init_444 rfl (Nat.le_of_ble_eq_true rfl) (Nat.le_of_ble_eq_true rfl) (Nat.le_of_ble_eq_true rfl) (Nat.le_of_ble_eq_true rfl) fl_12_176 rfl rfl rfl hnm rfl rfl (fun _ => rfl) (fun _ => rfl) rfl rfl rfl rfl ?_
  refine h_aload_n C dX12_init_447 rfl ?_
  refine h_sipush C dX12_init_448 rfl ?_
  refine h_newa22 (N := 960) (n1 := 223) (c1 := 52) (s1 := 27664) C dX12_init_451 rfl rfl rfl (by decide) ac_boolean (Nat.le_of_ble_eq_true rfl) ⟨Nat.le_of_ble_eq_true rfl, Nat.le_of_ble_eq_true rfl⟩ rfl rfl rfl ?_
  refine h_putR (j := 76) (t1 := 230) C dX12_init_453 rfl (Nat.le_of_ble_eq_true rfl) (Nat.le_of_ble_eq_true rfl) (Nat.le_of_ble_eq_true rfl) (Nat.le_of_ble_eq_true rfl) fl_12_179 rfl rfl rfl hnm rfl rfl (fun _ => rfl) (fun _ => rfl) rfl rfl rfl rfl ?_
  refine h_aload_n C dX12_init_456 rfl ?_
  refine h_sipush C dX12_init_457 rfl ?_
  refine h_newa22 (N := 960) (n1 := 224) (c1 := 53) (s1 := 28624) C dX12_init_460 rfl rfl rfl (by decide) ac_boolean (Nat.le_of_ble_eq_true rfl) ⟨Nat.le_of_ble_eq_true rfl, Nat.le_of_ble_eq_true rfl⟩ rfl rfl rfl ?_
  refine h_putR (j := 77) (t1 := 231) C dX12_init_462 rfl (Nat.le_of_ble_eq_true rfl) (Nat.le_of_ble_eq_true rfl) (Nat.le_of_ble_eq_true rfl) (Nat.le_of_ble_eq_true rfl) fl_12_182 rfl rfl rfl hnm rfl rfl (fun _ => rfl) (fun _ => rfl) rfl rfl rfl rfl ?_
  refine h_aload_n C dX12_init_465 rfl ?_
  refine h_sipush C dX12_init_466 rfl ?_
  refine h_newa22 (N := 960) (n1 := 225) (c1 := 54) (s1 := 29584) C dX12_init_469 rfl rfl rfl (by decide) ac_boolean (Nat.le_of_ble_eq_true rfl) ⟨Nat.le_of_ble_eq_true rfl, Nat.le_of_ble_eq_true rfl⟩ rfl rfl rfl ?_
  refine h_putR (j := 78) (t1 := 232) C dX12_init_471 rfl (Nat.le_of_ble_eq_true rfl) (Nat.le_of_ble_eq_true rfl) (Nat.le_of_ble_eq_true rfl) (Nat.le_of_ble_eq_true rfl) fl_12_185 rfl rfl rfl hnm rfl rfl (fun _ => rfl) (fun _ => rfl) rfl rfl rfl rfl ?_
  refine h_aload_n C dX12_init_474 rfl ?_
  refine h_sipush C dX12_init_475 rfl ?_
  refine h_newa22 (N := 768) (n1 := 226) (c1 := 55) (s1 := 30352) C dX12_init_478 rfl rfl rfl (by decide) ac_boolean (Nat.le_of_ble_eq_true rfl) ⟨Nat.le_of_ble_eq_true rfl, Nat.le_of_ble_eq_true rfl⟩ rfl rfl rfl ?_
  refine h_putR (j := 79) (t1 := 233) C dX12_init_480 rfl (Nat.le_of_ble_eq_true rfl) (Nat.le_of_ble_eq_true rfl) (Nat.le_of_ble_eq_true rfl) (Nat.le_of_ble_eq_true rfl) fl_12_188 rfl rfl rfl hnm rfl rfl (fun _ => rfl) (fun _ => rfl) rfl rfl rfl rfl ?_
  refine h_aload_n C dX12_init_483 rfl ?_
  refine h_sipush C dX12_init_484 rfl ?_
  refine h_newa22 (N := 7680) (n1 := 227) (c1 := 56) (s1 := 38032) C dX12_init_487 rfl rfl rfl (by decide) ac_boolean (Nat.le_of_ble_eq_true rfl) ⟨Nat.le_of_ble_eq_true rfl, Nat.le_of_ble_eq_true rfl⟩ rfl rfl rfl ?_
  refine h_putR (j := 80) (t1 := 234) C dX12_init_489 rfl (Nat.le_of_ble_eq_true rfl) (Nat.le_of_ble_eq_true rfl) (Nat.le_of_ble_eq_true rfl) (Nat.le_of_ble_eq_true rfl) fl_12_191 rfl rfl rfl hnm rfl rfl (fun _ => rfl) (fun _ => rfl) rfl rfl rfl rfl ?_
  refine h_aload_n C dX12_init_492 rfl ?_
  refine h_bipush C dX12_init_493 rfl ?_
  refine h_newa22 (N := 10) (n1 := 228) (c1 := 57) (s1 := 38042) C dX12_init_495 rfl rfl rfl (by decide) ac_boolean (Nat.le_of_ble_eq_true rfl) ⟨Nat.le_of_ble_eq_true rfl, Nat.le_of_ble_eq_true rfl⟩ rfl rfl rfl ?_
  refine h_putR (j := 81) (t1 := 235) C dX12_init_497 rfl (Nat.le_of_ble_eq_true rfl) (Nat.le_of_ble_eq_true rfl) (Nat.le_of_ble_eq_true rfl) (Nat.le_of_ble_eq_true rfl) fl_12_194 rfl rfl rfl hnm rfl rfl (fun _ => rfl) (fun _ => rfl) rfl rfl rfl rfl ?_
  refine h_aload_n C dX12_init_500 rfl ?_
  refine h_iconst C dX12_init_501 ?_
  refine h_putI (j := 82) (m1 := 120) C dX12_init_502 rfl (Nat.le_of_ble_eq_true rfl) (Nat.le_of_ble_eq_true rfl) (Nat.le_of_ble_eq_true rfl) (Nat.le_of_ble_eq_true rfl) fl_12_197 rfl rfl rfl rfl rfl ?_
  refine h_aload_n C dX12_init_505 rfl ?_
  refine h_bipush C dX12_init_506 rfl ?_
  refine h_newa20 (N := 8) (n1 := 229) (c1 := 58) (s1 := 38050) C dX12_init_508 rfl rfl rfl (by decide) ac_int (Nat.le_of_ble_eq_true rfl) ⟨Nat.le_of_ble_eq_true rfl, Nat.le_of_ble_eq_true rfl⟩ rfl rfl rfl ?_
  refine h_putR (j := 83) (t1 := 236) C dX12_init_510 rfl (Nat.le_of_ble_eq_true rfl) (Nat.le_of_ble_eq_true rfl) (Nat.le_of_ble_eq_true rfl) (Nat.le_of_ble_eq_true rfl) fl_12_200 rfl rfl rfl hnm rfl rfl (fun _ => rfl) (fun _ => rfl) rfl rfl rfl rfl ?_
  refine h_aload_n C dX12_init_513 rfl ?_
  refine h_iconst C dX12_init_514 ?_
  refine h_newa20 (N := 3) (n1 := 230) (c1 := 59) (s1 := 38053) C dX12_init_515 rfl rfl rfl (by decide) ac_int (Nat.le_of_ble_eq_true rfl) ⟨Nat.le_of_ble_eq_true rfl, Nat.le_of_ble_eq_true rfl⟩ rfl rfl rfl ?_
  refine h_putR (j := 84) (t1 := 237) C dX12_init_517 rfl (Nat.le_of_ble_eq_true rfl) (Nat.le_of_ble_eq_true rfl) (Nat.le_of_ble_eq_true rfl) (Nat.le_of_ble_eq_true rfl) fl_12_203 rfl rfl rfl hnm rfl rfl (fun _ => rfl) (fun _ => rfl) rfl rfl rfl rfl ?_
  refine h_aload_n C dX12_init_520 rfl ?_
  refine h_bipush C dX12_init_521 rfl ?_
  refine h_newa20 (N := 8) (n1 := 231) (c1 := 60) (s1 := 38061) C dX12_init_523 rfl rfl rfl (by decide) ac_int (Nat.le_of_ble_eq_true rfl) ⟨Nat.le_of_ble_eq_true rfl, Nat.le_of_ble_eq_true rfl⟩ rfl rfl rfl ?_
  refine h_putR (j := 85) (t1 := 238) C dX12_init_525 rfl (Nat.le_of_ble_eq_true rfl) (Nat.le_of_ble_eq_true rfl) (Nat.le_of_ble_eq_true rfl) (Nat.le_of_ble_eq_true rfl) fl_12_206 rfl rfl rfl hnm rfl rfl (fun _ => rfl) (fun _ => rfl) rfl rfl rfl rfl ?_
  refine h_aload_n C dX12_init_528 rfl ?_
  refine h_bipush C dX12_init_529 rfl ?_
  refine h_newa20 (N := 8) (n1 := 232) (c1 := 61) (s1 := 38069) C dX12_init_531 rfl rfl rfl (by decide) ac_int (Nat.le_of_ble_eq_true rfl) ⟨Nat.le_of_ble_eq_true rfl, Nat.le_of_ble_eq_true rfl⟩ rfl rfl rfl ?_
  refine h_putR (j := 86) (t1 := 239) C dX12_init_533 rfl (Nat.le_of_ble_eq_true rfl) (Nat.le_of_ble_eq_true rfl) (Nat.le_of_ble_eq_true rfl) (Nat.le_of_ble_eq_true rfl) fl_12_209 rfl rfl rfl hnm rfl rfl (fun _ => rfl) (fun _ => rfl) rfl rfl rfl rfl ?_
  refine h_aload_n C dX12_init_536 rfl ?_
  refine h_bipush C dX12_init_537 rfl ?_
  refine h_newa20 (N := 8) (n1 := 233) (c1 := 62) (s1 := 38077) C dX12_init_539 rfl rfl rfl (by decide) ac_int (Nat.le_of_ble_eq_true rfl) ⟨Nat.le_of_ble_eq_true rfl, Nat.le_of_ble_eq_true rfl⟩ rfl rfl rfl ?_
  refine h_putR (j := 87) (t1 := 240) C dX12_init_541 rfl (Nat.le_of_ble_eq_true rfl) (Nat.le_of_ble_eq_true rfl) (Nat.le_of_ble_eq_true rfl) (Nat.le_of_ble_eq_true rfl) fl_12_212 rfl rfl rfl hnm rfl rfl (fun _ => rfl) (fun _ => rfl) rfl rfl rfl rfl ?_
  refine h_aload_n C dX12_init_544 rfl ?_
  refine h_iconst C dX12_init_545 ?_
  refine h_newa20 (N := 3) (n1 := 234) (c1 := 63) (s1 := 38080) C dX12_init_546 rfl rfl rfl (by decide) ac_int (Nat.le_of_ble_eq_true rfl) ⟨Nat.le_of_ble_eq_true rfl, Nat.le_of_ble_eq_true rfl⟩ rfl rfl rfl ?_
  refine h_putR (j := 88) (t1 := 241) C dX12_init_548 rfl (Nat.le_of_ble_eq_true rfl) (Nat.le_of_ble_eq_true rfl) (Nat.le_of_ble_eq_true rfl) (Nat.le_of_ble_eq_true rfl) fl_12_215 rfl rfl rfl hnm rfl rfl (fun _ => rfl) (fun _ => rfl) rfl rfl rfl rfl ?_
  refine h_aload_n C dX12_init_551 rfl ?_
  refine h_getR (j := 9) C dX12_init_552 rfl (Nat.le_of_ble_eq_true rfl) (Nat.le_of_ble_eq_true rfl) (Nat.le_of_ble_eq_true rfl) (Nat.le_of_ble_eq_true rfl) fl_12_34 rfl rfl (r := 177) rfl (Nat.le_of_ble_eq_true rfl) ?_
  refine h_iconst C dX12_init_555 ?_
  refine h_bipush C dX12_init_556 rfl ?_
  refine h_bipush C dX12_init_558 rfl ?_
  refine h_bipush C dX12_init_560 rfl ?_
  refine h_bipush C dX12_init_562 rfl ?_
  refine h_iconst C dX12_init_564 ?_
  refine h_iconst C dX12_init_565 ?_
  refine h_iconst C dX12_init_566 ?_
  refine h_callS1 (v := jv 70097) (As := [iv 99, iv 111, iv 100, iv 101, iv 0, iv 0, iv 0]) C dX12_init_567 mi_X12_word ml_12_218 (cp_X12_word (σ := fun _ _ => 0) (by decide) (by decide) (by decide) (by decide) (by decide) (by decide) (by decide) (by decide +kernel)) rfl ⟨rfl, rfl⟩ ⟨Nat.le_of_ble_eq_true rfl, Nat.le_of_ble_eq_true rfl⟩ ⟨Nat.le_of_ble_eq_true rfl, Nat.le_of_ble_eq_true rfl⟩ rfl (Nat.le_of_ble_eq_true rfl) ?_
  refine h_last (m1 := 121) C dX12_init_570 rfl (Nat.le_of_ble_eq_true rfl) (by decide) (by decide) rfl rfl ?_
  refine h_aload_n C dX12_init_571 rfl ?_
  refine h_getR (j := 9) C dX12_init_572 rfl (Nat.le_of_ble_eq_true rfl) (Nat.le_of_ble_eq_true rfl) (Nat.le_of_ble_eq_true rfl) (Nat.le_of_ble_eq_true rfl) fl_12_34 rfl rfl (r := 177) rfl (Nat.le_of_ble_eq_true rfl) ?_
  refine h_iconst C dX12_init_575 ?_
  refine h_bipush C dX12_init_576 rfl ?_
  refine h_bipush C dX12_init_578 rfl ?_
  refine h_bipush C dX12_init_580 rfl ?_
  refine h_iconst C dX12_init_582 ?_
  refine h_iconst C dX12_init_583 ?_
  refine h_iconst C dX12_init_584 ?_
  refine h_iconst C dX12_init_585 ?_
  refine h_callS1 (v := jv 4027) (As := [iv 101, iv 110, iv 100, iv 0, iv 0, iv 0, iv 0]) C dX12_init_586 mi_X12_word ml_12_218 (cp_X12_word (σ := fun _ _ => 0) (by decide) (by decide) (by decide) (by decide) (by decide) (by decide) (by decide) (by decide +kernel)) rfl ⟨rfl, rfl⟩ ⟨Nat.le_of_ble_eq_true rfl, Nat.le_of_ble_eq_true rfl⟩ ⟨Nat.le_of_ble_eq_true rfl, Nat.le_of_ble_eq_true rfl⟩ rfl (Nat.le_of_ble_eq_true rfl) ?_
  refine h_last (m1 := 122) C dX12_init_589 rfl (Nat.le_of_ble_eq_true rfl) (by decide) (by decide) rfl rfl ?_
  refine h_aload_n C dX12_init_590 rfl ?_
  refine h_getR (j := 9) C dX12_init_591 rfl (Nat.le_of_ble_eq_true rfl) (Nat.le_of_ble_eq_true rfl) (Nat.le_of_ble_eq_true rfl) (Nat.le_of_ble_eq_true rfl) fl_12_34 rfl rfl (r := 177) rfl (Nat.le_of_ble_eq_true rfl) ?_
  refine h_iconst C dX12_init_594 ?_
  refine h_bipush C dX12_init_595 rfl ?_
  refine h_bipush C dX12_init_597 rfl ?_
  refine h_iconst C dX12_init_599 ?_
  refine h_iconst C dX12_init_600 ?_
  refine h_iconst C dX12_init_601 ?_
  refine h_iconst C dX12_init_602 ?_
  refine h_iconst C dX12_init_603 ?_
  refine h_callS1 (v := jv 204) (As := [iv 103, iv 111, iv 0, iv 0, iv 0, iv 0, iv 0]) C dX12_init_604 mi_X12_word ml_12_218 (cp_X12_word (σ := fun _ _ => 0) (by decide) (by decide) (by decide) (by decide) (by decide) (by decide) (by decide) (by decide +kernel)) rfl ⟨rfl, rfl⟩ ⟨Nat.le_of_ble_eq_true rfl, Nat.le_of_ble_eq_true rfl⟩ ⟨Nat.le_of_ble_eq_true rfl, Nat.le_of_ble_eq_true rfl⟩ rfl (Nat.le_of_ble_eq_true rfl) ?_
  refine h_last (m1 := 123) C dX12_init_607 rfl (Nat.le_of_ble_eq_true rfl) (by decide) (by decide) rfl rfl ?_
  refine h_aload_n C dX12_init_608 rfl ?_
  refine h_getR (j := 9) C dX12_init_609 rfl (Nat.le_of_ble_eq_true rfl) (Nat.le_of_ble_eq_true rfl) (Nat.le_of_ble_eq_true rfl) (Nat.le_of_ble_eq_true rfl) fl_12_34 rfl rfl (r := 177) rfl (Nat.le_of_ble_eq_true rfl) ?_
  refine h_iconst C dX12_init_612 ?_
  refine h_bipush C dX12_init_613 rfl ?_
  refine h_bipush C dX12_init_615 rfl ?_
  refine h_bipush C dX12_init_617 rfl ?_
  refine h_bipush C dX12_init_619 rfl ?_
  refine h_iconst C dX12_init_621 ?_
  refine h_iconst C dX12_init_622 ?_
  refine h_iconst C dX12_init_623 ?_
  refine h_callS1 (v := jv 453701) (As := [iv 119, iv 97, iv 105, iv 116, iv 0, iv 0, iv 0]) C dX12_init_624 mi_X12_word ml_12_218 (cp_X12_word (σ := fun _ _ => 0) (by decide) (by decide) (by decide) (by decide) (by decide) (by decide) (by decide) (by decide +kernel)) rfl ⟨rfl, rfl⟩ ⟨Nat.le_of_ble_eq_true rfl, Nat.le_of_ble_eq_true rfl⟩ ⟨Nat.le_of_ble_eq_true rfl, Nat.le_of_ble_eq_true rfl⟩ rfl (Nat.le_of_ble_eq_true rfl) ?_
  refine h_last (m1 := 124) C dX12_init_627 rfl (Nat.le_of_ble_eq_true rfl) (by decide) (by decide) rfl rfl ?_
  refine h_aload_n C dX12_init_628 rfl ?_
  refine h_getR (j := 9) C dX12_init_629 rfl (Nat.le_of_ble_eq_true rfl) (Nat.le_of_ble_eq_true rfl) (Nat.le_of_ble_eq_true rfl) (Nat.le_of_ble_eq_true rfl) fl_12_34 rfl rfl (r := 177) rfl (Nat.le_of_ble_eq_true rfl) ?_
  refine h_iconst C dX12_init_632 ?_
  refine h_bipush C dX12_init_633 rfl ?_
  refine h_bipush C dX12_init_635 rfl ?_
  refine h_bipush C dX12_init_637 rfl ?_
  refine h_bipush C dX12_init_639 rfl ?_
  refine h_iconst C dX12_init_641 ?_
  refine h_iconst C dX12_init_642 ?_
  refine h_iconst C dX12_init_643 ?_
  refine h_callS1 (v := jv 400557) (As := [iv 116, iv 105, iv 108, iv 108, iv 0, iv 0, iv 0]) C dX12_init_644 mi_X12_word ml_12_218 (cp_X12_word (σ := fun _ _ => 0) (by decide) (by decide) (by decide) (by decide) (by decide) (by decide) (by decide) (by decide +kernel)) rfl ⟨rfl, rfl⟩ ⟨Nat.le_of_ble_eq_true rfl, Nat.le_of_ble_eq_true rfl⟩ ⟨Nat.le_of_ble_eq_true rfl, Nat.le_of_ble_eq_true rfl⟩ rfl (Nat.le_of_ble_eq_true rfl) ?_
  refine h_last (m1 := 125) C dX12_init_647 rfl (Nat.le_of_ble_eq_true rfl) (by decide) (by decide) rfl rfl ?_
  refine h_aload_n C dX12_init_648 rfl ?_
  refine h_getR (j := 9) C dX12_init_649 rfl (Nat.le_of_ble_eq_true rfl) (Nat.le_of_ble_eq_true rfl) (Nat.le_of_ble_eq_true rfl) (Nat.le_of_ble_eq_true rfl) fl_12_34 rfl rfl (r := 177) rfl (Nat.le_of_ble_eq_true rfl) ?_
  refine h_iconst C dX12_init_652 ?_
  refine h_bipush C dX12_init_653 rfl ?_
  refine h_bipush C dX12_init_655 rfl ?_
  refine h_bipush C dX12_init_657 rfl ?_
  refine h_bipush C dX12_init_659 rfl ?_
  refine h_iconst C dX12_init_661 ?_
  refine h_iconst C dX12_init_662 ?_
  refine h_iconst C dX12_init_663 ?_
  refine h_callS1 (v := jv 257105) (As := [iv 109, iv 97, iv 114, iv 107, iv 0, iv 0, iv 0]) C dX12_init_664 mi_X12_word ml_12_218 (cp_X12_word (σ := fun _ _ => 0) (by decide) (by decide) (by decide) (by decide) (by decide) (by decide) (by decide) (by decide +kernel)) rfl ⟨rfl, rfl⟩ ⟨Nat.le_of_ble_eq_true rfl, Nat.le_of_ble_eq_true rfl⟩ ⟨Nat.le_of_ble_eq_true rfl, Nat.le_of_ble_eq_true rfl⟩ rfl (Nat.le_of_ble_eq_true rfl) ?_
  refine h_last (m1 := 126) C dX12_init_667 rfl (Nat.le_of_ble_eq_true rfl) (by decide) (by decide) rfl rfl ?_
  refine h_aload_n C dX12_init_668 rfl ?_
  refine h_getR (j := 9) C dX12_init_669 rfl (Nat.le_of_ble_eq_true rfl) (Nat.le_of_ble_eq_true rfl) (Nat.le_of_ble_eq_true rfl) (Nat.le_of_ble_eq_true rfl) fl_12_34 rfl rfl (r := 177) rfl (Nat.le_of_ble_eq_true rfl) ?_
  refine h_bipush C dX12_init_672 rfl ?_
  refine h_bipush C dX12_init_674 rfl ?_
  refine h_bipush C dX12_init_676 rfl ?_
  refine h_bipush C dX12_init_678 rfl ?_
  refine h_bipush C dX12_init_680 rfl ?_
  refine h_iconst C dX12_init_682 ?_
  refine h_iconst C dX12_init_683 ?_
  refine h_iconst C dX12_init_684 ?_
  refine h_callS1 (v := jv 459707) (As := [iv 119, iv 105, iv 112, iv 101, iv 0, iv 0, iv 0]) C dX12_init_685 mi_X12_word ml_12_218 (cp_X12_word (σ := fun _ _ => 0) (by decide) (by decide) (by decide) (by decide) (by decide) (by decide) (by decide) (by decide +kernel)) rfl ⟨rfl, rfl⟩ ⟨Nat.le_of_ble_eq_true rfl, Nat.le_of_ble_eq_true rfl⟩ ⟨Nat.le_of_ble_eq_true rfl, Nat.le_of_ble_eq_true rfl⟩ rfl (Nat.le_of_ble_eq_true rfl) ?_
  refine h_last (m1 := 127) C dX12_init_688 rfl (Nat.le_of_ble_eq_true rfl) (by decide) (by decide) rfl rfl ?_
  refine h_aload_n C dX12_init_689 rfl ?_
  refine h_getR (j := 9) C dX12_init_690 rfl (Nat.le_of_ble_eq_true rfl) (Nat.le_of_ble_eq_true rfl) (Nat.le_of_ble_eq_true rfl) (Nat.le_of_ble_eq_true rfl) fl_12_34 rfl rfl (r := 177) rfl (Nat.le_of_ble_eq_true rfl) ?_
  refine h_bipush C dX12_init_693 rfl ?_
  refine h_bipush C dX12_init_695 rfl ?_
  refine h_bipush C dX12_init_697 rfl ?_
  refine h_bipush C dX12_init_699 rfl ?_
  refine h_bipush C dX12_init_701 rfl ?_
  refine h_bipush C dX12_init_703 rfl ?_
  refine h_iconst C dX12_init_705 ?_
  refine h_iconst C dX12_init_706 ?_
  refine h_callS1 (v := jv 12584543) (As := [iv 119, iv 114, iv 105, iv 116, iv 101, iv 0, iv 0]) C dX12_init_707 mi_X12_word ml_12_218 (cp_X12_word (σ := fun _ _ => 0) (by decide) (by decide) (by decide) (by decide) (by decide) (by decide) (by decide) (by decide +kernel)) rfl ⟨rfl, rfl⟩ ⟨Nat.le_of_ble_eq_true rfl, Nat.le_of_ble_eq_true rfl⟩ ⟨Nat.le_of_ble_eq_true rfl, Nat.le_of_ble_eq_true rfl⟩ rfl (Nat.le_of_ble_eq_true rfl) ?_
  refine h_last (m1 := 128) C dX12_init_710 rfl (Nat.le_of_ble_eq_true rfl) (by decide) (by decide) rfl rfl ?_
  refine h_aload_n C dX12_init_711 rfl ?_
  refine h_getR (j := 9) C dX12_init_712 rfl (Nat.le_of_ble_eq_true rfl) (Nat.le_of_ble_eq_true rfl) (Nat.le_of_ble_eq_true rfl) (Nat.le_of_ble_eq_true rfl) fl_12_34 rfl rfl (r := 177) rfl (Nat.le_of_ble_eq_true rfl) ?_
  refine h_bipush C dX12_init_715 rfl ?_
  refine h_bipush C dX12_init_717 rfl ?_
  refine h_bipush C dX12_init_719 rfl ?_
  refine h_bipush C dX12_init_721 rfl ?_
  refine h_bipush C dX12_init_723 rfl ?_
  refine h_bipush C dX12_init_725 rfl ?_
  refine h_iconst C dX12_init_727 ?_
  refine h_iconst C dX12_init_728 ?_
  refine h_callS1 (v := jv 6477035) (As := [iv 108, iv 101, iv 97, iv 118, iv 101, iv 0, iv 0]) C dX12_init_729 mi_X12_word ml_12_218 (cp_X12_word (σ := fun _ _ => 0) (by decide) (by decide) (by decide) (by decide) (by decide) (by decide) (by decide) (by decide +kernel)) rfl ⟨rfl, rfl⟩ ⟨Nat.le_of_ble_eq_true rfl, Nat.le_of_ble_eq_true rfl⟩ ⟨Nat.le_of_ble_eq_true rfl, Nat.le_of_ble_eq_true rfl⟩ rfl (Nat.le_of_ble_eq_true rfl) ?_
  refine h_last (m1 := 129) C dX12_init_732 rfl (Nat.le_of_ble_eq_true rfl) (by decide) (by decide) rfl rfl ?_
  refine h_aload_n C dX12_init_733 rfl ?_
  refine h_getR (j := 9) C dX12_init_734 rfl (Nat.le_of_ble_eq_true rfl) (Nat.le_of_ble_eq_true rfl) (Nat.le_of_ble_eq_true rfl) (Nat.le_of_ble_eq_true rfl) fl_12_34 rfl rfl (r := 177) rfl (Nat.le_of_ble_eq_true rfl) ?_
  refine h_bipush C dX12_init_737 rfl ?_
  refine h_bipush C dX12_init_739 rfl ?_
  refine h_bipush C dX12_init_741 rfl ?_
  refine h_bipush C dX12_init_743 rfl ?_
  refine h_bipush C dX12_init_745 rfl ?_
  refine h_iconst C dX12_init_747 ?_
  refine h_iconst C dX12_init_748 ?_
  refine h_iconst C dX12_init_749 ?_
  refine h_callS1 (v := jv 394691) (As := [iv 116, iv 97, iv 107, iv 101, iv 0, iv 0, iv 0]) C dX12_init_750 mi_X12_word ml_12_218 (cp_X12_word (σ := fun _ _ => 0) (by decide) (by decide) (by decide) (by decide) (by decide) (by decide) (by decide) (by decide +kernel)) rfl ⟨rfl, rfl⟩ ⟨Nat.le_of_ble_eq_true rfl, Nat.le_of_ble_eq_true rfl⟩ ⟨Nat.le_of_ble_eq_true rfl, Nat.le_of_ble_eq_true rfl⟩ rfl (Nat.le_of_ble_eq_true rfl) ?_
  refine h_last (m1 := 130) C dX12_init_753 rfl (Nat.le_of_ble_eq_true rfl) (by decide) (by decide) rfl rfl ?_
  refine h_aload_n C dX12_init_754 rfl ?_
  refine h_getR (j := 9) C dX12_init_755 rfl (Nat.le_of_ble_eq_true rfl) (Nat.le_of_ble_eq_true rfl) (Nat.le_of_ble_eq_true rfl) (Nat.le_of_ble_eq_true rfl) fl_12_34 rfl rfl (r := 177) rfl (Nat.le_of_ble_eq_true rfl) ?_
  refine h_bipush C dX12_init_758 rfl ?_
  refine h_bipush C dX12_init_760 rfl ?_
  refine h_bipush C dX12_init_762 rfl ?_
  refine h_bipush C dX12_init_764 rfl ?_
  refine h_bipush C dX12_init_766 rfl ?_
  refine h_iconst C dX12_init_768 ?_
  refine h_iconst C dX12_init_769 ?_
  refine h_iconst C dX12_init_770 ?_
  refine h_callS1 (v := jv 55175) (As := [iv 98, iv 117, iv 114, iv 110, iv 0, iv 0, iv 0]) C dX12_init_771 mi_X12_word ml_12_218 (cp_X12_word (σ := fun _ _ => 0) (by decide) (by decide) (by decide) (by decide) (by decide) (by decide) (by decide) (by decide +kernel)) rfl ⟨rfl, rfl⟩ ⟨Nat.le_of_ble_eq_true rfl, Nat.le_of_ble_eq_true rfl⟩ ⟨Nat.le_of_ble_eq_true rfl, Nat.le_of_ble_eq_true rfl⟩ rfl (Nat.le_of_ble_eq_true rfl) ?_
  refine h_last (m1 := 131) C dX12_init_774 rfl (Nat.le_of_ble_eq_true rfl) (by decide) (by decide) rfl rfl ?_
  refine h_aload_n C dX12_init_775 rfl ?_
  refine h_getR (j := 9) C dX12_init_776 rfl (Nat.le_of_ble_eq_true rfl) (Nat.le_of_ble_eq_true rfl) (Nat.le_of_ble_eq_true rfl) (Nat.le_of_ble_eq_true rfl) fl_12_34 rfl rfl (r := 177) rfl (Nat.le_of_ble_eq_true rfl) ?_
  refine h_bipush C dX12_init_779 rfl ?_
  refine h_bipush C dX12_init_781 rfl ?_
  refine h_bipush C dX12_init_783 rfl ?_
  refine h_bipush C dX12_init_785 rfl ?_
  refine h_bipush C dX12_init_787 rfl ?_
  refine h_iconst C dX12_init_789 ?_
  refine h_iconst C dX12_init_790 ?_
  refine h_iconst C dX12_init_791 ?_
  refine h_callS1 (v := jv 397641) (As := [iv 116, iv 101, iv 108, iv 108, iv 0, iv 0, iv 0]) C dX12_init_792 mi_X12_word ml_12_218 (cp_X12_word (σ := fun _ _ => 0) (by decide) (by decide) (by decide) (by decide) (by decide) (by decide) (by decide) (by decide +kernel)) rfl ⟨rfl, rfl⟩ ⟨Nat.le_of_ble_eq_true rfl, Nat.le_of_ble_eq_true rfl⟩ ⟨Nat.le_of_ble_eq_true rfl, Nat.le_of_ble_eq_true rfl⟩ rfl (Nat.le_of_ble_eq_true rfl) ?_
  refine h_last (m1 := 132) C dX12_init_795 rfl (Nat.le_of_ble_eq_true rfl) (by decide) (by decide) rfl rfl ?_
  refine h_aload_n C dX12_init_796 rfl ?_
  refine h_getR (j := 9) C dX12_init_797 rfl (Nat.le_of_ble_eq_true rfl) (Nat.le_of_ble_eq_true rfl) (Nat.le_of_ble_eq_true rfl) (Nat.le_of_ble_eq_true rfl) fl_12_34 rfl rfl (r := 177) rfl (Nat.le_of_ble_eq_true rfl) ?_
  refine h_bipush C dX12_init_800 rfl ?_
  refine h_bipush C dX12_init_802 rfl ?_
  refine h_bipush C dX12_init_804 rfl ?_
  refine h_bipush C dX12_init_806 rfl ?_
  refine h_bipush C dX12_init_808 rfl ?_
  refine h_bipush C dX12_init_810 rfl ?_
  refine h_iconst C dX12_init_812 ?_
  refine h_iconst C dX12_init_813 ?_
  refine h_callS1 (v := jv 582248) (As := [iv 97, iv 98, iv 111, iv 114, iv 116, iv 0, iv 0]) C dX12_init_814 mi_X12_word ml_12_218 (cp_X12_word (σ := fun _ _ => 0) (by decide) (by decide) (by decide) (by decide) (by decide) (by decide) (by decide) (by decide +kernel)) rfl ⟨rfl, rfl⟩ ⟨Nat.le_of_ble_eq_true rfl, Nat.le_of_ble_eq_true rfl⟩ ⟨Nat.le_of_ble_eq_true rfl, Nat.le_of_ble_eq_true rfl⟩ rfl (Nat.le_of_ble_eq_true rfl) ?_
  refine h_last (m1 := 133) C dX12_init_817 rfl (Nat.le_of_ble_eq_true rfl) (by decide) (by decide) rfl rfl ?_
  refine h_aload_n C dX12_init_818 rfl ?_
  refine h_getR (j := 9) C dX12_init_819 rfl (Nat.le_of_ble_eq_true rfl) (Nat.le_of_ble_eq_true rfl) (Nat.le_of_ble_eq_true rfl) (Nat.le_of_ble_eq_true rfl) fl_12_34 rfl rfl (r := 177) rfl (Nat.le_of_ble_eq_true rfl) ?_
  refine h_bipush C dX12_init_822 rfl ?_
  refine h_bipush C dX12_init_824 rfl ?_
  refine h_bipush C dX12_init_826 rfl ?_
  refine h_iconst C dX12_init_828 ?_
  refine h_iconst C dX12_init_829 ?_
  refine h_iconst C dX12_init_830 ?_
  refine h_iconst C dX12_init_831 ?_
  refine h_iconst C dX12_init_832 ?_
  refine h_callS1 (v := jv 123) (As := [iv 100, iv 111, iv 0, iv 0, iv 0, iv 0, iv 0]) C dX12_init_833 mi_X12_word ml_12_218 (cp_X12_word (σ := fun _ _ => 0) (by decide) (by decide) (by decide) (by decide) (by decide) (by decide) (by decide) (by decide +kernel)) rfl ⟨rfl, rfl⟩ ⟨Nat.le_of_ble_eq_true rfl, Nat.le_of_ble_eq_true rfl⟩ ⟨Nat.le_of_ble_eq_true rfl, Nat.le_of_ble_eq_true rfl⟩ rfl (Nat.le_of_ble_eq_true rfl) ?_
  refine h_last (m1 := 134) C dX12_init_836 rfl (Nat.le_of_ble_eq_true rfl) (by decide) (by decide) rfl rfl ?_
  refine h_aload_n C dX12_init_837 rfl ?_
  refine h_getR (j := 9) C dX12_init_838 rfl (Nat.le_of_ble_eq_true rfl) (Nat.le_of_ble_eq_true rfl) (Nat.le_of_ble_eq_true rfl) (Nat.le_of_ble_eq_true rfl) fl_12_34 rfl rfl (r := 177) rfl (Nat.le_of_ble_eq_true rfl) ?_
  refine h_bipush C dX12_init_841 rfl ?_
  refine h_bipush C dX12_init_843 rfl ?_
  refine h_bipush C dX12_init_845 rfl ?_
  refine h_bipush C dX12_init_847 rfl ?_
  refine h_bipush C dX12_init_849 rfl ?_
  refine h_iconst C dX12_init_851 ?_
  refine h_iconst C dX12_init_852 ?_
  refine h_iconst C dX12_init_853 ?_
  refine h_callS1 (v := jv 247552) (As := [iv 108, iv 111, iv 111, iv 112, iv 0, iv 0, iv 0]) C dX12_init_854 mi_X12_word ml_12_218 (cp_X12_word (σ := fun _ _ => 0) (by decide) (by decide) (by decide) (by decide) (by decide) (by decide) (by decide) (by decide +kernel)) rfl ⟨rfl, rfl⟩ ⟨Nat.le_of_ble_eq_true rfl, Nat.le_of_ble_eq_true rfl⟩ ⟨Nat.le_of_ble_eq_true rfl, Nat.le_of_ble_eq_true rfl⟩ rfl (Nat.le_of_ble_eq_true rfl) ?_
  refine h_last (m1 := 135) C dX12_init_857 rfl (Nat.le_of_ble_eq_true rfl) (by decide) (by decide) rfl rfl ?_
  refine h_aload_n C dX12_init_858 rfl ?_
  refine h_getR (j := 9) C dX12_init_859 rfl (Nat.le_of_ble_eq_true rfl) (Nat.le_of_ble_eq_true rfl) (Nat.le_of_ble_eq_true rfl) (Nat.le_of_ble_eq_true rfl) fl_12_34 rfl rfl (r := 177) rfl (Nat.le_of_ble_eq_true rfl) ?_
  refine h_bipush C dX12_init_862 rfl ?_
  refine h_bipush C dX12_init_864 rfl ?_
  refine h_bipush C dX12_init_866 rfl ?_
  refine h_iconst C dX12_init_868 ?_
  refine h_iconst C dX12_init_869 ?_
  refine h_iconst C dX12_init_870 ?_
  refine h_iconst C dX12_init_871 ?_
  refine h_iconst C dX12_init_872 ?_
  refine h_callS1 (v := jv 249) (As := [iv 105, iv 102, iv 0, iv 0, iv 0, iv 0, iv 0]) C dX12_init_873 mi_X12_word ml_12_218 (cp_X12_word (σ := fun _ _ => 0) (by decide) (by decide) (by decide) (by decide) (by decide) (by decide) (by decide) (by decide +kernel)) rfl ⟨rfl, rfl⟩ ⟨Nat.le_of_ble_eq_true rfl, Nat.le_of_ble_eq_true rfl⟩ ⟨Nat.le_of_ble_eq_true rfl, Nat.le_of_ble_eq_true rfl⟩ rfl (Nat.le_of_ble_eq_true rfl) ?_
  refine h_last (m1 := 136) C dX12_init_876 rfl (Nat.le_of_ble_eq_true rfl) (by decide) (by decide) rfl rfl ?_
  refine h_aload_n C dX12_init_877 rfl ?_
  refine h_getR (j := 9) C dX12_init_878 rfl (Nat.le_of_ble_eq_true rfl) (Nat.le_of_ble_eq_true rfl) (Nat.le_of_ble_eq_true rfl) (Nat.le_of_ble_eq_true rfl) fl_12_34 rfl rfl (r := 177) rfl (Nat.le_of_ble_eq_true rfl) ?_
  refine h_bipush C dX12_init_881 rfl ?_
  refine h_bipush C dX12_init_883 rfl ?_
  refine h_bipush C dX12_init_885 rfl ?_
  refine h_bipush C dX12_init_887 rfl ?_
  refine h_bipush C dX12_init_889 rfl ?_
  refine h_iconst C dX12_init_891 ?_
  refine h_iconst C dX12_init_892 ?_
  refine h_iconst C dX12_init_893 ?_
  refine h_callS1 (v := jv 107681) (As := [iv 101, iv 108, iv 115, iv 101, iv 0, iv 0, iv 0]) C dX12_init_894 mi_X12_word ml_12_218 (cp_X12_word (σ := fun _ _ => 0) (by decide) (by decide) (by decide) (by decide) (by decide) (by decide) (by decide) (by decide +kernel)) rfl ⟨rfl, rfl⟩ ⟨Nat.le_of_ble_eq_true rfl, Nat.le_of_ble_eq_true rfl⟩ ⟨Nat.le_of_ble_eq_true rfl, Nat.le_of_ble_eq_true rfl⟩ rfl (Nat.le_of_ble_eq_true rfl) ?_
  refine h_last (m1 := 137) C dX12_init_897 rfl (Nat.le_of_ble_eq_true rfl) (by decide) (by decide) rfl rfl ?_
  refine h_aload_n C dX12_init_898 rfl ?_
  refine h_getR (j := 9) C dX12_init_899 rfl (Nat.le_of_ble_eq_true rfl) (Nat.le_of_ble_eq_true rfl) (Nat.le_of_ble_eq_true rfl) (Nat.le_of_ble_eq_true rfl) fl_12_34 rfl rfl (r := 177) rfl (Nat.le_of_ble_eq_true rfl) ?_
  refine h_bipush C dX12_init_902 rfl ?_
  refine h_bipush C dX12_init_904 rfl ?_
  refine h_bipush C dX12_init_906 rfl ?_
  refine h_bipush C dX12_init_908 rfl ?_
  refine h_bipush C dX12_init_910 rfl ?_
  refine h_iconst C dX12_init_912 ?_
  refine h_iconst C dX12_init_913 ?_
  refine h_iconst C dX12_init_914 ?_
  refine h_callS1 (v := jv 259679) (As := [iv 109, iv 101, iv 101, iv 116, iv 0, iv 0, iv 0]) C dX12_init_915 mi_X12_word ml_12_218 (cp_X12_word (σ := fun _ _ => 0) (by decide) (by decide) (by decide) (by decide) (by decide) (by decide) (by decide) (by decide +kernel)) rfl ⟨rfl, rfl⟩ ⟨Nat.le_of_ble_eq_true rfl, Nat.le_of_ble_eq_true rfl⟩ ⟨Nat.le_of_ble_eq_true rfl, Nat.le_of_ble_eq_true rfl⟩ rfl (Nat.le_of_ble_eq_true rfl) ?_
  refine h_last (m1 := 138) C dX12_init_918 rfl (Nat.le_of_ble_eq_true rfl) (by decide) (by decide) rfl rfl ?_
  refine h_aload_n C dX12_init_919 rfl ?_
  refine h_getR (j := 9) C dX12_init_920 rfl (Nat.le_of_ble_eq_true rfl) (Nat.le_of_ble_eq_true rfl) (Nat.le_of_ble_eq_true rfl) (Nat.le_of_ble_eq_true rfl) fl_12_34 rfl rfl (r := 177) rfl (Nat.le_of_ble_eq_true rfl) ?_
  refine h_bipush C dX12_init_923 rfl ?_
  refine h_bipush C dX12_init_925 rfl ?_
  refine h_bipush C dX12_init_927 rfl ?_
  refine h_bipush C dX12_init_929 rfl ?_
  refine h_iconst C dX12_init_931 ?_
  refine h_iconst C dX12_init_932 ?_
  refine h_iconst C dX12_init_933 ?_
  refine h_iconst C dX12_init_934 ?_
  refine h_callS1 (v := jv 4797) (As := [iv 102, iv 111, iv 114, iv 0, iv 0, iv 0, iv 0]) C dX12_init_935 mi_X12_word ml_12_218 (cp_X12_word (σ := fun _ _ => 0) (by decide) (by decide) (by decide) (by decide) (by decide) (by decide) (by decide) (by decide +kernel)) rfl ⟨rfl, rfl⟩ ⟨Nat.le_of_ble_eq_true rfl, Nat.le_of_ble_eq_true rfl⟩ ⟨Nat.le_of_ble_eq_true rfl, Nat.le_of_ble_eq_true rfl⟩ rfl (Nat.le_of_ble_eq_true rfl) ?_
  refine h_last (m1 := 139) C dX12_init_938 rfl (Nat.le_of_ble_eq_true rfl) (by decide) (by decide) rfl rfl ?_
  refine h_aload_n C dX12_init_939 rfl ?_
  refine h_getR (j := 9) C dX12_init_940 rfl (Nat.le_of_ble_eq_true rfl) (Nat.le_of_ble_eq_true rfl) (Nat.le_of_ble_eq_true rfl) (Nat.le_of_ble_eq_true rfl) fl_12_34 rfl rfl (r := 177) rfl (Nat.le_of_ble_eq_true rfl) ?_
  refine h_bipush C dX12_init_943 rfl ?_
  refine h_bipush C dX12_init_945 rfl ?_
  refine h_bipush C dX12_init_947 rfl ?_
  refine h_bipush C dX12_init_949 rfl ?_
  refine h_iconst C dX12_init_951 ?_
  refine h_iconst C dX12_init_952 ?_
  refine h_iconst C dX12_init_953 ?_
  refine h_iconst C dX12_init_954 ?_
  refine h_callS1 (v := jv 10631) (As := [iv 110, iv 111, iv 116, iv 0, iv 0, iv 0, iv 0]) C dX12_init_955 mi_X12_word ml_12_218 (cp_X12_word (σ := fun _ _ => 0) (by decide) (by decide) (by decide) (by decide) (by decide) (by decide) (by decide) (by decide +kernel)) rfl ⟨rfl, rfl⟩ ⟨Nat.le_of_ble_eq_true rfl, Nat.le_of_ble_eq_true rfl⟩ ⟨Nat.le_of_ble_eq_true rfl, Nat.le_of_ble_eq_true rfl⟩ rfl (Nat.le_of_ble_eq_true rfl) ?_
  refine h_last (m1 := 140) C dX12_init_958 rfl (Nat.le_of_ble_eq_true rfl) (by decide) (by decide) rfl rfl ?_
  refine h_aload_n C dX12_init_959 rfl ?_
  refine h_getR (j := 9) C dX12_init_960 rfl (Nat.le_of_ble_eq_true rfl) (Nat.le_of_ble_eq_true rfl) (Nat.le_of_ble_eq_true rfl) (Nat.le_of_ble_eq_true rfl) fl_12_34 rfl rfl (r := 177) rfl (Nat.le_of_ble_eq_true rfl) ?_
  refine h_bipush C dX12_init_963 rfl ?_
  refine h_bipush C dX12_init_965 rfl ?_
  refine h_bipush C dX12_init_967 rfl ?_
  refine h_bipush C dX12_init_969 rfl ?_
  refine h_bipush C dX12_init_971 rfl ?_
  refine h_bipush C dX12_init_973 rfl ?_
  refine h_iconst C dX12_init_975 ?_
  refine h_iconst C dX12_init_976 ?_
  refine h_callS1 (v := jv 8534556) (As := [iv 112, iv 97, iv 112, iv 101, iv 114, iv 0, iv 0]) C dX12_init_977 mi_X12_word ml_12_218 (cp_X12_word (σ := fun _ _ => 0) (by decide) (by decide) (by decide) (by decide) (by decide) (by decide) (by decide) (by decide +kernel)) rfl ⟨rfl, rfl⟩ ⟨Nat.le_of_ble_eq_true rfl, Nat.le_of_ble_eq_true rfl⟩ ⟨Nat.le_of_ble_eq_true rfl, Nat.le_of_ble_eq_true rfl⟩ rfl (Nat.le_of_ble_eq_true rfl) ?_
  refine h_last (m1 := 141) C dX12_init_980 rfl (Nat.le_of_ble_eq_true rfl) (by decide) (by decide) rfl rfl ?_
  refine h_aload_n C dX12_init_981 rfl ?_
  refine h_getR (j := 9) C dX12_init_982 rfl (Nat.le_of_ble_eq_true rfl) (Nat.le_of_ble_eq_true rfl) (Nat.le_of_ble_eq_true rfl) (Nat.le_of_ble_eq_true rfl) fl_12_34 rfl rfl (r := 177) rfl (Nat.le_of_ble_eq_true rfl) ?_
  refine h_bipush C dX12_init_985 rfl ?_
  refine h_bipush C dX12_init_987 rfl ?_
  refine h_bipush C dX12_init_989 rfl ?_
  refine h_bipush C dX12_init_991 rfl ?_
  refine h_bipush C dX12_init_993 rfl ?_
  refine h_bipush C dX12_init_995 rfl ?_
  refine h_iconst C dX12_init_997 ?_
  refine h_iconst C dX12_init_998 ?_
  refine h_callS1 (v := jv 6132988) (As := [iv 107, iv 110, iv 111, iv 119, iv 115, iv 0, iv 0]) C dX12_init_999 mi_X12_word ml_12_218 (cp_X12_word (σ := fun _ _ => 0) (by decide) (by decide) (by decide) (by decide) (by decide) (by decide) (by decide) (by decide +kernel)) rfl ⟨rfl, rfl⟩ ⟨Nat.le_of_ble_eq_true rfl, Nat.le_of_ble_eq_true rfl⟩ ⟨Nat.le_of_ble_eq_true rfl, Nat.le_of_ble_eq_true rfl⟩ rfl (Nat.le_of_ble_eq_true rfl) ?_
  refine h_last (m1 := 142) C dX12_init_1002 rfl (Nat.le_of_ble_eq_true rfl) (by decide) (by decide) rfl rfl ?_
  refine h_aload_n C dX12_init_1003 rfl ?_
  refine h_getR (j := 9) C dX12_init_1004 rfl (Nat.le_of_ble_eq_true rfl) (Nat.le_of_ble_eq_true rfl) (Nat.le_of_ble_eq_true rfl) (Nat.le_of_ble_eq_true rfl) fl_12_34 rfl rfl (r := 177) rfl (Nat.le_of_ble_eq_true rfl) ?_
  refine h_bipush C dX12_init_1007 rfl ?_
  refine h_bipush C dX12_init_1009 rfl ?_
  refine h_bipush C dX12_init_1011 rfl ?_
  refine h_bipush C dX12_init_1013 rfl ?_
  refine h_iconst C dX12_init_1015 ?_
  refine h_iconst C dX12_init_1016 ?_
  refine h_iconst C dX12_init_1017 ?_
  refine h_iconst C dX12_init_1018 ?_
  refine h_callS1 (v := jv 5878) (As := [iv 104, iv 97, iv 115, iv 0, iv 0, iv 0, iv 0]) C dX12_init_1019 mi_X12_word ml_12_218 (cp_X12_word (σ := fun _ _ => 0) (by decide) (by decide) (by decide) (by decide) (by decide) (by decide) (by decide) (by decide +kernel)) rfl ⟨rfl, rfl⟩ ⟨Nat.le_of_ble_eq_true rfl, Nat.le_of_ble_eq_true rfl⟩ ⟨Nat.le_of_ble_eq_true rfl, Nat.le_of_ble_eq_true rfl⟩ rfl (Nat.le_of_ble_eq_true rfl) ?_
  refine h_last (m1 := 143) C dX12_init_1022 rfl (Nat.le_of_ble_eq_true rfl) (by decide) (by decide) rfl rfl ?_
  refine h_aload_n C dX12_init_1023 rfl ?_
  refine h_getR (j := 9) C dX12_init_1024 rfl (Nat.le_of_ble_eq_true rfl) (Nat.le_of_ble_eq_true rfl) (Nat.le_of_ble_eq_true rfl) (Nat.le_of_ble_eq_true rfl) fl_12_34 rfl rfl (r := 177) rfl (Nat.le_of_ble_eq_true rfl) ?_
  refine h_bipush C dX12_init_1027 rfl ?_
  refine h_bipush C dX12_init_1029 rfl ?_
  refine h_bipush C dX12_init_1031 rfl ?_
  refine h_bipush C dX12_init_1033 rfl ?_
  refine h_bipush C dX12_init_1035 rfl ?_
  refine h_iconst C dX12_init_1037 ?_
  refine h_iconst C dX12_init_1038 ?_
  refine h_iconst C dX12_init_1039 ?_
  refine h_callS1 (v := jv 459818) (As := [iv 119, iv 105, iv 116, iv 104, iv 0, iv 0, iv 0]) C dX12_init_1040 mi_X12_word ml_12_218 (cp_X12_word (σ := fun _ _ => 0) (by decide) (by decide) (by decide) (by decide) (by decide) (by decide) (by decide) (by decide +kernel)) rfl ⟨rfl, rfl⟩ ⟨Nat.le_of_ble_eq_true rfl, Nat.le_of_ble_eq_true rfl⟩ ⟨Nat.le_of_ble_eq_true rfl, Nat.le_of_ble_eq_true rfl⟩ rfl (Nat.le_of_ble_eq_true rfl) ?_
  refine h_last (m1 := 144) C dX12_init_1043 rfl (Nat.le_of_ble_eq_true rfl) (by decide) (by decide) rfl rfl ?_
  refine h_aload_n C dX12_init_1044 rfl ?_
  refine h_getR (j := 9) C dX12_init_1045 rfl (Nat.le_of_ble_eq_true rfl) (Nat.le_of_ble_eq_true rfl) (Nat.le_of_ble_eq_true rfl) (Nat.le_of_ble_eq_true rfl) fl_12_34 rfl rfl (r := 177) rfl (Nat.le_of_ble_eq_true rfl) ?_
  refine h_bipush C dX12_init_1048 rfl ?_
  refine h_bipush C dX12_init_1050 rfl ?_
  refine h_bipush C dX12_init_1052 rfl ?_
  refine h_bipush C dX12_init_1054 rfl ?_
  refine h_bipush C dX12_init_1056 rfl ?_
  refine h_iconst C dX12_init_1058 ?_
  refine h_iconst C dX12_init_1059 ?_
  refine h_iconst C dX12_init_1060 ?_
  refine h_callS1 (v := jv 237470) (As := [iv 108, iv 97, iv 116, iv 101, iv 0, iv 0, iv 0]) C dX12_init_1061 mi_X12_word ml_12_218 (cp_X12_word (σ := fun _ _ => 0) (by decide) (by decide) (by decide) (by decide) (by decide) (by decide) (by decide) (by decide +kernel)) rfl ⟨rfl, rfl⟩ ⟨Nat.le_of_ble_eq_true rfl, Nat.le_of_ble_eq_true rfl⟩ ⟨Nat.le_of_ble_eq_true rfl, Nat.le_of_ble_eq_true rfl⟩ rfl (Nat.le_of_ble_eq_true rfl) ?_
  refine h_last (m1 := 145) C dX12_init_1064 rfl (Nat.le_of_ble_eq_true rfl) (by decide) (by decide) rfl rfl ?_
  refine h_aload_n C dX12_init_1065 rfl ?_
  refine h_getR (j := 9) C dX12_init_1066 rfl (Nat.le_of_ble_eq_true rfl) (Nat.le_of_ble_eq_true rfl) (Nat.le_of_ble_eq_true rfl) (Nat.le_of_ble_eq_true rfl) fl_12_34 rfl rfl (r := 177) rfl (Nat.le_of_ble_eq_true rfl) ?_
  refine h_bipush C dX12_init_1069 rfl ?_
  refine h_bipush C dX12_init_1071 rfl ?_
  refine h_bipush C dX12_init_1073 rfl ?_
  refine h_bipush C dX12_init_1075 rfl ?_
  refine h_bipush C dX12_init_1077 rfl ?_
  refine h_bipush C dX12_init_1079 rfl ?_
  refine h_bipush C dX12_init_1081 rfl ?_
  refine h_bipush C dX12_init_1083 rfl ?_
  refine h_callS1 (v := jv 8935713994) (As := [iv 119, iv 97, iv 116, iv 99, iv 104, iv 101, iv 100]) C dX12_init_1085 mi_X12_word ml_12_218 (cp_X12_word (σ := fun _ _ => 0) (by decide) (by decide) (by decide) (by decide) (by decide) (by decide) (by decide) (by decide +kernel)) rfl ⟨rfl, rfl⟩ ⟨Nat.le_of_ble_eq_true rfl, Nat.le_of_ble_eq_true rfl⟩ ⟨Nat.le_of_ble_eq_true rfl, Nat.le_of_ble_eq_true rfl⟩ rfl (Nat.le_of_ble_eq_true rfl) ?_
  refine h_last (m1 := 146) C dX12_init_1088 rfl (Nat.le_of_ble_eq_true rfl) (by decide) (by decide) rfl rfl ?_
  exact h_vret C dX12_init_1089 hr hlk ⟨rfl, rfl, rfl⟩ ⟨rfl, rfl⟩ rfl
