/-! the String constant: length and charAt, down to the JDK's own methods -/
theorem pn_RJ0 : plainName RJ0 = true := by decide +kernel
theorem nh_J0 : (RJ0 : String) ≠ "java/lang/invoke/MethodHandle" ∧ (RJ0 : String) ≠ "java/lang/invoke/VarHandle" := by decide +kernel
theorem ini_J0 : Cond.initialized RJ0 ∈ TB := (tbc_1 14 rfl rfl)
theorem pn_RJ1 : plainName RJ1 = true := by decide +kernel
theorem nh_J1 : (RJ1 : String) ≠ "java/lang/invoke/MethodHandle" ∧ (RJ1 : String) ≠ "java/lang/invoke/VarHandle" := by decide +kernel
theorem ini_J1 : Cond.initialized RJ1 ∈ TB := (tbc_1 15 rfl rfl)
theorem pn_RJ3 : plainName RJ3 = true := by decide +kernel
theorem nh_J3 : (RJ3 : String) ≠ "java/lang/invoke/MethodHandle" ∧ (RJ3 : String) ≠ "java/lang/invoke/VarHandle" := by decide +kernel
theorem ini_J3 : Cond.initialized RJ3 ∈ TB := (tbc_1 16 rfl rfl)
theorem cd_J0_length_8abf5 : Cond.code yJ0_length_8abf5 cJ0_length_8abf5 1 (some .int) ∈ TB := (tbc_3 98 rfl rfl)
theorem mi_J0_length_8abf5 : MIT yJ0_length_8abf5 cJ0_length_8abf5 1 (some .int) 0 := ⟨cd_J0_length_8abf5, (tbc_3 96 rfl rfl), (tbc_3 97 rfl rfl), ini_J0, ⟨nh_J0.1, nh_J0.2, by decide +kernel⟩⟩
theorem cd_J0_charAt_5068e : Cond.code yJ0_charAt_5068e cJ0_charAt_5068e 2 (some .char) ∈ TB := (tbc_3 108 rfl rfl)
theorem mi_J0_charAt_5068e : MIT yJ0_charAt_5068e cJ0_charAt_5068e 2 (some .char) 1 := ⟨cd_J0_charAt_5068e, (tbc_3 106 rfl rfl), (tbc_3 107 rfl rfl), ini_J0, ⟨nh_J0.1, nh_J0.2, by decide +kernel⟩⟩
theorem cd_J0_coder_7d493 : Cond.code yJ0_coder_7d493 cJ0_coder_7d493 1 (some .byte) ∈ TB := (tbc_3 102 rfl rfl)
theorem mi_J0_coder_7d493 : MIT yJ0_coder_7d493 cJ0_coder_7d493 1 (some .byte) 0 := ⟨cd_J0_coder_7d493, (tbc_3 100 rfl rfl), (tbc_3 101 rfl rfl), ini_J0, ⟨nh_J0.1, nh_J0.2, by decide +kernel⟩⟩
theorem cd_J0_isLatin1_aae02 : Cond.code yJ0_isLatin1_aae02 cJ0_isLatin1_aae02 1 (some .boolean) ∈ TB := (tbc_3 112 rfl rfl)
theorem mi_J0_isLatin1_aae02 : MIT yJ0_isLatin1_aae02 cJ0_isLatin1_aae02 1 (some .boolean) 0 := ⟨cd_J0_isLatin1_aae02, (tbc_3 110 rfl rfl), (tbc_3 111 rfl rfl), ini_J0, ⟨nh_J0.1, nh_J0.2, by decide +kernel⟩⟩
theorem cd_J0_checkIndex_df160 : Cond.code yJ0_checkIndex_df160 cJ0_checkIndex_df160 2 none ∈ TB := (tbc_3 118 rfl rfl)
theorem mi_J0_checkIndex_df160 : MIS yJ0_checkIndex_df160 cJ0_checkIndex_df160 2 none 2 := ⟨cd_J0_checkIndex_df160, (tbc_3 117 rfl rfl), ini_J0, ⟨nh_J0.1, nh_J0.2, by decide +kernel⟩⟩
theorem cd_J1_charAt_3b067 : Cond.code yJ1_charAt_3b067 cJ1_charAt_3b067 2 (some .char) ∈ TB := (tbc_3 115 rfl rfl)
theorem mi_J1_charAt_3b067 : MIS yJ1_charAt_3b067 cJ1_charAt_3b067 2 (some .char) 2 := ⟨cd_J1_charAt_3b067, (tbc_3 114 rfl rfl), ini_J1, ⟨nh_J1.1, nh_J1.2, by decide +kernel⟩⟩
theorem cd_J3_checkIndex_8e157 : Cond.code yJ3_checkIndex_8e157 cJ3_checkIndex_8e157 3 (some .int) ∈ TB := (tbc_3 123 rfl rfl)
theorem mi_J3_checkIndex_8e157 : MIS yJ3_checkIndex_8e157 cJ3_checkIndex_8e157 3 (some .int) 3 := ⟨cd_J3_checkIndex_8e157, (tbc_3 122 rfl rfl), ini_J3, ⟨nh_J3.1, nh_J3.2, by decide +kernel⟩⟩
theorem ml_J0_335 : Cond.methodLink RJ0 335 yJ0_coder_7d493 ∈ TB := (tbc_3 99 rfl rfl)
theorem ml_J0_492 : Cond.methodLink RJ0 492 yJ0_isLatin1_aae02 ∈ TB := (tbc_3 109 rfl rfl)
theorem ml_J0_495 : Cond.methodLink RJ0 495 yJ1_charAt_3b067 ∈ TB := (tbc_3 113 rfl rfl)
theorem ml_J1_9 : Cond.methodLink RJ1 9 yJ0_checkIndex_df160 ∈ TB := (tbc_3 116 rfl rfl)
theorem ml_J0_1059 : Cond.methodLink RJ0 1059 yJ3_checkIndex_8e157 ∈ TB := (tbc_3 121 rfl rfl)
theorem ml_9_70 : Cond.methodLink RX9 70 yJ0_length_8abf5 ∈ TB := (tbc_3 95 rfl rfl)
theorem ml_9_74 : Cond.methodLink RX9 74 yJ0_charAt_5068e ∈ TB := (tbc_3 105 rfl rfl)
theorem fl_J0_38 : Cond.fieldLink RJ0 38 "java/lang/String" "COMPACT_STRINGS" "Z" ∈ TB := (tbc_3 103 rfl rfl)
theorem fl_J0_1053 : Cond.fieldLink RJ0 1053 "jdk/internal/util/Preconditions" "SIOOBE_FORMATTER" "Ljava/util/function/BiFunction;" ∈ TB := (tbc_3 119 rfl rfl)
theorem fl_J0_9 : Cond.fieldLink RJ0 9 "java/lang/String" "value" "[B" ∈ TB := (tbc_8 239 rfl rfl)
theorem fl_J0_15 : Cond.fieldLink RJ0 15 "java/lang/String" "coder" "B" ∈ TB := (tbc_9 0 rfl rfl)
theorem dJ0_length_8abf5_0 : decode cJ0_length_8abf5 0 = .ok (.aload_n 0, 1) := by decide +kernel
theorem dJ0_length_8abf5_1 : decode cJ0_length_8abf5 1 = .ok (.getfield 9, 3) := by decide +kernel
theorem dJ0_length_8abf5_4 : decode cJ0_length_8abf5 4 = .ok (.arraylength, 1) := by decide +kernel
theorem dJ0_length_8abf5_5 : decode cJ0_length_8abf5 5 = .ok (.aload_n 0, 1) := by decide +kernel
theorem dJ0_length_8abf5_6 : decode cJ0_length_8abf5 6 = .ok (.invokevirtual 335, 3) := by decide +kernel
theorem dJ0_length_8abf5_9 : decode cJ0_length_8abf5 9 = .ok (.ishr, 1) := by decide +kernel
theorem dJ0_length_8abf5_10 : decode cJ0_length_8abf5 10 = .ok (.ireturn, 1) := by decide +kernel
theorem dJ0_charAt_5068e_0 : decode cJ0_charAt_5068e 0 = .ok (.aload_n 0, 1) := by decide +kernel
theorem dJ0_charAt_5068e_1 : decode cJ0_charAt_5068e 1 = .ok (.invokevirtual 492, 3) := by decide +kernel
theorem dJ0_charAt_5068e_4 : decode cJ0_charAt_5068e 4 = .ok (.ifCond .eq 12, 3) := by decide +kernel
theorem dJ0_charAt_5068e_7 : decode cJ0_charAt_5068e 7 = .ok (.aload_n 0, 1) := by decide +kernel
theorem dJ0_charAt_5068e_8 : decode cJ0_charAt_5068e 8 = .ok (.getfield 9, 3) := by decide +kernel
theorem dJ0_charAt_5068e_11 : decode cJ0_charAt_5068e 11 = .ok (.iload_n 1, 1) := by decide +kernel
theorem dJ0_charAt_5068e_12 : decode cJ0_charAt_5068e 12 = .ok (.invokestatic 495, 3) := by decide +kernel
theorem dJ0_charAt_5068e_15 : decode cJ0_charAt_5068e 15 = .ok (.ireturn, 1) := by decide +kernel
theorem dJ0_charAt_5068e_16 : decode cJ0_charAt_5068e 16 = .ok (.aload_n 0, 1) := by decide +kernel
theorem dJ0_charAt_5068e_17 : decode cJ0_charAt_5068e 17 = .ok (.getfield 9, 3) := by decide +kernel
theorem dJ0_charAt_5068e_20 : decode cJ0_charAt_5068e 20 = .ok (.iload_n 1, 1) := by decide +kernel
theorem dJ0_charAt_5068e_21 : decode cJ0_charAt_5068e 21 = .ok (.invokestatic 498, 3) := by decide +kernel
theorem dJ0_charAt_5068e_24 : decode cJ0_charAt_5068e 24 = .ok (.ireturn, 1) := by decide +kernel
theorem dJ0_coder_7d493_0 : decode cJ0_coder_7d493 0 = .ok (.getstatic 38, 3) := by decide +kernel
theorem dJ0_coder_7d493_3 : decode cJ0_coder_7d493 3 = .ok (.ifCond .eq 10, 3) := by decide +kernel
theorem dJ0_coder_7d493_6 : decode cJ0_coder_7d493 6 = .ok (.aload_n 0, 1) := by decide +kernel
theorem dJ0_coder_7d493_7 : decode cJ0_coder_7d493 7 = .ok (.getfield 15, 3) := by decide +kernel
theorem dJ0_coder_7d493_10 : decode cJ0_coder_7d493 10 = .ok (.goto 4, 3) := by decide +kernel
theorem dJ0_coder_7d493_13 : decode cJ0_coder_7d493 13 = .ok (.iconst 1, 1) := by decide +kernel
theorem dJ0_coder_7d493_14 : decode cJ0_coder_7d493 14 = .ok (.ireturn, 1) := by decide +kernel
theorem dJ0_isLatin1_aae02_0 : decode cJ0_isLatin1_aae02 0 = .ok (.getstatic 38, 3) := by decide +kernel
theorem dJ0_isLatin1_aae02_3 : decode cJ0_isLatin1_aae02 3 = .ok (.ifCond .eq 14, 3) := by decide +kernel
theorem dJ0_isLatin1_aae02_6 : decode cJ0_isLatin1_aae02 6 = .ok (.aload_n 0, 1) := by decide +kernel
theorem dJ0_isLatin1_aae02_7 : decode cJ0_isLatin1_aae02 7 = .ok (.getfield 15, 3) := by decide +kernel
theorem dJ0_isLatin1_aae02_10 : decode cJ0_isLatin1_aae02 10 = .ok (.ifCond .ne 7, 3) := by decide +kernel
theorem dJ0_isLatin1_aae02_13 : decode cJ0_isLatin1_aae02 13 = .ok (.iconst 1, 1) := by decide +kernel
theorem dJ0_isLatin1_aae02_14 : decode cJ0_isLatin1_aae02 14 = .ok (.goto 4, 3) := by decide +kernel
theorem dJ0_isLatin1_aae02_17 : decode cJ0_isLatin1_aae02 17 = .ok (.iconst 0, 1) := by decide +kernel
theorem dJ0_isLatin1_aae02_18 : decode cJ0_isLatin1_aae02 18 = .ok (.ireturn, 1) := by decide +kernel
theorem dJ0_checkIndex_df160_0 : decode cJ0_checkIndex_df160 0 = .ok (.iload_n 0, 1) := by decide +kernel
theorem dJ0_checkIndex_df160_1 : decode cJ0_checkIndex_df160 1 = .ok (.iload_n 1, 1) := by decide +kernel
theorem dJ0_checkIndex_df160_2 : decode cJ0_checkIndex_df160 2 = .ok (.getstatic 1053, 3) := by decide +kernel
theorem dJ0_checkIndex_df160_5 : decode cJ0_checkIndex_df160 5 = .ok (.invokestatic 1059, 3) := by decide +kernel
theorem dJ0_checkIndex_df160_8 : decode cJ0_checkIndex_df160 8 = .ok (.pop, 1) := by decide +kernel
theorem dJ0_checkIndex_df160_9 : decode cJ0_checkIndex_df160 9 = .ok (.return_, 1) := by decide +kernel
theorem dJ1_charAt_3b067_0 : decode cJ1_charAt_3b067 0 = .ok (.iload_n 1, 1) := by decide +kernel
theorem dJ1_charAt_3b067_1 : decode cJ1_charAt_3b067 1 = .ok (.aload_n 0, 1) := by decide +kernel
theorem dJ1_charAt_3b067_2 : decode cJ1_charAt_3b067 2 = .ok (.arraylength, 1) := by decide +kernel
theorem dJ1_charAt_3b067_3 : decode cJ1_charAt_3b067 3 = .ok (.invokestatic 9, 3) := by decide +kernel
theorem dJ1_charAt_3b067_6 : decode cJ1_charAt_3b067 6 = .ok (.aload_n 0, 1) := by decide +kernel
theorem dJ1_charAt_3b067_7 : decode cJ1_charAt_3b067 7 = .ok (.iload_n 1, 1) := by decide +kernel
theorem dJ1_charAt_3b067_8 : decode cJ1_charAt_3b067 8 = .ok (.baload, 1) := by decide +kernel
theorem dJ1_charAt_3b067_9 : decode cJ1_charAt_3b067 9 = .ok (.sipush 255, 3) := by decide +kernel
theorem dJ1_charAt_3b067_12 : decode cJ1_charAt_3b067 12 = .ok (.iand, 1) := by decide +kernel
theorem dJ1_charAt_3b067_13 : decode cJ1_charAt_3b067 13 = .ok (.i2c, 1) := by decide +kernel
theorem dJ1_charAt_3b067_14 : decode cJ1_charAt_3b067 14 = .ok (.ireturn, 1) := by decide +kernel
theorem dJ3_checkIndex_8e157_0 : decode cJ3_checkIndex_8e157 0 = .ok (.iload_n 0, 1) := by decide +kernel
theorem dJ3_checkIndex_8e157_1 : decode cJ3_checkIndex_8e157 1 = .ok (.ifCond .lt 8, 3) := by decide +kernel
theorem dJ3_checkIndex_8e157_4 : decode cJ3_checkIndex_8e157 4 = .ok (.iload_n 0, 1) := by decide +kernel
theorem dJ3_checkIndex_8e157_5 : decode cJ3_checkIndex_8e157 5 = .ok (.iload_n 1, 1) := by decide +kernel
theorem dJ3_checkIndex_8e157_6 : decode cJ3_checkIndex_8e157 6 = .ok (.if_icmp .lt 10, 3) := by decide +kernel
theorem dJ3_checkIndex_8e157_9 : decode cJ3_checkIndex_8e157 9 = .ok (.aload_n 2, 1) := by decide +kernel
theorem dJ3_checkIndex_8e157_10 : decode cJ3_checkIndex_8e157 10 = .ok (.iload_n 0, 1) := by decide +kernel
theorem dJ3_checkIndex_8e157_11 : decode cJ3_checkIndex_8e157 11 = .ok (.iload_n 1, 1) := by decide +kernel
theorem dJ3_checkIndex_8e157_12 : decode cJ3_checkIndex_8e157 12 = .ok (.invokestatic 95, 3) := by decide +kernel
theorem dJ3_checkIndex_8e157_15 : decode cJ3_checkIndex_8e157 15 = .ok (.athrow, 1) := by decide +kernel
theorem dJ3_checkIndex_8e157_16 : decode cJ3_checkIndex_8e157 16 = .ok (.iload_n 0, 1) := by decide +kernel
theorem dJ3_checkIndex_8e157_17 : decode cJ3_checkIndex_8e157 17 = .ok (.ireturn, 1) := by decide +kernel
abbrev rm_J0_coder_7d493 : Room := { frames := 0, cells := 0, slots := 0, locals := 0 }
set_option maxRecDepth 100000 in
theorem ct_J0_coder_7d493 {w : Wd} {l : Launch} {σ : St} : Ct w l yJ0_coder_7d493 (Cond.code yJ0_coder_7d493 cJ0_coder_7d493 1 (some .byte) :: TB) rm_J0_coder_7d493 [.ref (w.2.2 100)] σ (some (iv 0)) True σ := by
  refine Ct.of2 [some (.ref (w.2.2 100))] 0 rfl pn_RJ0 (Nat.le_of_ble_eq_true rfl) ?_
  intro p e s m args below meth c C hr hlk
  refine g_gsC C dJ0_coder_7d493_0 fl_J0_38 ?_
  refine g_if_eq C dJ0_coder_7d493_3 (by decide) rfl (tgt := 13) (fun c => absurd c (by decide)) (fun c => ?_)
  refine g_aload_nV C dJ0_coder_7d493_6 rfl ?_
  refine g_sCo C dJ0_coder_7d493_7 fl_J0_15 ?_
  refine g_goto C dJ0_coder_7d493_10 rfl (tgt := 14) ?_
  exact g_nret C dJ0_coder_7d493_14 hr hlk rfl trivial
abbrev rm_J0_isLatin1_aae02 : Room := { frames := 0, cells := 0, slots := 0, locals := 0 }
set_option maxRecDepth 100000 in
theorem ct_J0_isLatin1_aae02 {w : Wd} {l : Launch} {σ : St} : Ct w l yJ0_isLatin1_aae02 (Cond.code yJ0_isLatin1_aae02 cJ0_isLatin1_aae02 1 (some .boolean) :: TB) rm_J0_isLatin1_aae02 [.ref (w.2.2 100)] σ (some (iv 1)) True σ := by
  refine Ct.of2 [some (.ref (w.2.2 100))] 0 rfl pn_RJ0 (Nat.le_of_ble_eq_true rfl) ?_
  intro p e s m args below meth c C hr hlk
  refine g_gsC C dJ0_isLatin1_aae02_0 fl_J0_38 ?_
  refine g_if_eq C dJ0_isLatin1_aae02_3 (by decide) rfl (tgt := 17) (fun c => absurd c (by decide)) (fun c => ?_)
  refine g_aload_nV C dJ0_isLatin1_aae02_6 rfl ?_
  refine g_sCo C dJ0_isLatin1_aae02_7 fl_J0_15 ?_
  refine g_if_ne C dJ0_isLatin1_aae02_10 (by decide) rfl (tgt := 17) (fun c => absurd rfl c) (fun c => ?_)
  refine g_iconst C dJ0_isLatin1_aae02_13 ?_
  refine g_goto C dJ0_isLatin1_aae02_14 rfl (tgt := 18) ?_
  exact g_nret C dJ0_isLatin1_aae02_18 hr hlk rfl trivial
abbrev rm_J0_length_8abf5 : Room := { frames := 1, cells := 0, slots := 0, locals := 20 }
set_option maxRecDepth 100000 in
theorem ct_J0_length_8abf5 {w : Wd} {l : Launch} {σ : St} : Ct w l yJ0_length_8abf5 (Cond.code yJ0_length_8abf5 cJ0_length_8abf5 1 (some .int) :: TB) rm_J0_length_8abf5 [.ref (w.2.2 100)] σ (some (iv 127)) True σ := by
  refine Ct.of2 [some (.ref (w.2.2 100))] 0 rfl pn_RJ0 (Nat.le_of_ble_eq_true rfl) ?_
  intro p e s m args below meth c C hr hlk
  refine g_aload_nV C dJ0_length_8abf5_0 rfl ?_
  refine g_sVa C dJ0_length_8abf5_1 fl_J0_9 ?_
  refine g_sLe C dJ0_length_8abf5_4 ?_
  refine g_aload_nV C dJ0_length_8abf5_5 rfl ?_
  refine g_callT (As := []) C dJ0_length_8abf5_6 mi_J0_coder_7d493 ml_J0_335 (ct_J0_coder_7d493) rfl ⟨rfl, rfl⟩ ⟨Nat.le_of_ble_eq_true rfl, Nat.le_of_ble_eq_true rfl⟩ ⟨Nat.zero_le _, Nat.zero_le _⟩ rfl (Nat.le_of_ble_eq_true rfl) (fun _ => ?_)
  refine g_ishr C dJ0_length_8abf5_9 ?_
  refine g_E (by decide : shrI 127 0 = 127) ?_
  exact g_nret C dJ0_length_8abf5_10 hr hlk rfl trivial
abbrev rm_J3_checkIndex_8e157 : Room := { frames := 0, cells := 0, slots := 0, locals := 0 }
set_option maxRecDepth 100000 in
theorem ct_J3_checkIndex_8e157 {w : Wd} {l : Launch} {σ : St} {i n : Int} {q : Nat} (hi : InI i) (hn : InI n) (h0 : 0 ≤ i ∧ i < n) : Ct w l yJ3_checkIndex_8e157 (Cond.code yJ3_checkIndex_8e157 cJ3_checkIndex_8e157 3 (some .int) :: TB) rm_J3_checkIndex_8e157 [iv i, iv n, .ref q] σ (some (iv i)) True σ := by
  refine Ct.of2 [some (iv i), some (iv n), some (.ref q)] 0 rfl pn_RJ3 (Nat.le_of_ble_eq_true rfl) ?_
  intro p e s m args below meth c C hr hlk
  refine g_iload_n C dJ3_checkIndex_8e157_0 rfl ?_
  refine g_if_lt C dJ3_checkIndex_8e157_1 hi rfl (tgt := 9) (fun c => absurd h0.1 (Int.not_le.mpr c)) (fun c => ?_)
  refine g_iload_n C dJ3_checkIndex_8e157_4 rfl ?_
  refine g_iload_n C dJ3_checkIndex_8e157_5 rfl ?_
  refine g_icmp_lt C dJ3_checkIndex_8e157_6 hi hn rfl (tgt := 16) (fun c => ?_) (fun c => absurd h0.2 c)
  refine g_iload_n C dJ3_checkIndex_8e157_16 rfl ?_
  exact g_nret C dJ3_checkIndex_8e157_17 hr hlk rfl trivial
set_option maxRecDepth 100000 in
theorem ct_J3n {w : Wd} {l : Launch} {σ : St} {i n : Int} (hi : InI i) (hn : InI n) (h0 : 0 ≤ i ∧ i < n) : Ct w l yJ3_checkIndex_8e157 (Cond.code yJ3_checkIndex_8e157 cJ3_checkIndex_8e157 3 (some .int) :: TB) rm_J3_checkIndex_8e157 [iv i, iv n, .null] σ (some (iv i)) True σ := by
  refine Ct.of2 [some (iv i), some (iv n), some (.null)] 0 rfl pn_RJ3 (Nat.le_of_ble_eq_true rfl) ?_
  intro p e s m args below meth c C hr hlk
  refine g_iload_n C dJ3_checkIndex_8e157_0 rfl ?_
  refine g_if_lt C dJ3_checkIndex_8e157_1 hi rfl (tgt := 9) (fun c => absurd h0.1 (Int.not_le.mpr c)) (fun c => ?_)
  refine g_iload_n C dJ3_checkIndex_8e157_4 rfl ?_
  refine g_iload_n C dJ3_checkIndex_8e157_5 rfl ?_
  refine g_icmp_lt C dJ3_checkIndex_8e157_6 hi hn rfl (tgt := 16) (fun c => ?_) (fun c => absurd h0.2 c)
  refine g_iload_n C dJ3_checkIndex_8e157_16 rfl ?_
  exact g_nret C dJ3_checkIndex_8e157_17 hr hlk rfl trivial
abbrev rm_J0_checkIndex_df160 : Room := { frames := 1, cells := 0, slots := 0, locals := 22 }
set_option maxRecDepth 100000 in
theorem ct_J0_checkIndex_df160 {w : Wd} {l : Launch} {σ : St} {i n : Int} (hi : InI i) (hn : InI n) (h0 : 0 ≤ i ∧ i < n) : Ct w l yJ0_checkIndex_df160 (Cond.code yJ0_checkIndex_df160 cJ0_checkIndex_df160 2 none :: TB) rm_J0_checkIndex_df160 [iv i, iv n] σ none True σ := by
  refine Ct.of2 [some (iv i), some (iv n)] 0 rfl pn_RJ0 (Nat.le_of_ble_eq_true rfl) ?_
  intro p e s m args below meth c C hr hlk
  refine g_iload_n C dJ0_checkIndex_df160_0 rfl ?_
  refine g_iload_n C dJ0_checkIndex_df160_1 rfl ?_
  refine g_gsF C dJ0_checkIndex_df160_2 fl_J0_1053 ?_ (fun q => ?_)
  · refine g_callS1 (As := [iv i, iv n, .null]) C dJ0_checkIndex_df160_5 mi_J3_checkIndex_8e157 ml_J0_1059 (ct_J3n hi hn h0) rfl ⟨rfl, rfl⟩ ⟨Nat.le_of_ble_eq_true rfl, Nat.le_of_ble_eq_true rfl⟩ ⟨Nat.zero_le _, Nat.zero_le _⟩ rfl (Nat.le_of_ble_eq_true rfl) (fun _ => ?_)
    refine g_pop C dJ0_checkIndex_df160_8 rfl ?_
    exact g_vret0 C dJ0_checkIndex_df160_9 hr hlk
  · refine g_callS1 (As := [iv i, iv n, .ref q]) C dJ0_checkIndex_df160_5 mi_J3_checkIndex_8e157 ml_J0_1059 (ct_J3_checkIndex_8e157 hi hn h0) rfl ⟨rfl, rfl⟩ ⟨Nat.le_of_ble_eq_true rfl, Nat.le_of_ble_eq_true rfl⟩ ⟨Nat.zero_le _, Nat.zero_le _⟩ rfl (Nat.le_of_ble_eq_true rfl) (fun _ => ?_)
    refine g_pop C dJ0_checkIndex_df160_8 rfl ?_
    exact g_vret0 C dJ0_checkIndex_df160_9 hr hlk
def chr (i : Int) : Int := (WB.getD i.toNat 0).toInt
theorem chr_ok {i : Int} (h : 0 ≤ i ∧ i < 127) : ((Int32.ofInt (andI (chr i) 255)).toUInt32 % 65536).toInt32 = Int32.ofInt (chr i) ∧ narrow .char (.int (Int32.ofInt (chr i))) = .int (Int32.ofInt (chr i)) := (by decide +kernel : ∀ j : Nat, j < 127 → ((Int32.ofInt (andI ((WB.getD j 0).toInt) 255)).toUInt32 % 65536).toInt32 = Int32.ofInt ((WB.getD j 0).toInt) ∧ narrow .char (.int (Int32.ofInt ((WB.getD j 0).toInt))) = .int (Int32.ofInt ((WB.getD j 0).toInt))) i.toNat (by omega)
theorem ichr (i : Int) : InI (chr i) := iI _
abbrev rm_J1_charAt_3b067 : Room := { frames := 2, cells := 0, slots := 0, locals := 43 }
set_option maxRecDepth 100000 in
theorem ct_J1_charAt_3b067 {w : Wd} {l : Launch} {σ : St} {i : Int} (hi : InI i) (h0 : 0 ≤ i ∧ i < 127) : Ct w l yJ1_charAt_3b067 (Cond.code yJ1_charAt_3b067 cJ1_charAt_3b067 2 (some .char) :: TB) rm_J1_charAt_3b067 [.ref (w.2.2 101), iv i] σ (some (iv (chr i))) True σ := by
  refine Ct.of2 [some (.ref (w.2.2 101)), some (iv i)] 0 rfl pn_RJ1 (Nat.le_of_ble_eq_true rfl) ?_
  intro p e s m args below meth c C hr hlk
  refine g_iload_n C dJ1_charAt_3b067_0 rfl ?_
  refine g_aload_nV C dJ1_charAt_3b067_1 rfl ?_
  refine g_sLe C dJ1_charAt_3b067_2 ?_
  refine g_callS0 (As := [iv i, iv 127]) C dJ1_charAt_3b067_3 mi_J0_checkIndex_df160 ml_J1_9 (ct_J0_checkIndex_df160 hi (by decide) h0) rfl ⟨rfl, rfl⟩ ⟨Nat.le_of_ble_eq_true rfl, Nat.le_of_ble_eq_true rfl⟩ ⟨Nat.zero_le _, Nat.zero_le _⟩ rfl (Nat.le_of_ble_eq_true rfl) (fun _ => ?_)
  refine g_aload_nV C dJ1_charAt_3b067_6 rfl ?_
  refine g_iload_n C dJ1_charAt_3b067_7 rfl ?_
  refine g_sBa C dJ1_charAt_3b067_8 hi h0 ?_
  refine g_sipush C dJ1_charAt_3b067_9 rfl ?_
  refine g_iand C dJ1_charAt_3b067_12 ?_
  refine g_i2c (z := chr i) C dJ1_charAt_3b067_13 (chr_ok h0).1 ?_
  exact g_nret C dJ1_charAt_3b067_14 hr hlk (chr_ok h0).2 trivial
abbrev rm_J0_charAt_5068e : Room := { frames := 3, cells := 0, slots := 0, locals := 64 }
set_option maxRecDepth 100000 in
theorem ct_J0_charAt_5068e {w : Wd} {l : Launch} {σ : St} {i : Int} (hi : InI i) (h0 : 0 ≤ i ∧ i < 127) : Ct w l yJ0_charAt_5068e (Cond.code yJ0_charAt_5068e cJ0_charAt_5068e 2 (some .char) :: TB) rm_J0_charAt_5068e [.ref (w.2.2 100), iv i] σ (some (iv (chr i))) True σ := by
  refine Ct.of2 [some (.ref (w.2.2 100)), some (iv i)] 0 rfl pn_RJ0 (Nat.le_of_ble_eq_true rfl) ?_
  intro p e s m args below meth c C hr hlk
  refine g_aload_nV C dJ0_charAt_5068e_0 rfl ?_
  refine g_callT (As := []) C dJ0_charAt_5068e_1 mi_J0_isLatin1_aae02 ml_J0_492 (ct_J0_isLatin1_aae02) rfl ⟨rfl, rfl⟩ ⟨Nat.le_of_ble_eq_true rfl, Nat.le_of_ble_eq_true rfl⟩ ⟨Nat.zero_le _, Nat.zero_le _⟩ rfl (Nat.le_of_ble_eq_true rfl) (fun _ => ?_)
  refine g_if_eq C dJ0_charAt_5068e_4 (by decide) rfl (tgt := 16) (fun c => absurd c (by decide)) (fun c => ?_)
  refine g_aload_nV C dJ0_charAt_5068e_7 rfl ?_
  refine g_sVa C dJ0_charAt_5068e_8 fl_J0_9 ?_
  refine g_iload_n C dJ0_charAt_5068e_11 rfl ?_
  refine g_callS1 (As := [.ref (w.2.2 101), iv i]) C dJ0_charAt_5068e_12 mi_J1_charAt_3b067 ml_J0_495 (ct_J1_charAt_3b067 hi h0) rfl ⟨rfl, rfl⟩ ⟨Nat.le_of_ble_eq_true rfl, Nat.le_of_ble_eq_true rfl⟩ ⟨Nat.zero_le _, Nat.zero_le _⟩ rfl (Nat.le_of_ble_eq_true rfl) (fun _ => ?_)
  exact g_nret C dJ0_charAt_5068e_15 hr hlk (chr_ok h0).2 trivial
def rc (i : Int) : Option Int := if 0 ≤ i ∧ i < 127 then some (chr i) else none
theorem rc_spec {i x : Int} (h : rc i = some x) : (0 ≤ i ∧ i < 127) ∧ x = chr i := by
  unfold rc at h
  split at h
  · next q => cases h; exact ⟨q, rfl⟩
  · cases h
