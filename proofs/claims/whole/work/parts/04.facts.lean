/-! finite facts of the shape, and what the tables say of each method, bundled -/
theorem shR_0_3 {k : Nat} (h : tg k = 0) : rf k 3 = k + 1 := (by decide +kernel : ∀ k, k < NC → tg k = 0 → rf k 3 = k + 1) k (tg_lt h (by decide)) h
theorem shT_0_3 {k : Nat} (h : tg k = 0) : tg (k + 1) = 3 := (by decide +kernel : ∀ k, k < NC → tg k = 0 → tg (k + 1) = 3) k (tg_lt h (by decide)) h
theorem shR_0_13 {k : Nat} (h : tg k = 0) : rf k 13 = k + 4 := (by decide +kernel : ∀ k, k < NC → tg k = 0 → rf k 13 = k + 4) k (tg_lt h (by decide)) h
theorem shT_0_13 {k : Nat} (h : tg k = 0) : tg (k + 4) = 20 := (by decide +kernel : ∀ k, k < NC → tg k = 0 → tg (k + 4) = 20) k (tg_lt h (by decide)) h
theorem shL_0_13 {k : Nat} (h : tg k = 0) : (ln (k + 4) : Int) = 96 := (by decide +kernel : ∀ k, k < NC → tg k = 0 → (ln (k + 4) : Int) = 96) k (tg_lt h (by decide)) h
theorem shR_0_14 {k : Nat} (h : tg k = 0) : rf k 14 = k + 5 := (by decide +kernel : ∀ k, k < NC → tg k = 0 → rf k 14 = k + 5) k (tg_lt h (by decide)) h
theorem shT_0_14 {k : Nat} (h : tg k = 0) : tg (k + 5) = 20 := (by decide +kernel : ∀ k, k < NC → tg k = 0 → tg (k + 5) = 20) k (tg_lt h (by decide)) h
theorem shL_0_14 {k : Nat} (h : tg k = 0) : (ln (k + 5) : Int) = 8 := (by decide +kernel : ∀ k, k < NC → tg k = 0 → (ln (k + 5) : Int) = 8) k (tg_lt h (by decide)) h
theorem shR_0_15 {k : Nat} (h : tg k = 0) : rf k 15 = k + 6 := (by decide +kernel : ∀ k, k < NC → tg k = 0 → rf k 15 = k + 6) k (tg_lt h (by decide)) h
theorem shT_0_15 {k : Nat} (h : tg k = 0) : tg (k + 6) = 20 := (by decide +kernel : ∀ k, k < NC → tg k = 0 → tg (k + 6) = 20) k (tg_lt h (by decide)) h
theorem shL_0_15 {k : Nat} (h : tg k = 0) : (ln (k + 6) : Int) = 8 := (by decide +kernel : ∀ k, k < NC → tg k = 0 → (ln (k + 6) : Int) = 8) k (tg_lt h (by decide)) h
theorem shR_3_0 {k : Nat} (h : tg k = 3) : rf k 0 = k + 1 := (by decide +kernel : ∀ k, k < NC → tg k = 3 → rf k 0 = k + 1) k (tg_lt h (by decide)) h
theorem shT_3_0 {k : Nat} (h : tg k = 3) : tg (k + 1) = 20 := (by decide +kernel : ∀ k, k < NC → tg k = 3 → tg (k + 1) = 20) k (tg_lt h (by decide)) h
theorem shL_3_0 {k : Nat} (h : tg k = 3) : (ln (k + 1) : Int) = 64 := (by decide +kernel : ∀ k, k < NC → tg k = 3 → (ln (k + 1) : Int) = 64) k (tg_lt h (by decide)) h
theorem shR_3_1 {k : Nat} (h : tg k = 3) : rf k 1 = k + 2 := (by decide +kernel : ∀ k, k < NC → tg k = 3 → rf k 1 = k + 2) k (tg_lt h (by decide)) h
theorem shT_3_1 {k : Nat} (h : tg k = 3) : tg (k + 2) = 20 := (by decide +kernel : ∀ k, k < NC → tg k = 3 → tg (k + 2) = 20) k (tg_lt h (by decide)) h
theorem shL_3_1 {k : Nat} (h : tg k = 3) : (ln (k + 2) : Int) = 64 := (by decide +kernel : ∀ k, k < NC → tg k = 3 → (ln (k + 2) : Int) = 64) k (tg_lt h (by decide)) h
theorem shR_5_0 {k : Nat} (h : tg k = 5) : rf k 0 = k + 1 := (by decide +kernel : ∀ k, k < NC → tg k = 5 → rf k 0 = k + 1) k (tg_lt h (by decide)) h
theorem shT_5_0 {k : Nat} (h : tg k = 5) : tg (k + 1) = 20 := (by decide +kernel : ∀ k, k < NC → tg k = 5 → tg (k + 1) = 20) k (tg_lt h (by decide)) h
theorem shL_5_0 {k : Nat} (h : tg k = 5) : (ln (k + 1) : Int) = 512 := (by decide +kernel : ∀ k, k < NC → tg k = 5 → (ln (k + 1) : Int) = 512) k (tg_lt h (by decide)) h
theorem shR_5_1 {k : Nat} (h : tg k = 5) : rf k 1 = k + 2 := (by decide +kernel : ∀ k, k < NC → tg k = 5 → rf k 1 = k + 2) k (tg_lt h (by decide)) h
theorem shT_5_1 {k : Nat} (h : tg k = 5) : tg (k + 2) = 20 := (by decide +kernel : ∀ k, k < NC → tg k = 5 → tg (k + 2) = 20) k (tg_lt h (by decide)) h
theorem shL_5_1 {k : Nat} (h : tg k = 5) : (ln (k + 2) : Int) = 512 := (by decide +kernel : ∀ k, k < NC → tg k = 5 → (ln (k + 2) : Int) = 512) k (tg_lt h (by decide)) h
theorem shR_5_2 {k : Nat} (h : tg k = 5) : rf k 2 = k + 3 := (by decide +kernel : ∀ k, k < NC → tg k = 5 → rf k 2 = k + 3) k (tg_lt h (by decide)) h
theorem shT_5_2 {k : Nat} (h : tg k = 5) : tg (k + 3) = 20 := (by decide +kernel : ∀ k, k < NC → tg k = 5 → tg (k + 3) = 20) k (tg_lt h (by decide)) h
theorem shL_5_2 {k : Nat} (h : tg k = 5) : (ln (k + 3) : Int) = 512 := (by decide +kernel : ∀ k, k < NC → tg k = 5 → (ln (k + 3) : Int) = 512) k (tg_lt h (by decide)) h
theorem shR_5_3 {k : Nat} (h : tg k = 5) : rf k 3 = k + 4 := (by decide +kernel : ∀ k, k < NC → tg k = 5 → rf k 3 = k + 4) k (tg_lt h (by decide)) h
theorem shT_5_3 {k : Nat} (h : tg k = 5) : tg (k + 4) = 22 := (by decide +kernel : ∀ k, k < NC → tg k = 5 → tg (k + 4) = 22) k (tg_lt h (by decide)) h
theorem shL_5_3 {k : Nat} (h : tg k = 5) : (ln (k + 4) : Int) = 512 := (by decide +kernel : ∀ k, k < NC → tg k = 5 → (ln (k + 4) : Int) = 512) k (tg_lt h (by decide)) h
theorem shR_5_4 {k : Nat} (h : tg k = 5) : rf k 4 = k + 5 := (by decide +kernel : ∀ k, k < NC → tg k = 5 → rf k 4 = k + 5) k (tg_lt h (by decide)) h
theorem shT_5_4 {k : Nat} (h : tg k = 5) : tg (k + 5) = 20 := (by decide +kernel : ∀ k, k < NC → tg k = 5 → tg (k + 5) = 20) k (tg_lt h (by decide)) h
theorem shL_5_4 {k : Nat} (h : tg k = 5) : (ln (k + 5) : Int) = 512 := (by decide +kernel : ∀ k, k < NC → tg k = 5 → (ln (k + 5) : Int) = 512) k (tg_lt h (by decide)) h
theorem shR_5_5 {k : Nat} (h : tg k = 5) : rf k 5 = k + 6 := (by decide +kernel : ∀ k, k < NC → tg k = 5 → rf k 5 = k + 6) k (tg_lt h (by decide)) h
theorem shT_5_5 {k : Nat} (h : tg k = 5) : tg (k + 6) = 23 := (by decide +kernel : ∀ k, k < NC → tg k = 5 → tg (k + 6) = 23) k (tg_lt h (by decide)) h
theorem shL_5_5 {k : Nat} (h : tg k = 5) : (ln (k + 6) : Int) = 8 := (by decide +kernel : ∀ k, k < NC → tg k = 5 → (ln (k + 6) : Int) = 8) k (tg_lt h (by decide)) h
theorem shR_5_6 {k : Nat} (h : tg k = 5) : rf k 6 = k + 7 := (by decide +kernel : ∀ k, k < NC → tg k = 5 → rf k 6 = k + 7) k (tg_lt h (by decide)) h
theorem shT_5_6 {k : Nat} (h : tg k = 5) : tg (k + 7) = 20 := (by decide +kernel : ∀ k, k < NC → tg k = 5 → tg (k + 7) = 20) k (tg_lt h (by decide)) h
theorem shL_5_6 {k : Nat} (h : tg k = 5) : (ln (k + 7) : Int) = 8 := (by decide +kernel : ∀ k, k < NC → tg k = 5 → (ln (k + 7) : Int) = 8) k (tg_lt h (by decide)) h
theorem rrB_5 {i : Int} {r : Nat} (h : rr 5 10 i = some r) : tg r = 20 ∧ (ln r : Int) = 10 := by
  obtain ⟨h0, rfl⟩ := rr_spec h
  exact (by decide +kernel : ∀ j, j < 10 → tg (rf 5 j) = 20 ∧ (ln (rf 5 j) : Int) = 10) i.toNat (by omega)
theorem rrB_38 {i : Int} {r : Nat} (h : rr 38 8 i = some r) : tg r = 0 := by
  obtain ⟨h0, rfl⟩ := rr_spec h
  exact (by decide +kernel : ∀ j, j < 8 → tg (rf 38 j) = 0) i.toNat (by omega)
theorem rrB_96 {i : Int} {r : Nat} (h : rr 96 8 i = some r) : tg r = 20 ∧ (ln r : Int) = 96 := by
  obtain ⟨h0, rfl⟩ := rr_spec h
  exact (by decide +kernel : ∀ j, j < 8 → tg (rf 96 j) = 20 ∧ (ln (rf 96 j) : Int) = 96) i.toNat (by omega)
theorem rrB_105 {i : Int} {r : Nat} (h : rr 105 8 i = some r) : tg r = 20 ∧ (ln r : Int) = 96 := by
  obtain ⟨h0, rfl⟩ := rr_spec h
  exact (by decide +kernel : ∀ j, j < 8 → tg (rf 105 j) = 20 ∧ (ln (rf 105 j) : Int) = 96) i.toNat (by omega)
theorem rrB_132 {i : Int} {r : Nat} (h : rr 132 8 i = some r) : tg r = 20 ∧ (ln r : Int) = 8 := by
  obtain ⟨h0, rfl⟩ := rr_spec h
  exact (by decide +kernel : ∀ j, j < 8 → tg (rf 132 j) = 20 ∧ (ln (rf 132 j) : Int) = 8) i.toNat (by omega)
theorem rrB_142 {i : Int} {r : Nat} (h : rr 142 10 i = some r) : tg r = 20 ∧ (ln r : Int) = 8 := by
  obtain ⟨h0, rfl⟩ := rr_spec h
  exact (by decide +kernel : ∀ j, j < 10 → tg (rf 142 j) = 20 ∧ (ln (rf 142 j) : Int) = 8) i.toNat (by omega)
theorem rrB_155 {i : Int} {r : Nat} (h : rr 155 8 i = some r) : tg r = 20 ∧ (ln r : Int) = 96 := by
  obtain ⟨h0, rfl⟩ := rr_spec h
  exact (by decide +kernel : ∀ j, j < 8 → tg (rf 155 j) = 20 ∧ (ln (rf 155 j) : Int) = 96) i.toNat (by omega)
theorem pn_RX0 : plainName RX0 = true := by decide +kernel
theorem pn_RX1 : plainName RX1 = true := by decide +kernel
theorem pn_RX2 : plainName RX2 = true := by decide +kernel
theorem pn_RX3 : plainName RX3 = true := by decide +kernel
theorem pn_RX4 : plainName RX4 = true := by decide +kernel
theorem pn_RX5 : plainName RX5 = true := by decide +kernel
theorem pn_RX6 : plainName RX6 = true := by decide +kernel
theorem pn_RX7 : plainName RX7 = true := by decide +kernel
theorem pn_RX8 : plainName RX8 = true := by decide +kernel
theorem pn_RX9 : plainName RX9 = true := by decide +kernel
theorem pn_RX10 : plainName RX10 = true := by decide +kernel
theorem pn_RX11 : plainName RX11 = true := by decide +kernel
theorem pn_RX12 : plainName RX12 = true := by decide +kernel
theorem pn_RJ6 : plainName RJ6 = true := by decide +kernel
theorem nh_0 : (RX0 : String) ≠ "java/lang/invoke/MethodHandle" ∧ (RX0 : String) ≠ "java/lang/invoke/VarHandle" := by decide +kernel
theorem nh_1 : (RX1 : String) ≠ "java/lang/invoke/MethodHandle" ∧ (RX1 : String) ≠ "java/lang/invoke/VarHandle" := by decide +kernel
theorem nh_2 : (RX2 : String) ≠ "java/lang/invoke/MethodHandle" ∧ (RX2 : String) ≠ "java/lang/invoke/VarHandle" := by decide +kernel
theorem nh_3 : (RX3 : String) ≠ "java/lang/invoke/MethodHandle" ∧ (RX3 : String) ≠ "java/lang/invoke/VarHandle" := by decide +kernel
theorem nh_4 : (RX4 : String) ≠ "java/lang/invoke/MethodHandle" ∧ (RX4 : String) ≠ "java/lang/invoke/VarHandle" := by decide +kernel
theorem nh_5 : (RX5 : String) ≠ "java/lang/invoke/MethodHandle" ∧ (RX5 : String) ≠ "java/lang/invoke/VarHandle" := by decide +kernel
theorem nh_6 : (RX6 : String) ≠ "java/lang/invoke/MethodHandle" ∧ (RX6 : String) ≠ "java/lang/invoke/VarHandle" := by decide +kernel
theorem nh_7 : (RX7 : String) ≠ "java/lang/invoke/MethodHandle" ∧ (RX7 : String) ≠ "java/lang/invoke/VarHandle" := by decide +kernel
theorem nh_8 : (RX8 : String) ≠ "java/lang/invoke/MethodHandle" ∧ (RX8 : String) ≠ "java/lang/invoke/VarHandle" := by decide +kernel
theorem nh_9 : (RX9 : String) ≠ "java/lang/invoke/MethodHandle" ∧ (RX9 : String) ≠ "java/lang/invoke/VarHandle" := by decide +kernel
theorem nh_10 : (RX10 : String) ≠ "java/lang/invoke/MethodHandle" ∧ (RX10 : String) ≠ "java/lang/invoke/VarHandle" := by decide +kernel
theorem nh_11 : (RX11 : String) ≠ "java/lang/invoke/MethodHandle" ∧ (RX11 : String) ≠ "java/lang/invoke/VarHandle" := by decide +kernel
theorem nh_12 : (RX12 : String) ≠ "java/lang/invoke/MethodHandle" ∧ (RX12 : String) ≠ "java/lang/invoke/VarHandle" := by decide +kernel
theorem nh_J6 : (RJ6 : String) ≠ "java/lang/invoke/MethodHandle" ∧ (RJ6 : String) ≠ "java/lang/invoke/VarHandle" := by decide +kernel
theorem mi_X0_begin : MIV yX0_begin cX0_begin 2 none 0 0 := ⟨cd_X0_begin, im_X0_begin, se_X0_begin, ini_0, rfl, (Nat.le_of_ble_eq_true rfl), ⟨nh_0.1, nh_0.2, by decide +kernel⟩⟩
theorem mi_X0_enter : MIV yX0_enter cX0_enter 3 none 0 1 := ⟨cd_X0_enter, im_X0_enter, se_X0_enter, ini_0, rfl, (Nat.le_of_ble_eq_true rfl), ⟨nh_0.1, nh_0.2, by decide +kernel⟩⟩
theorem mi_X0_stand : MIV yX0_stand cX0_stand 2 none 0 1 := ⟨cd_X0_stand, im_X0_stand, se_X0_stand, ini_0, rfl, (Nat.le_of_ble_eq_true rfl), ⟨nh_0.1, nh_0.2, by decide +kernel⟩⟩
theorem mi_X0_knowsSecret : MIV yX0_knowsSecret cX0_knowsSecret 2 (some .boolean) 0 1 := ⟨cd_X0_knowsSecret, im_X0_knowsSecret, se_X0_knowsSecret, ini_0, rfl, (Nat.le_of_ble_eq_true rfl), ⟨nh_0.1, nh_0.2, by decide +kernel⟩⟩
theorem mi_X0_hasPaper : MIV yX0_hasPaper cX0_hasPaper 2 (some .boolean) 0 1 := ⟨cd_X0_hasPaper, im_X0_hasPaper, se_X0_hasPaper, ini_0, rfl, (Nat.le_of_ble_eq_true rfl), ⟨nh_0.1, nh_0.2, by decide +kernel⟩⟩
theorem mi_X1_add : MIV yX1_add cX1_add 6 (some .int) 1 5 := ⟨cd_X1_add, im_X1_add, se_X1_add, ini_1, rfl, (Nat.le_of_ble_eq_true rfl), ⟨nh_1.1, nh_1.2, by decide +kernel⟩⟩
theorem mi_X1_isFactOf : MIV yX1_isFactOf cX1_isFactOf 3 (some .boolean) 1 2 := ⟨cd_X1_isFactOf, im_X1_isFactOf, se_X1_isFactOf, ini_1, rfl, (Nat.le_of_ble_eq_true rfl), ⟨nh_1.1, nh_1.2, by decide +kernel⟩⟩
theorem mi_X1_look : MIV yX1_look cX1_look 3 none 1 1 := ⟨cd_X1_look, im_X1_look, se_X1_look, ini_1, rfl, (Nat.le_of_ble_eq_true rfl), ⟨nh_1.1, nh_1.2, by decide +kernel⟩⟩
theorem mi_X1_watch : MIV yX1_watch cX1_watch 3 none 1 1 := ⟨cd_X1_watch, im_X1_watch, se_X1_watch, ini_1, rfl, (Nat.le_of_ble_eq_true rfl), ⟨nh_1.1, nh_1.2, by decide +kernel⟩⟩
theorem mi_X1_holds : MIV yX1_holds cX1_holds 3 (some .boolean) 1 2 := ⟨cd_X1_holds, im_X1_holds, se_X1_holds, ini_1, rfl, (Nat.le_of_ble_eq_true rfl), ⟨nh_1.1, nh_1.2, by decide +kernel⟩⟩
theorem mi_X1_isPosted : MIV yX1_isPosted cX1_isPosted 5 (some .boolean) 1 3 := ⟨cd_X1_isPosted, im_X1_isPosted, se_X1_isPosted, ini_1, rfl, (Nat.le_of_ble_eq_true rfl), ⟨nh_1.1, nh_1.2, by decide +kernel⟩⟩
theorem mi_X1_isWatched : MIV yX1_isWatched cX1_isWatched 3 (some .boolean) 1 2 := ⟨cd_X1_isWatched, im_X1_isWatched, se_X1_isWatched, ini_1, rfl, (Nat.le_of_ble_eq_true rfl), ⟨nh_1.1, nh_1.2, by decide +kernel⟩⟩
theorem mi_X1_turnedFrom : MIV yX1_turnedFrom cX1_turnedFrom 4 (some .int) 1 1 := ⟨cd_X1_turnedFrom, im_X1_turnedFrom, se_X1_turnedFrom, ini_1, rfl, (Nat.le_of_ble_eq_true rfl), ⟨nh_1.1, nh_1.2, by decide +kernel⟩⟩
theorem mi_X2_choose : MIV yX2_choose cX2_choose 7 (some .int) 2 2 := ⟨cd_X2_choose, im_X2_choose, se_X2_choose, ini_2, rfl, (Nat.le_of_ble_eq_true rfl), ⟨nh_2.1, nh_2.2, by decide +kernel⟩⟩
theorem mi_X2_worstDoubt : MIV yX2_worstDoubt cX2_worstDoubt 3 (some .int) 2 0 := ⟨cd_X2_worstDoubt, im_X2_worstDoubt, se_X2_worstDoubt, ini_2, rfl, (Nat.le_of_ble_eq_true rfl), ⟨nh_2.1, nh_2.2, by decide +kernel⟩⟩
theorem mi_X2_keep : MIV yX2_keep cX2_keep 2 none 2 0 := ⟨cd_X2_keep, im_X2_keep, se_X2_keep, ini_2, rfl, (Nat.le_of_ble_eq_true rfl), ⟨nh_2.1, nh_2.2, by decide +kernel⟩⟩
theorem mi_X2_nextTry : MIV yX2_nextTry cX2_nextTry 3 (some .boolean) 2 1 := ⟨cd_X2_nextTry, im_X2_nextTry, se_X2_nextTry, ini_2, rfl, (Nat.le_of_ble_eq_true rfl), ⟨nh_2.1, nh_2.2, by decide +kernel⟩⟩
theorem mi_X3_clear : MIV yX3_clear cX3_clear 1 none 3 0 := ⟨cd_X3_clear, im_X3_clear, se_X3_clear, ini_3, rfl, (Nat.le_of_ble_eq_true rfl), ⟨nh_3.1, nh_3.2, by decide +kernel⟩⟩
theorem mi_X3_isEmpty : MIV yX3_isEmpty cX3_isEmpty 1 (some .boolean) 3 0 := ⟨cd_X3_isEmpty, im_X3_isEmpty, se_X3_isEmpty, ini_3, rfl, (Nat.le_of_ble_eq_true rfl), ⟨nh_3.1, nh_3.2, by decide +kernel⟩⟩
theorem mi_X3_push : MIV yX3_push cX3_push 3 none 3 2 := ⟨cd_X3_push, im_X3_push, se_X3_push, ini_3, rfl, (Nat.le_of_ble_eq_true rfl), ⟨nh_3.1, nh_3.2, by decide +kernel⟩⟩
theorem mi_X3_pop : MIV yX3_pop cX3_pop 1 (some .int) 3 0 := ⟨cd_X3_pop, im_X3_pop, se_X3_pop, ini_3, rfl, (Nat.le_of_ble_eq_true rfl), ⟨nh_3.1, nh_3.2, by decide +kernel⟩⟩
theorem mi_X3_top : MIV yX3_top cX3_top 1 (some .int) 3 0 := ⟨cd_X3_top, im_X3_top, se_X3_top, ini_3, rfl, (Nat.le_of_ble_eq_true rfl), ⟨nh_3.1, nh_3.2, by decide +kernel⟩⟩
theorem mi_X3_innermost : MIV yX3_innermost cX3_innermost 3 (some .int) 3 1 := ⟨cd_X3_innermost, im_X3_innermost, se_X3_innermost, ini_3, rfl, (Nat.le_of_ble_eq_true rfl), ⟨nh_3.1, nh_3.2, by decide +kernel⟩⟩
theorem mi_X4_parse : MIV yX4_parse cX4_parse 3 (some .int) 4 0 := ⟨cd_X4_parse, im_X4_parse, se_X4_parse, ini_4, rfl, (Nat.le_of_ble_eq_true rfl), ⟨nh_4.1, nh_4.2, by decide +kernel⟩⟩
theorem mi_X4_comeTo : MIV yX4_comeTo cX4_comeTo 2 none 4 1 := ⟨cd_X4_comeTo, im_X4_comeTo, se_X4_comeTo, ini_4, rfl, (Nat.le_of_ble_eq_true rfl), ⟨nh_4.1, nh_4.2, by decide +kernel⟩⟩
theorem mi_X4_fail : MIV yX4_fail cX4_fail 2 (some .boolean) 4 1 := ⟨cd_X4_fail, im_X4_fail, se_X4_fail, ini_4, rfl, (Nat.le_of_ble_eq_true rfl), ⟨nh_4.1, nh_4.2, by decide +kernel⟩⟩
theorem mi_X4_failLater : MIV yX4_failLater cX4_failLater 2 none 4 1 := ⟨cd_X4_failLater, im_X4_failLater, se_X4_failLater, ini_4, rfl, (Nat.le_of_ble_eq_true rfl), ⟨nh_4.1, nh_4.2, by decide +kernel⟩⟩
theorem mi_X4_accept : MIV yX4_accept cX4_accept 2 (some .boolean) 4 1 := ⟨cd_X4_accept, im_X4_accept, se_X4_accept, ini_4, rfl, (Nat.le_of_ble_eq_true rfl), ⟨nh_4.1, nh_4.2, by decide +kernel⟩⟩
theorem mi_X4_acceptNumber : MIV yX4_acceptNumber cX4_acceptNumber 2 (some .boolean) 4 1 := ⟨cd_X4_acceptNumber, im_X4_acceptNumber, se_X4_acceptNumber, ini_4, rfl, (Nat.le_of_ble_eq_true rfl), ⟨nh_4.1, nh_4.2, by decide +kernel⟩⟩
theorem mi_X4_codeOrOver : MIV yX4_codeOrOver cX4_codeOrOver 1 (some .boolean) 4 0 := ⟨cd_X4_codeOrOver, im_X4_codeOrOver, se_X4_codeOrOver, ini_4, rfl, (Nat.le_of_ble_eq_true rfl), ⟨nh_4.1, nh_4.2, by decide +kernel⟩⟩
theorem mi_X4_deedOrEnd : MIV yX4_deedOrEnd cX4_deedOrEnd 1 (some .boolean) 4 0 := ⟨cd_X4_deedOrEnd, im_X4_deedOrEnd, se_X4_deedOrEnd, ini_4, rfl, (Nat.le_of_ble_eq_true rfl), ⟨nh_4.1, nh_4.2, by decide +kernel⟩⟩
theorem mi_X4_plainDeed : MIV yX4_plainDeed cX4_plainDeed 3 (some .boolean) 4 1 := ⟨cd_X4_plainDeed, im_X4_plainDeed, se_X4_plainDeed, ini_4, rfl, (Nat.le_of_ble_eq_true rfl), ⟨nh_4.1, nh_4.2, by decide +kernel⟩⟩
theorem mi_X4_doDeed : MIV yX4_doDeed cX4_doDeed 2 (some .boolean) 4 0 := ⟨cd_X4_doDeed, im_X4_doDeed, se_X4_doDeed, ini_4, rfl, (Nat.le_of_ble_eq_true rfl), ⟨nh_4.1, nh_4.2, by decide +kernel⟩⟩
theorem mi_X4_open : MIV yX4_open cX4_open 2 (some .boolean) 4 1 := ⟨cd_X4_open, im_X4_open, se_X4_open, ini_4, rfl, (Nat.le_of_ble_eq_true rfl), ⟨nh_4.1, nh_4.2, by decide +kernel⟩⟩
theorem mi_X4_loopHead : MIV yX4_loopHead cX4_loopHead 1 (some .boolean) 4 0 := ⟨cd_X4_loopHead, im_X4_loopHead, se_X4_loopHead, ini_4, rfl, (Nat.le_of_ble_eq_true rfl), ⟨nh_4.1, nh_4.2, by decide +kernel⟩⟩
theorem mi_X4_meetHead : MIV yX4_meetHead cX4_meetHead 2 (some .boolean) 4 0 := ⟨cd_X4_meetHead, im_X4_meetHead, se_X4_meetHead, ini_4, rfl, (Nat.le_of_ble_eq_true rfl), ⟨nh_4.1, nh_4.2, by decide +kernel⟩⟩
theorem mi_X4_ifHead : MIV yX4_ifHead cX4_ifHead 4 (some .boolean) 4 0 := ⟨cd_X4_ifHead, im_X4_ifHead, se_X4_ifHead, ini_4, rfl, (Nat.le_of_ble_eq_true rfl), ⟨nh_4.1, nh_4.2, by decide +kernel⟩⟩
theorem mi_X4_mostOfTest : MIS yX4_mostOfTest cX4_mostOfTest 1 (some .int) 1 := ⟨cd_X4_mostOfTest, st_X4_mostOfTest, ini_4, ⟨nh_4.1, nh_4.2, by decide +kernel⟩⟩
theorem mi_X4_elseOfBlock : MIV yX4_elseOfBlock cX4_elseOfBlock 3 (some .boolean) 4 0 := ⟨cd_X4_elseOfBlock, im_X4_elseOfBlock, se_X4_elseOfBlock, ini_4, rfl, (Nat.le_of_ble_eq_true rfl), ⟨nh_4.1, nh_4.2, by decide +kernel⟩⟩
theorem mi_X4_endOfBlock : MIV yX4_endOfBlock cX4_endOfBlock 4 (some .boolean) 4 0 := ⟨cd_X4_endOfBlock, im_X4_endOfBlock, se_X4_endOfBlock, ini_4, rfl, (Nat.le_of_ble_eq_true rfl), ⟨nh_4.1, nh_4.2, by decide +kernel⟩⟩
theorem mi_X5_clear : MIV yX5_clear cX5_clear 1 none 5 0 := ⟨cd_X5_clear, im_X5_clear, se_X5_clear, ini_5, rfl, (Nat.le_of_ble_eq_true rfl), ⟨nh_5.1, nh_5.2, by decide +kernel⟩⟩
theorem mi_X5_become : MIV yX5_become cX5_become 3 none 5 1 := ⟨cd_X5_become, im_X5_become, se_X5_become, ini_5, rfl, (Nat.le_of_ble_eq_true rfl), ⟨nh_5.1, nh_5.2, by decide +kernel⟩⟩
theorem mi_X5_add : MIV yX5_add cX5_add 4 (some .int) 5 3 := ⟨cd_X5_add, im_X5_add, se_X5_add, ini_5, rfl, (Nat.le_of_ble_eq_true rfl), ⟨nh_5.1, nh_5.2, by decide +kernel⟩⟩
theorem mi_X5_addIf : MIV yX5_addIf cX5_addIf 5 none 5 3 := ⟨cd_X5_addIf, im_X5_addIf, se_X5_addIf, ini_5, rfl, (Nat.le_of_ble_eq_true rfl), ⟨nh_5.1, nh_5.2, by decide +kernel⟩⟩
theorem mi_X5_isStep : MIV yX5_isStep cX5_isStep 2 (some .boolean) 5 1 := ⟨cd_X5_isStep, im_X5_isStep, se_X5_isStep, ini_5, rfl, (Nat.le_of_ble_eq_true rfl), ⟨nh_5.1, nh_5.2, by decide +kernel⟩⟩
theorem mi_X5_aim : MIV yX5_aim cX5_aim 3 none 5 2 := ⟨cd_X5_aim, im_X5_aim, se_X5_aim, ini_5, rfl, (Nat.le_of_ble_eq_true rfl), ⟨nh_5.1, nh_5.2, by decide +kernel⟩⟩
theorem mi_X5_beginCode : MIV yX5_beginCode cX5_beginCode 3 none 5 1 := ⟨cd_X5_beginCode, im_X5_beginCode, se_X5_beginCode, ini_5, rfl, (Nat.le_of_ble_eq_true rfl), ⟨nh_5.1, nh_5.2, by decide +kernel⟩⟩
theorem mi_X5_endCode : MIV yX5_endCode cX5_endCode 1 none 5 0 := ⟨cd_X5_endCode, im_X5_endCode, se_X5_endCode, ini_5, rfl, (Nat.le_of_ble_eq_true rfl), ⟨nh_5.1, nh_5.2, by decide +kernel⟩⟩
theorem mi_X5_codeNamed : MIV yX5_codeNamed cX5_codeNamed 4 (some .int) 5 1 := ⟨cd_X5_codeNamed, im_X5_codeNamed, se_X5_codeNamed, ini_5, rfl, (Nat.le_of_ble_eq_true rfl), ⟨nh_5.1, nh_5.2, by decide +kernel⟩⟩
theorem mi_X5_firstStep : MIV yX5_firstStep cX5_firstStep 2 (some .int) 5 1 := ⟨cd_X5_firstStep, im_X5_firstStep, se_X5_firstStep, ini_5, rfl, (Nat.le_of_ble_eq_true rfl), ⟨nh_5.1, nh_5.2, by decide +kernel⟩⟩
theorem mi_X6_reckon : MIV yX6_reckon cX6_reckon 4 none 6 1 := ⟨cd_X6_reckon, im_X6_reckon, se_X6_reckon, ini_6, rfl, (Nat.le_of_ble_eq_true rfl), ⟨nh_6.1, nh_6.2, by decide +kernel⟩⟩
theorem mi_X6_noteSights : MIV yX6_noteSights cX6_noteSights 3 none 6 1 := ⟨cd_X6_noteSights, im_X6_noteSights, se_X6_noteSights, ini_6, rfl, (Nat.le_of_ble_eq_true rfl), ⟨nh_6.1, nh_6.2, by decide +kernel⟩⟩
theorem mi_X6_arrival : MIV yX6_arrival cX6_arrival 5 (some .int) 6 3 := ⟨cd_X6_arrival, im_X6_arrival, se_X6_arrival, ini_6, rfl, (Nat.le_of_ble_eq_true rfl), ⟨nh_6.1, nh_6.2, by decide +kernel⟩⟩
theorem mi_X6_goForth : MIV yX6_goForth cX6_goForth 5 none 6 1 := ⟨cd_X6_goForth, im_X6_goForth, se_X6_goForth, ini_6, rfl, (Nat.le_of_ble_eq_true rfl), ⟨nh_6.1, nh_6.2, by decide +kernel⟩⟩
theorem mi_X6_goBack : MIV yX6_goBack cX6_goBack 6 none 6 1 := ⟨cd_X6_goBack, im_X6_goBack, se_X6_goBack, ini_6, rfl, (Nat.le_of_ble_eq_true rfl), ⟨nh_6.1, nh_6.2, by decide +kernel⟩⟩
theorem mi_X6_canShare : MIV yX6_canShare cX6_canShare 5 (some .boolean) 6 3 := ⟨cd_X6_canShare, im_X6_canShare, se_X6_canShare, ini_6, rfl, (Nat.le_of_ble_eq_true rfl), ⟨nh_6.1, nh_6.2, by decide +kernel⟩⟩
theorem mi_X7_spread : MIV yX7_spread cX7_spread 10 none 7 4 := ⟨cd_X7_spread, im_X7_spread, se_X7_spread, ini_7, rfl, (Nat.le_of_ble_eq_true rfl), ⟨nh_7.1, nh_7.2, by decide +kernel⟩⟩
theorem mi_X7_carryOn : MIV yX7_carryOn cX7_carryOn 6 none 7 2 := ⟨cd_X7_carryOn, im_X7_carryOn, se_X7_carryOn, ini_7, rfl, (Nat.le_of_ble_eq_true rfl), ⟨nh_7.1, nh_7.2, by decide +kernel⟩⟩
theorem mi_X7_knowersBy : MIV yX7_knowersBy cX7_knowersBy 4 (some .int) 7 1 := ⟨cd_X7_knowersBy, im_X7_knowersBy, se_X7_knowersBy, ini_7, rfl, (Nat.le_of_ble_eq_true rfl), ⟨nh_7.1, nh_7.2, by decide +kernel⟩⟩
theorem mi_X8_perform : MIV yX8_perform cX8_perform 5 (some .int) 8 1 := ⟨cd_X8_perform, im_X8_perform, se_X8_perform, ini_8, rfl, (Nat.le_of_ble_eq_true rfl), ⟨nh_8.1, nh_8.2, by decide +kernel⟩⟩
theorem mi_X8_clear : MIV yX8_clear cX8_clear 3 none 8 0 := ⟨cd_X8_clear, im_X8_clear, se_X8_clear, ini_8, rfl, (Nat.le_of_ble_eq_true rfl), ⟨nh_8.1, nh_8.2, by decide +kernel⟩⟩
theorem mi_X8_see : MIV yX8_see cX8_see 3 none 8 1 := ⟨cd_X8_see, im_X8_see, se_X8_see, ini_8, rfl, (Nat.le_of_ble_eq_true rfl), ⟨nh_8.1, nh_8.2, by decide +kernel⟩⟩
theorem mi_X8_isAgent : MIV yX8_isAgent cX8_isAgent 2 (some .boolean) 8 1 := ⟨cd_X8_isAgent, im_X8_isAgent, se_X8_isAgent, ini_8, rfl, (Nat.le_of_ble_eq_true rfl), ⟨nh_8.1, nh_8.2, by decide +kernel⟩⟩
theorem mi_X8_placeOf : MIV yX8_placeOf cX8_placeOf 2 (some .int) 8 1 := ⟨cd_X8_placeOf, im_X8_placeOf, se_X8_placeOf, ini_8, rfl, (Nat.le_of_ble_eq_true rfl), ⟨nh_8.1, nh_8.2, by decide +kernel⟩⟩
theorem mi_X8_turn : MIV yX8_turn cX8_turn 4 none 8 2 := ⟨cd_X8_turn, im_X8_turn, se_X8_turn, ini_8, rfl, (Nat.le_of_ble_eq_true rfl), ⟨nh_8.1, nh_8.2, by decide +kernel⟩⟩
theorem mi_X8_setOut : MIV yX8_setOut cX8_setOut 3 none 8 1 := ⟨cd_X8_setOut, im_X8_setOut, se_X8_setOut, ini_8, rfl, (Nat.le_of_ble_eq_true rfl), ⟨nh_8.1, nh_8.2, by decide +kernel⟩⟩
theorem mi_X8_isFree : MIV yX8_isFree cX8_isFree 2 (some .boolean) 8 1 := ⟨cd_X8_isFree, im_X8_isFree, se_X8_isFree, ini_8, rfl, (Nat.le_of_ble_eq_true rfl), ⟨nh_8.1, nh_8.2, by decide +kernel⟩⟩
theorem mi_X8_beginFirstDeeds : MIS yX8_beginFirstDeeds cX8_beginFirstDeeds 2 none 2 := ⟨cd_X8_beginFirstDeeds, st_X8_beginFirstDeeds, ini_8, ⟨nh_8.1, nh_8.2, by decide +kernel⟩⟩
theorem mi_X8_targetOf : MIV yX8_targetOf cX8_targetOf 2 (some .int) 8 1 := ⟨cd_X8_targetOf, im_X8_targetOf, se_X8_targetOf, ini_8, rfl, (Nat.le_of_ble_eq_true rfl), ⟨nh_8.1, nh_8.2, by decide +kernel⟩⟩
theorem mi_X8_isOver : MIV yX8_isOver cX8_isOver 3 (some .boolean) 8 1 := ⟨cd_X8_isOver, im_X8_isOver, se_X8_isOver, ini_8, rfl, (Nat.le_of_ble_eq_true rfl), ⟨nh_8.1, nh_8.2, by decide +kernel⟩⟩
theorem mi_X8_passesEnd : MIV yX8_passesEnd cX8_passesEnd 3 (some .boolean) 8 1 := ⟨cd_X8_passesEnd, im_X8_passesEnd, se_X8_passesEnd, ini_8, rfl, (Nat.le_of_ble_eq_true rfl), ⟨nh_8.1, nh_8.2, by decide +kernel⟩⟩
theorem mi_X8_takesTime : MIV yX8_takesTime cX8_takesTime 6 (some .boolean) 8 2 := ⟨cd_X8_takesTime, im_X8_takesTime, se_X8_takesTime, ini_8, rfl, (Nat.le_of_ble_eq_true rfl), ⟨nh_8.1, nh_8.2, by decide +kernel⟩⟩
theorem mi_X8_goTo : MIV yX8_goTo cX8_goTo 3 (some .boolean) 8 2 := ⟨cd_X8_goTo, im_X8_goTo, se_X8_goTo, ini_8, rfl, (Nat.le_of_ble_eq_true rfl), ⟨nh_8.1, nh_8.2, by decide +kernel⟩⟩
theorem mi_X8_beginLoop : MIV yX8_beginLoop cX8_beginLoop 3 none 8 2 := ⟨cd_X8_beginLoop, im_X8_beginLoop, se_X8_beginLoop, ini_8, rfl, (Nat.le_of_ble_eq_true rfl), ⟨nh_8.1, nh_8.2, by decide +kernel⟩⟩
theorem mi_X8_waitsToMeet : MIV yX8_waitsToMeet cX8_waitsToMeet 5 (some .boolean) 8 4 := ⟨cd_X8_waitsToMeet, im_X8_waitsToMeet, se_X8_waitsToMeet, ini_8, rfl, (Nat.le_of_ble_eq_true rfl), ⟨nh_8.1, nh_8.2, by decide +kernel⟩⟩
theorem mi_X8_noteMeeting : MIV yX8_noteMeeting cX8_noteMeeting 3 none 8 2 := ⟨cd_X8_noteMeeting, im_X8_noteMeeting, se_X8_noteMeeting, ini_8, rfl, (Nat.le_of_ble_eq_true rfl), ⟨nh_8.1, nh_8.2, by decide +kernel⟩⟩
theorem mi_X8_testHolds : MIV yX8_testHolds cX8_testHolds 4 (some .boolean) 8 3 := ⟨cd_X8_testHolds, im_X8_testHolds, se_X8_testHolds, ini_8, rfl, (Nat.le_of_ble_eq_true rfl), ⟨nh_8.1, nh_8.2, by decide +kernel⟩⟩
theorem mi_X8_paperLies : MIV yX8_paperLies cX8_paperLies 3 (some .boolean) 8 2 := ⟨cd_X8_paperLies, im_X8_paperLies, se_X8_paperLies, ini_8, rfl, (Nat.le_of_ble_eq_true rfl), ⟨nh_8.1, nh_8.2, by decide +kernel⟩⟩
theorem mi_X8_handle : MIV yX8_handle cX8_handle 6 none 8 4 := ⟨cd_X8_handle, im_X8_handle, se_X8_handle, ini_8, rfl, (Nat.le_of_ble_eq_true rfl), ⟨nh_8.1, nh_8.2, by decide +kernel⟩⟩
theorem mi_X8_leavePaper : MIV yX8_leavePaper cX8_leavePaper 4 none 8 3 := ⟨cd_X8_leavePaper, im_X8_leavePaper, se_X8_leavePaper, ini_8, rfl, (Nat.le_of_ble_eq_true rfl), ⟨nh_8.1, nh_8.2, by decide +kernel⟩⟩
theorem mi_X8_takePaper : MIV yX8_takePaper cX8_takePaper 3 none 8 2 := ⟨cd_X8_takePaper, im_X8_takePaper, se_X8_takePaper, ini_8, rfl, (Nat.le_of_ble_eq_true rfl), ⟨nh_8.1, nh_8.2, by decide +kernel⟩⟩
theorem mi_X8_tellSecret : MIV yX8_tellSecret cX8_tellSecret 5 none 8 3 := ⟨cd_X8_tellSecret, im_X8_tellSecret, se_X8_tellSecret, ini_8, rfl, (Nat.le_of_ble_eq_true rfl), ⟨nh_8.1, nh_8.2, by decide +kernel⟩⟩
theorem mi_X8_learn : MIV yX8_learn cX8_learn 4 none 8 3 := ⟨cd_X8_learn, im_X8_learn, se_X8_learn, ini_8, rfl, (Nat.le_of_ble_eq_true rfl), ⟨nh_8.1, nh_8.2, by decide +kernel⟩⟩
theorem mi_X8_had : MIV yX8_had cX8_had 2 (some .boolean) 8 1 := ⟨cd_X8_had, im_X8_had, se_X8_had, ini_8, rfl, (Nat.le_of_ble_eq_true rfl), ⟨nh_8.1, nh_8.2, by decide +kernel⟩⟩
theorem mi_X8_whoFalls : MIV yX8_whoFalls cX8_whoFalls 5 (some .int) 8 1 := ⟨cd_X8_whoFalls, im_X8_whoFalls, se_X8_whoFalls, ini_8, rfl, (Nat.le_of_ble_eq_true rfl), ⟨nh_8.1, nh_8.2, by decide +kernel⟩⟩
theorem mi_X9_add : MIV yX9_add cX9_add 3 none 9 1 := ⟨cd_X9_add, im_X9_add, se_X9_add, ini_9, rfl, (Nat.le_of_ble_eq_true rfl), ⟨nh_9.1, nh_9.2, by decide +kernel⟩⟩
theorem mi_X9_scan : MIV yX9_scan cX9_scan 3 none 9 0 := ⟨cd_X9_scan, im_X9_scan, se_X9_scan, ini_9, rfl, (Nat.le_of_ble_eq_true rfl), ⟨nh_9.1, nh_9.2, by decide +kernel⟩⟩
theorem mi_X9_scanToken : MIV yX9_scanToken cX9_scanToken 3 (some .int) 9 1 := ⟨cd_X9_scanToken, im_X9_scanToken, se_X9_scanToken, ini_9, rfl, (Nat.le_of_ble_eq_true rfl), ⟨nh_9.1, nh_9.2, by decide +kernel⟩⟩
theorem mi_X9_byteAt : MIV yX9_byteAt cX9_byteAt 2 (some .int) 9 1 := ⟨cd_X9_byteAt, im_X9_byteAt, se_X9_byteAt, ini_9, rfl, (Nat.le_of_ble_eq_true rfl), ⟨nh_9.1, nh_9.2, by decide +kernel⟩⟩
theorem mi_X9_scanLetters : MIV yX9_scanLetters cX9_scanLetters 3 (some .long) 9 0 := ⟨cd_X9_scanLetters, im_X9_scanLetters, se_X9_scanLetters, ini_9, rfl, (Nat.le_of_ble_eq_true rfl), ⟨nh_9.1, nh_9.2, by decide +kernel⟩⟩
theorem mi_X9_scanDigits : MIV yX9_scanDigits cX9_scanDigits 2 (some .int) 9 0 := ⟨cd_X9_scanDigits, im_X9_scanDigits, se_X9_scanDigits, ini_9, rfl, (Nat.le_of_ble_eq_true rfl), ⟨nh_9.1, nh_9.2, by decide +kernel⟩⟩
theorem mi_X9_wordOf : MIS yX9_wordOf cX9_wordOf 7 (some .int) 1 := ⟨cd_X9_wordOf, st_X9_wordOf, ini_9, ⟨nh_9.1, nh_9.2, by decide +kernel⟩⟩
theorem mi_X9_withLetter : MIS yX9_withLetter cX9_withLetter 3 (some .long) 2 := ⟨cd_X9_withLetter, st_X9_withLetter, ini_9, ⟨nh_9.1, nh_9.2, by decide +kernel⟩⟩
theorem mi_X9_isBlank : MIS yX9_isBlank cX9_isBlank 1 (some .boolean) 1 := ⟨cd_X9_isBlank, st_X9_isBlank, ini_9, ⟨nh_9.1, nh_9.2, by decide +kernel⟩⟩
theorem mi_X9_isLetter : MIS yX9_isLetter cX9_isLetter 1 (some .boolean) 1 := ⟨cd_X9_isLetter, st_X9_isLetter, ini_9, ⟨nh_9.1, nh_9.2, by decide +kernel⟩⟩
theorem mi_X9_isDigit : MIS yX9_isDigit cX9_isDigit 1 (some .boolean) 1 := ⟨cd_X9_isDigit, st_X9_isDigit, ini_9, ⟨nh_9.1, nh_9.2, by decide +kernel⟩⟩
theorem mi_X10_hasSpot : MIV yX10_hasSpot cX10_hasSpot 2 (some .boolean) 10 1 := ⟨cd_X10_hasSpot, im_X10_hasSpot, se_X10_hasSpot, ini_10, rfl, (Nat.le_of_ble_eq_true rfl), ⟨nh_10.1, nh_10.2, by decide +kernel⟩⟩
theorem mi_X10_addSpot : MIV yX10_addSpot cX10_addSpot 1 (some .int) 10 0 := ⟨cd_X10_addSpot, im_X10_addSpot, se_X10_addSpot, ini_10, rfl, (Nat.le_of_ble_eq_true rfl), ⟨nh_10.1, nh_10.2, by decide +kernel⟩⟩
theorem mi_X10_addWay : MIV yX10_addWay cX10_addWay 6 (some .int) 10 3 := ⟨cd_X10_addWay, im_X10_addWay, se_X10_addWay, ini_10, rfl, (Nat.le_of_ble_eq_true rfl), ⟨nh_10.1, nh_10.2, by decide +kernel⟩⟩
theorem mi_X10_shorten : MIV yX10_shorten cX10_shorten 4 none 10 3 := ⟨cd_X10_shorten, im_X10_shorten, se_X10_shorten, ini_10, rfl, (Nat.le_of_ble_eq_true rfl), ⟨nh_10.1, nh_10.2, by decide +kernel⟩⟩
theorem mi_X10_sum : MIS yX10_sum cX10_sum 3 (some .int) 3 := ⟨cd_X10_sum, st_X10_sum, ini_10, ⟨nh_10.1, nh_10.2, by decide +kernel⟩⟩
theorem mi_X10_lengthBetween : MIV yX10_lengthBetween cX10_lengthBetween 4 (some .int) 10 2 := ⟨cd_X10_lengthBetween, im_X10_lengthBetween, se_X10_lengthBetween, ini_10, rfl, (Nat.le_of_ble_eq_true rfl), ⟨nh_10.1, nh_10.2, by decide +kernel⟩⟩
theorem mi_X10_nextSpot : MIV yX10_nextSpot cX10_nextSpot 7 (some .int) 10 2 := ⟨cd_X10_nextSpot, im_X10_nextSpot, se_X10_nextSpot, ini_10, rfl, (Nat.le_of_ble_eq_true rfl), ⟨nh_10.1, nh_10.2, by decide +kernel⟩⟩
theorem mi_X10_otherEnd : MIV yX10_otherEnd cX10_otherEnd 3 (some .int) 10 2 := ⟨cd_X10_otherEnd, im_X10_otherEnd, se_X10_otherEnd, ini_10, rfl, (Nat.le_of_ble_eq_true rfl), ⟨nh_10.1, nh_10.2, by decide +kernel⟩⟩
theorem mi_X10_across : MIV yX10_across cX10_across 3 (some .int) 10 2 := ⟨cd_X10_across, im_X10_across, se_X10_across, ini_10, rfl, (Nat.le_of_ble_eq_true rfl), ⟨nh_10.1, nh_10.2, by decide +kernel⟩⟩
theorem mi_X10_allSpots : MIV yX10_allSpots cX10_allSpots 1 (some .int) 10 0 := ⟨cd_X10_allSpots, im_X10_allSpots, se_X10_allSpots, ini_10, rfl, (Nat.le_of_ble_eq_true rfl), ⟨nh_10.1, nh_10.2, by decide +kernel⟩⟩
theorem mi_X11_feed : MIV yX11_feed cX11_feed 6 (some .int) 11 5 := ⟨cd_X11_feed, im_X11_feed, se_X11_feed, ini_11, rfl, (Nat.le_of_ble_eq_true rfl), ⟨nh_11.1, nh_11.2, by decide +kernel⟩⟩
theorem mi_X11_back : MIV yX11_back cX11_back 2 (some .int) 11 1 := ⟨cd_X11_back, im_X11_back, se_X11_back, ini_11, rfl, (Nat.le_of_ble_eq_true rfl), ⟨nh_11.1, nh_11.2, by decide +kernel⟩⟩
theorem mi_X11_read : MIV yX11_read cX11_read 3 (some .int) 11 0 := ⟨cd_X11_read, im_X11_read, se_X11_read, ini_11, rfl, (Nat.le_of_ble_eq_true rfl), ⟨nh_11.1, nh_11.2, by decide +kernel⟩⟩
theorem mi_X11_place : MIV yX11_place cX11_place 1 (some .int) 11 0 := ⟨cd_X11_place, im_X11_place, se_X11_place, ini_11, rfl, (Nat.le_of_ble_eq_true rfl), ⟨nh_11.1, nh_11.2, by decide +kernel⟩⟩
theorem mi_X11_spot : MIV yX11_spot cX11_spot 1 (some .int) 11 0 := ⟨cd_X11_spot, im_X11_spot, se_X11_spot, ini_11, rfl, (Nat.le_of_ble_eq_true rfl), ⟨nh_11.1, nh_11.2, by decide +kernel⟩⟩
theorem mi_X11_way : MIV yX11_way cX11_way 4 (some .int) 11 3 := ⟨cd_X11_way, im_X11_way, se_X11_way, ini_11, rfl, (Nat.le_of_ble_eq_true rfl), ⟨nh_11.1, nh_11.2, by decide +kernel⟩⟩
theorem mi_X11_agent : MIV yX11_agent cX11_agent 4 (some .int) 11 2 := ⟨cd_X11_agent, im_X11_agent, se_X11_agent, ini_11, rfl, (Nat.le_of_ble_eq_true rfl), ⟨nh_11.1, nh_11.2, by decide +kernel⟩⟩
theorem mi_X11_give : MIV yX11_give cX11_give 3 (some .boolean) 11 2 := ⟨cd_X11_give, im_X11_give, se_X11_give, ini_11, rfl, (Nat.le_of_ble_eq_true rfl), ⟨nh_11.1, nh_11.2, by decide +kernel⟩⟩
theorem mi_X11_distance : MIV yX11_distance cX11_distance 3 (some .int) 11 2 := ⟨cd_X11_distance, im_X11_distance, se_X11_distance, ini_11, rfl, (Nat.le_of_ble_eq_true rfl), ⟨nh_11.1, nh_11.2, by decide +kernel⟩⟩
theorem mi_X11_post : MIV yX11_post cX11_post 5 (some .int) 11 4 := ⟨cd_X11_post, im_X11_post, se_X11_post, ini_11, rfl, (Nat.le_of_ble_eq_true rfl), ⟨nh_11.1, nh_11.2, by decide +kernel⟩⟩
theorem mi_X11_sight : MIV yX11_sight cX11_sight 4 (some .int) 11 3 := ⟨cd_X11_sight, im_X11_sight, se_X11_sight, ini_11, rfl, (Nat.le_of_ble_eq_true rfl), ⟨nh_11.1, nh_11.2, by decide +kernel⟩⟩
theorem mi_X11_turned : MIV yX11_turned cX11_turned 3 (some .int) 11 2 := ⟨cd_X11_turned, im_X11_turned, se_X11_turned, ini_11, rfl, (Nat.le_of_ble_eq_true rfl), ⟨nh_11.1, nh_11.2, by decide +kernel⟩⟩
theorem mi_X11_strike : MIV yX11_strike cX11_strike 2 (some .int) 11 1 := ⟨cd_X11_strike, im_X11_strike, se_X11_strike, ini_11, rfl, (Nat.le_of_ble_eq_true rfl), ⟨nh_11.1, nh_11.2, by decide +kernel⟩⟩
theorem mi_X11_struck : MIV yX11_struck cX11_struck 3 (some .int) 11 2 := ⟨cd_X11_struck, im_X11_struck, se_X11_struck, ini_11, rfl, (Nat.le_of_ble_eq_true rfl), ⟨nh_11.1, nh_11.2, by decide +kernel⟩⟩
theorem mi_X11_run : MIV yX11_run cX11_run 2 (some .int) 11 1 := ⟨cd_X11_run, im_X11_run, se_X11_run, ini_11, rfl, (Nat.le_of_ble_eq_true rfl), ⟨nh_11.1, nh_11.2, by decide +kernel⟩⟩
theorem mi_X11_where : MIV yX11_where cX11_where 3 (some .int) 11 2 := ⟨cd_X11_where, im_X11_where, se_X11_where, ini_11, rfl, (Nat.le_of_ble_eq_true rfl), ⟨nh_11.1, nh_11.2, by decide +kernel⟩⟩
theorem mi_X11_knows : MIV yX11_knows cX11_knows 3 (some .int) 11 2 := ⟨cd_X11_knows, im_X11_knows, se_X11_knows, ini_11, rfl, (Nat.le_of_ble_eq_true rfl), ⟨nh_11.1, nh_11.2, by decide +kernel⟩⟩
theorem mi_X11_chain : MIV yX11_chain cX11_chain 6 (some .int) 11 3 := ⟨cd_X11_chain, im_X11_chain, se_X11_chain, ini_11, rfl, (Nat.le_of_ble_eq_true rfl), ⟨nh_11.1, nh_11.2, by decide +kernel⟩⟩
theorem mi_X11_has : MIV yX11_has cX11_has 3 (some .int) 11 2 := ⟨cd_X11_has, im_X11_has, se_X11_has, ini_11, rfl, (Nat.le_of_ble_eq_true rfl), ⟨nh_11.1, nh_11.2, by decide +kernel⟩⟩
theorem mi_X11_left : MIV yX11_left cX11_left 2 (some .int) 11 1 := ⟨cd_X11_left, im_X11_left, se_X11_left, ini_11, rfl, (Nat.le_of_ble_eq_true rfl), ⟨nh_11.1, nh_11.2, by decide +kernel⟩⟩
theorem mi_X11_met : MIV yX11_met cX11_met 3 (some .int) 11 2 := ⟨cd_X11_met, im_X11_met, se_X11_met, ini_11, rfl, (Nat.le_of_ble_eq_true rfl), ⟨nh_11.1, nh_11.2, by decide +kernel⟩⟩
theorem mi_X11_ended : MIV yX11_ended cX11_ended 2 (some .int) 11 1 := ⟨cd_X11_ended, im_X11_ended, se_X11_ended, ini_11, rfl, (Nat.le_of_ble_eq_true rfl), ⟨nh_11.1, nh_11.2, by decide +kernel⟩⟩
theorem mi_X11_deeds : MIV yX11_deeds cX11_deeds 2 (some .int) 11 1 := ⟨cd_X11_deeds, im_X11_deeds, se_X11_deeds, ini_11, rfl, (Nat.le_of_ble_eq_true rfl), ⟨nh_11.1, nh_11.2, by decide +kernel⟩⟩
theorem mi_X11_saws : MIV yX11_saws cX11_saws 1 (some .int) 11 0 := ⟨cd_X11_saws, im_X11_saws, se_X11_saws, ini_11, rfl, (Nat.le_of_ble_eq_true rfl), ⟨nh_11.1, nh_11.2, by decide +kernel⟩⟩
theorem mi_X11_falls : MIV yX11_falls cX11_falls 2 (some .int) 11 1 := ⟨cd_X11_falls, im_X11_falls, se_X11_falls, ini_11, rfl, (Nat.le_of_ble_eq_true rfl), ⟨nh_11.1, nh_11.2, by decide +kernel⟩⟩
theorem mi_X11_fallen : MIV yX11_fallen cX11_fallen 2 (some .int) 11 1 := ⟨cd_X11_fallen, im_X11_fallen, se_X11_fallen, ini_11, rfl, (Nat.le_of_ble_eq_true rfl), ⟨nh_11.1, nh_11.2, by decide +kernel⟩⟩
theorem mi_X11_canBe : MIV yX11_canBe cX11_canBe 5 (some .int) 11 4 := ⟨cd_X11_canBe, im_X11_canBe, se_X11_canBe, ini_11, rfl, (Nat.le_of_ble_eq_true rfl), ⟨nh_11.1, nh_11.2, by decide +kernel⟩⟩
theorem mi_X11_fits : MIV yX11_fits cX11_fits 3 (some .int) 11 2 := ⟨cd_X11_fits, im_X11_fits, se_X11_fits, ini_11, rfl, (Nat.le_of_ble_eq_true rfl), ⟨nh_11.1, nh_11.2, by decide +kernel⟩⟩
theorem mi_X11_could : MIV yX11_could cX11_could 6 (some .int) 11 5 := ⟨cd_X11_could, im_X11_could, se_X11_could, ini_11, rfl, (Nat.le_of_ble_eq_true rfl), ⟨nh_11.1, nh_11.2, by decide +kernel⟩⟩
theorem mi_X11_since : MIV yX11_since cX11_since 6 (some .int) 11 5 := ⟨cd_X11_since, im_X11_since, se_X11_since, ini_11, rfl, (Nat.le_of_ble_eq_true rfl), ⟨nh_11.1, nh_11.2, by decide +kernel⟩⟩
theorem mi_X11_touched : MIV yX11_touched cX11_touched 6 (some .int) 11 2 := ⟨cd_X11_touched, im_X11_touched, se_X11_touched, ini_11, rfl, (Nat.le_of_ble_eq_true rfl), ⟨nh_11.1, nh_11.2, by decide +kernel⟩⟩
theorem mi_X11_fed : MIV yX11_fed cX11_fed 8 (some .int) 11 6 := ⟨cd_X11_fed, im_X11_fed, se_X11_fed, ini_11, rfl, (Nat.le_of_ble_eq_true rfl), ⟨nh_11.1, nh_11.2, by decide +kernel⟩⟩
theorem mi_X11_word : MIV yX11_word cX11_word 2 (some .int) 11 1 := ⟨cd_X11_word, im_X11_word, se_X11_word, ini_11, rfl, (Nat.le_of_ble_eq_true rfl), ⟨nh_11.1, nh_11.2, by decide +kernel⟩⟩
theorem mi_X11_doubt : MIV yX11_doubt cX11_doubt 2 (some .int) 11 1 := ⟨cd_X11_doubt, im_X11_doubt, se_X11_doubt, ini_11, rfl, (Nat.le_of_ble_eq_true rfl), ⟨nh_11.1, nh_11.2, by decide +kernel⟩⟩
theorem mi_X11_count : MIV yX11_count cX11_count 2 (some .int) 11 1 := ⟨cd_X11_count, im_X11_count, se_X11_count, ini_11, rfl, (Nat.le_of_ble_eq_true rfl), ⟨nh_11.1, nh_11.2, by decide +kernel⟩⟩
theorem mi_X11_isAgent : MIV yX11_isAgent cX11_isAgent 2 (some .boolean) 11 1 := ⟨cd_X11_isAgent, im_X11_isAgent, se_X11_isAgent, ini_11, rfl, (Nat.le_of_ble_eq_true rfl), ⟨nh_11.1, nh_11.2, by decide +kernel⟩⟩
theorem mi_X11_hadAgent : MIV yX11_hadAgent cX11_hadAgent 2 (some .boolean) 11 1 := ⟨cd_X11_hadAgent, im_X11_hadAgent, se_X11_hadAgent, ini_11, rfl, (Nat.le_of_ble_eq_true rfl), ⟨nh_11.1, nh_11.2, by decide +kernel⟩⟩
theorem mi_X11_isSet : MIV yX11_isSet cX11_isSet 2 (some .boolean) 11 1 := ⟨cd_X11_isSet, im_X11_isSet, se_X11_isSet, ini_11, rfl, (Nat.le_of_ble_eq_true rfl), ⟨nh_11.1, nh_11.2, by decide +kernel⟩⟩
theorem mi_X11_isKnowledge : MIV yX11_isKnowledge cX11_isKnowledge 2 (some .boolean) 11 1 := ⟨cd_X11_isKnowledge, im_X11_isKnowledge, se_X11_isKnowledge, ini_11, rfl, (Nat.le_of_ble_eq_true rfl), ⟨nh_11.1, nh_11.2, by decide +kernel⟩⟩
theorem mi_X11_isTick : MIS yX11_isTick cX11_isTick 1 (some .boolean) 1 := ⟨cd_X11_isTick, st_X11_isTick, ini_11, ⟨nh_11.1, nh_11.2, by decide +kernel⟩⟩
theorem mi_X11_isSecret : MIS yX11_isSecret cX11_isSecret 1 (some .boolean) 1 := ⟨cd_X11_isSecret, st_X11_isSecret, ini_11, ⟨nh_11.1, nh_11.2, by decide +kernel⟩⟩
theorem mi_X11_reckonRows : MIV yX11_reckonRows cX11_reckonRows 3 none 11 1 := ⟨cd_X11_reckonRows, im_X11_reckonRows, se_X11_reckonRows, ini_11, rfl, (Nat.le_of_ble_eq_true rfl), ⟨nh_11.1, nh_11.2, by decide +kernel⟩⟩
theorem mi_X11_worstTaken : MIV yX11_worstTaken cX11_worstTaken 7 (some .int) 11 1 := ⟨cd_X11_worstTaken, im_X11_worstTaken, se_X11_worstTaken, ini_11, rfl, (Nat.le_of_ble_eq_true rfl), ⟨nh_11.1, nh_11.2, by decide +kernel⟩⟩
theorem mi_X11_isAhead : MIS yX11_isAhead cX11_isAhead 3 (some .boolean) 2 := ⟨cd_X11_isAhead, st_X11_isAhead, ini_11, ⟨nh_11.1, nh_11.2, by decide +kernel⟩⟩
theorem mi_X12_thrown : MIV yX12_thrown cX12_thrown 1 (some .int) 12 0 := ⟨cd_X12_thrown, im_X12_thrown, se_X12_thrown, ini_12, rfl, (Nat.le_of_ble_eq_true rfl), ⟨nh_12.1, nh_12.2, by decide +kernel⟩⟩
theorem mi_X12_feed : MIV yX12_feed cX12_feed 6 (some .int) 12 5 := ⟨cd_X12_feed, im_X12_feed, se_X12_feed, ini_12, rfl, (Nat.le_of_ble_eq_true rfl), ⟨nh_12.1, nh_12.2, by decide +kernel⟩⟩
theorem mi_X12_put : MIV yX12_put cX12_put 3 none 12 1 := ⟨cd_X12_put, im_X12_put, se_X12_put, ini_12, rfl, (Nat.le_of_ble_eq_true rfl), ⟨nh_12.1, nh_12.2, by decide +kernel⟩⟩
theorem mi_X12_back : MIV yX12_back cX12_back 2 (some .int) 12 1 := ⟨cd_X12_back, im_X12_back, se_X12_back, ini_12, rfl, (Nat.le_of_ble_eq_true rfl), ⟨nh_12.1, nh_12.2, by decide +kernel⟩⟩
theorem mi_X12_at : MIV yX12_at cX12_at 2 (some .int) 12 1 := ⟨cd_X12_at, im_X12_at, se_X12_at, ini_12, rfl, (Nat.le_of_ble_eq_true rfl), ⟨nh_12.1, nh_12.2, by decide +kernel⟩⟩
theorem mi_X12_isDigit : MIS yX12_isDigit cX12_isDigit 1 (some .boolean) 1 := ⟨cd_X12_isDigit, st_X12_isDigit, ini_12, ⟨nh_12.1, nh_12.2, by decide +kernel⟩⟩
theorem mi_X12_isLetter : MIS yX12_isLetter cX12_isLetter 1 (some .boolean) 1 := ⟨cd_X12_isLetter, st_X12_isLetter, ini_12, ⟨nh_12.1, nh_12.2, by decide +kernel⟩⟩
theorem mi_X12_more : MIS yX12_more cX12_more 3 (some .long) 2 := ⟨cd_X12_more, st_X12_more, ini_12, ⟨nh_12.1, nh_12.2, by decide +kernel⟩⟩
theorem mi_X12_word : MIS yX12_word cX12_word 7 (some .long) 7 := ⟨cd_X12_word, st_X12_word, ini_12, ⟨nh_12.1, nh_12.2, by decide +kernel⟩⟩
theorem mi_X12_token : MIV yX12_token cX12_token 6 none 12 4 := ⟨cd_X12_token, im_X12_token, se_X12_token, ini_12, rfl, (Nat.le_of_ble_eq_true rfl), ⟨nh_12.1, nh_12.2, by decide +kernel⟩⟩
theorem mi_X12_cut : MIV yX12_cut cX12_cut 8 none 12 0 := ⟨cd_X12_cut, im_X12_cut, se_X12_cut, ini_12, rfl, (Nat.le_of_ble_eq_true rfl), ⟨nh_12.1, nh_12.2, by decide +kernel⟩⟩
theorem mi_X12_is : MIV yX12_is cX12_is 2 (some .boolean) 12 1 := ⟨cd_X12_is, im_X12_is, se_X12_is, ini_12, rfl, (Nat.le_of_ble_eq_true rfl), ⟨nh_12.1, nh_12.2, by decide +kernel⟩⟩
theorem mi_X12_fail : MIV yX12_fail cX12_fail 2 none 12 1 := ⟨cd_X12_fail, im_X12_fail, se_X12_fail, ini_12, rfl, (Nat.le_of_ble_eq_true rfl), ⟨nh_12.1, nh_12.2, by decide +kernel⟩⟩
theorem mi_X12_wrong : MIV yX12_wrong cX12_wrong 4 none 12 2 := ⟨cd_X12_wrong, im_X12_wrong, se_X12_wrong, ini_12, rfl, (Nat.le_of_ble_eq_true rfl), ⟨nh_12.1, nh_12.2, by decide +kernel⟩⟩
theorem mi_X12_next : MIV yX12_next cX12_next 1 none 12 0 := ⟨cd_X12_next, im_X12_next, se_X12_next, ini_12, rfl, (Nat.le_of_ble_eq_true rfl), ⟨nh_12.1, nh_12.2, by decide +kernel⟩⟩
theorem mi_X12_must : MIV yX12_must cX12_must 2 none 12 1 := ⟨cd_X12_must, im_X12_must, se_X12_must, ini_12, rfl, (Nat.le_of_ble_eq_true rfl), ⟨nh_12.1, nh_12.2, by decide +kernel⟩⟩
theorem mi_X12_read : MIV yX12_read cX12_read 2 (some .int) 12 0 := ⟨cd_X12_read, im_X12_read, se_X12_read, ini_12, rfl, (Nat.le_of_ble_eq_true rfl), ⟨nh_12.1, nh_12.2, by decide +kernel⟩⟩
theorem mi_X12_place : MIV yX12_place cX12_place 1 (some .int) 12 0 := ⟨cd_X12_place, im_X12_place, se_X12_place, ini_12, rfl, (Nat.le_of_ble_eq_true rfl), ⟨nh_12.1, nh_12.2, by decide +kernel⟩⟩
theorem mi_X12_emit : MIV yX12_emit cX12_emit 5 none 12 4 := ⟨cd_X12_emit, im_X12_emit, se_X12_emit, ini_12, rfl, (Nat.le_of_ble_eq_true rfl), ⟨nh_12.1, nh_12.2, by decide +kernel⟩⟩
theorem mi_X12_tellCode : MIV yX12_tellCode cX12_tellCode 4 none 12 0 := ⟨cd_X12_tellCode, im_X12_tellCode, se_X12_tellCode, ini_12, rfl, (Nat.le_of_ble_eq_true rfl), ⟨nh_12.1, nh_12.2, by decide +kernel⟩⟩
theorem mi_X12_number : MIV yX12_number cX12_number 4 (some .int) 12 1 := ⟨cd_X12_number, im_X12_number, se_X12_number, ini_12, rfl, (Nat.le_of_ble_eq_true rfl), ⟨nh_12.1, nh_12.2, by decide +kernel⟩⟩
theorem mi_X12_tellDeed : MIV yX12_tellDeed cX12_tellDeed 6 none 12 0 := ⟨cd_X12_tellDeed, im_X12_tellDeed, se_X12_tellDeed, ini_12, rfl, (Nat.le_of_ble_eq_true rfl), ⟨nh_12.1, nh_12.2, by decide +kernel⟩⟩
theorem mi_X12_opens : MIV yX12_opens cX12_opens 5 none 12 4 := ⟨cd_X12_opens, im_X12_opens, se_X12_opens, ini_12, rfl, (Nat.le_of_ble_eq_true rfl), ⟨nh_12.1, nh_12.2, by decide +kernel⟩⟩
theorem mi_X12_tellPlain : MIV yX12_tellPlain cX12_tellPlain 5 none 12 1 := ⟨cd_X12_tellPlain, im_X12_tellPlain, se_X12_tellPlain, ini_12, rfl, (Nat.le_of_ble_eq_true rfl), ⟨nh_12.1, nh_12.2, by decide +kernel⟩⟩
theorem mi_X12_tellTest : MIV yX12_tellTest cX12_tellTest 5 none 12 0 := ⟨cd_X12_tellTest, im_X12_tellTest, se_X12_tellTest, ini_12, rfl, (Nat.le_of_ble_eq_true rfl), ⟨nh_12.1, nh_12.2, by decide +kernel⟩⟩
theorem mi_X12_turnsElse : MIV yX12_turnsElse cX12_turnsElse 2 none 12 0 := ⟨cd_X12_turnsElse, im_X12_turnsElse, se_X12_turnsElse, ini_12, rfl, (Nat.le_of_ble_eq_true rfl), ⟨nh_12.1, nh_12.2, by decide +kernel⟩⟩
theorem mi_X12_ends : MIV yX12_ends cX12_ends 2 none 12 0 := ⟨cd_X12_ends, im_X12_ends, se_X12_ends, ini_12, rfl, (Nat.le_of_ble_eq_true rfl), ⟨nh_12.1, nh_12.2, by decide +kernel⟩⟩
theorem mi_X12_isSpot : MIV yX12_isSpot cX12_isSpot 2 (some .boolean) 12 1 := ⟨cd_X12_isSpot, im_X12_isSpot, se_X12_isSpot, ini_12, rfl, (Nat.le_of_ble_eq_true rfl), ⟨nh_12.1, nh_12.2, by decide +kernel⟩⟩
theorem mi_X12_isAgent : MIV yX12_isAgent cX12_isAgent 2 (some .boolean) 12 1 := ⟨cd_X12_isAgent, im_X12_isAgent, se_X12_isAgent, ini_12, rfl, (Nat.le_of_ble_eq_true rfl), ⟨nh_12.1, nh_12.2, by decide +kernel⟩⟩
theorem mi_X12_isTick : MIS yX12_isTick cX12_isTick 1 (some .boolean) 1 := ⟨cd_X12_isTick, st_X12_isTick, ini_12, ⟨nh_12.1, nh_12.2, by decide +kernel⟩⟩
theorem mi_X12_spot : MIV yX12_spot cX12_spot 1 (some .int) 12 0 := ⟨cd_X12_spot, im_X12_spot, se_X12_spot, ini_12, rfl, (Nat.le_of_ble_eq_true rfl), ⟨nh_12.1, nh_12.2, by decide +kernel⟩⟩
theorem mi_X12_way : MIV yX12_way cX12_way 4 (some .int) 12 3 := ⟨cd_X12_way, im_X12_way, se_X12_way, ini_12, rfl, (Nat.le_of_ble_eq_true rfl), ⟨nh_12.1, nh_12.2, by decide +kernel⟩⟩
theorem mi_X12_agent : MIV yX12_agent cX12_agent 3 (some .int) 12 2 := ⟨cd_X12_agent, im_X12_agent, se_X12_agent, ini_12, rfl, (Nat.le_of_ble_eq_true rfl), ⟨nh_12.1, nh_12.2, by decide +kernel⟩⟩
theorem mi_X12_give : MIV yX12_give cX12_give 3 (some .boolean) 12 2 := ⟨cd_X12_give, im_X12_give, se_X12_give, ini_12, rfl, (Nat.le_of_ble_eq_true rfl), ⟨nh_12.1, nh_12.2, by decide +kernel⟩⟩
theorem mi_X12_measures : MIV yX12_measures cX12_measures 4 none 12 0 := ⟨cd_X12_measures, im_X12_measures, se_X12_measures, ini_12, rfl, (Nat.le_of_ble_eq_true rfl), ⟨nh_12.1, nh_12.2, by decide +kernel⟩⟩
theorem mi_X12_onward : MIV yX12_onward cX12_onward 4 (some .int) 12 2 := ⟨cd_X12_onward, im_X12_onward, se_X12_onward, ini_12, rfl, (Nat.le_of_ble_eq_true rfl), ⟨nh_12.1, nh_12.2, by decide +kernel⟩⟩
theorem mi_X12_distance : MIV yX12_distance cX12_distance 3 (some .int) 12 2 := ⟨cd_X12_distance, im_X12_distance, se_X12_distance, ini_12, rfl, (Nat.le_of_ble_eq_true rfl), ⟨nh_12.1, nh_12.2, by decide +kernel⟩⟩
theorem mi_X12_fact : MIV yX12_fact cX12_fact 6 (some .int) 12 5 := ⟨cd_X12_fact, im_X12_fact, se_X12_fact, ini_12, rfl, (Nat.le_of_ble_eq_true rfl), ⟨nh_12.1, nh_12.2, by decide +kernel⟩⟩
theorem mi_X12_isKnown : MIV yX12_isKnown cX12_isKnown 2 (some .boolean) 12 1 := ⟨cd_X12_isKnown, im_X12_isKnown, se_X12_isKnown, ini_12, rfl, (Nat.le_of_ble_eq_true rfl), ⟨nh_12.1, nh_12.2, by decide +kernel⟩⟩
theorem mi_X12_isStruck : MIV yX12_isStruck cX12_isStruck 4 (some .boolean) 12 2 := ⟨cd_X12_isStruck, im_X12_isStruck, se_X12_isStruck, ini_12, rfl, (Nat.le_of_ble_eq_true rfl), ⟨nh_12.1, nh_12.2, by decide +kernel⟩⟩
theorem mi_X12_post : MIV yX12_post cX12_post 6 (some .int) 12 4 := ⟨cd_X12_post, im_X12_post, se_X12_post, ini_12, rfl, (Nat.le_of_ble_eq_true rfl), ⟨nh_12.1, nh_12.2, by decide +kernel⟩⟩
theorem mi_X12_sight : MIV yX12_sight cX12_sight 4 (some .int) 12 3 := ⟨cd_X12_sight, im_X12_sight, se_X12_sight, ini_12, rfl, (Nat.le_of_ble_eq_true rfl), ⟨nh_12.1, nh_12.2, by decide +kernel⟩⟩
theorem mi_X12_turned : MIV yX12_turned cX12_turned 3 (some .int) 12 2 := ⟨cd_X12_turned, im_X12_turned, se_X12_turned, ini_12, rfl, (Nat.le_of_ble_eq_true rfl), ⟨nh_12.1, nh_12.2, by decide +kernel⟩⟩
theorem mi_X12_strike : MIV yX12_strike cX12_strike 2 (some .int) 12 1 := ⟨cd_X12_strike, im_X12_strike, se_X12_strike, ini_12, rfl, (Nat.le_of_ble_eq_true rfl), ⟨nh_12.1, nh_12.2, by decide +kernel⟩⟩
theorem mi_X12_struck : MIV yX12_struck cX12_struck 3 (some .int) 12 2 := ⟨cd_X12_struck, im_X12_struck, se_X12_struck, ini_12, rfl, (Nat.le_of_ble_eq_true rfl), ⟨nh_12.1, nh_12.2, by decide +kernel⟩⟩
theorem mi_X12_posts : MIV yX12_posts cX12_posts 4 none 12 1 := ⟨cd_X12_posts, im_X12_posts, se_X12_posts, ini_12, rfl, (Nat.le_of_ble_eq_true rfl), ⟨nh_12.1, nh_12.2, by decide +kernel⟩⟩
theorem mi_X12_pushes : MIV yX12_pushes cX12_pushes 4 none 12 3 := ⟨cd_X12_pushes, im_X12_pushes, se_X12_pushes, ini_12, rfl, (Nat.le_of_ble_eq_true rfl), ⟨nh_12.1, nh_12.2, by decide +kernel⟩⟩
theorem mi_X12_placeNow : MIV yX12_placeNow cX12_placeNow 2 (some .int) 12 1 := ⟨cd_X12_placeNow, im_X12_placeNow, se_X12_placeNow, ini_12, rfl, (Nat.le_of_ble_eq_true rfl), ⟨nh_12.1, nh_12.2, by decide +kernel⟩⟩
theorem mi_X12_learns : MIV yX12_learns cX12_learns 4 none 12 3 := ⟨cd_X12_learns, im_X12_learns, se_X12_learns, ini_12, rfl, (Nat.le_of_ble_eq_true rfl), ⟨nh_12.1, nh_12.2, by decide +kernel⟩⟩
theorem mi_X12_run : MIV yX12_run cX12_run 4 (some .int) 12 1 := ⟨cd_X12_run, im_X12_run, se_X12_run, ini_12, rfl, (Nat.le_of_ble_eq_true rfl), ⟨nh_12.1, nh_12.2, by decide +kernel⟩⟩
theorem mi_X12_tick : MIV yX12_tick cX12_tick 3 none 12 0 := ⟨cd_X12_tick, im_X12_tick, se_X12_tick, ini_12, rfl, (Nat.le_of_ble_eq_true rfl), ⟨nh_12.1, nh_12.2, by decide +kernel⟩⟩
theorem mi_X12_walks : MIV yX12_walks cX12_walks 3 none 12 1 := ⟨cd_X12_walks, im_X12_walks, se_X12_walks, ini_12, rfl, (Nat.le_of_ble_eq_true rfl), ⟨nh_12.1, nh_12.2, by decide +kernel⟩⟩
theorem mi_X12_comesAbout : MIV yX12_comesAbout cX12_comesAbout 3 (some .boolean) 12 2 := ⟨cd_X12_comesAbout, im_X12_comesAbout, se_X12_comesAbout, ini_12, rfl, (Nat.le_of_ble_eq_true rfl), ⟨nh_12.1, nh_12.2, by decide +kernel⟩⟩
theorem mi_X12_turn : MIV yX12_turn cX12_turn 2 none 12 1 := ⟨cd_X12_turn, im_X12_turn, se_X12_turn, ini_12, rfl, (Nat.le_of_ble_eq_true rfl), ⟨nh_12.1, nh_12.2, by decide +kernel⟩⟩
theorem mi_X12_passes : MIV yX12_passes cX12_passes 4 (some .boolean) 12 1 := ⟨cd_X12_passes, im_X12_passes, se_X12_passes, ini_12, rfl, (Nat.le_of_ble_eq_true rfl), ⟨nh_12.1, nh_12.2, by decide +kernel⟩⟩
theorem mi_X12_deed : MIV yX12_deed cX12_deed 6 none 12 1 := ⟨cd_X12_deed, im_X12_deed, se_X12_deed, ini_12, rfl, (Nat.le_of_ble_eq_true rfl), ⟨nh_12.1, nh_12.2, by decide +kernel⟩⟩
theorem mi_X12_tells : MIV yX12_tells cX12_tells 5 none 12 2 := ⟨cd_X12_tells, im_X12_tells, se_X12_tells, ini_12, rfl, (Nat.le_of_ble_eq_true rfl), ⟨nh_12.1, nh_12.2, by decide +kernel⟩⟩
theorem mi_X12_holds : MIV yX12_holds cX12_holds 5 (some .boolean) 12 3 := ⟨cd_X12_holds, im_X12_holds, se_X12_holds, ini_12, rfl, (Nat.le_of_ble_eq_true rfl), ⟨nh_12.1, nh_12.2, by decide +kernel⟩⟩
theorem mi_X12_ran : MIV yX12_ran cX12_ran 2 (some .boolean) 12 1 := ⟨cd_X12_ran, im_X12_ran, se_X12_ran, ini_12, rfl, (Nat.le_of_ble_eq_true rfl), ⟨nh_12.1, nh_12.2, by decide +kernel⟩⟩
theorem mi_X12_where : MIV yX12_where cX12_where 3 (some .int) 12 2 := ⟨cd_X12_where, im_X12_where, se_X12_where, ini_12, rfl, (Nat.le_of_ble_eq_true rfl), ⟨nh_12.1, nh_12.2, by decide +kernel⟩⟩
theorem mi_X12_isSecret : MIS yX12_isSecret cX12_isSecret 1 (some .boolean) 1 := ⟨cd_X12_isSecret, st_X12_isSecret, ini_12, ⟨nh_12.1, nh_12.2, by decide +kernel⟩⟩
theorem mi_X12_knows : MIV yX12_knows cX12_knows 3 (some .int) 12 2 := ⟨cd_X12_knows, im_X12_knows, se_X12_knows, ini_12, rfl, (Nat.le_of_ble_eq_true rfl), ⟨nh_12.1, nh_12.2, by decide +kernel⟩⟩
theorem mi_X12_chain : MIV yX12_chain cX12_chain 6 (some .int) 12 3 := ⟨cd_X12_chain, im_X12_chain, se_X12_chain, ini_12, rfl, (Nat.le_of_ble_eq_true rfl), ⟨nh_12.1, nh_12.2, by decide +kernel⟩⟩
theorem mi_X12_has : MIV yX12_has cX12_has 3 (some .int) 12 2 := ⟨cd_X12_has, im_X12_has, se_X12_has, ini_12, rfl, (Nat.le_of_ble_eq_true rfl), ⟨nh_12.1, nh_12.2, by decide +kernel⟩⟩
theorem mi_X12_left : MIV yX12_left cX12_left 4 (some .int) 12 1 := ⟨cd_X12_left, im_X12_left, se_X12_left, ini_12, rfl, (Nat.le_of_ble_eq_true rfl), ⟨nh_12.1, nh_12.2, by decide +kernel⟩⟩
theorem mi_X12_met : MIV yX12_met cX12_met 3 (some .int) 12 2 := ⟨cd_X12_met, im_X12_met, se_X12_met, ini_12, rfl, (Nat.le_of_ble_eq_true rfl), ⟨nh_12.1, nh_12.2, by decide +kernel⟩⟩
theorem mi_X12_ended : MIV yX12_ended cX12_ended 2 (some .int) 12 1 := ⟨cd_X12_ended, im_X12_ended, se_X12_ended, ini_12, rfl, (Nat.le_of_ble_eq_true rfl), ⟨nh_12.1, nh_12.2, by decide +kernel⟩⟩
theorem mi_X12_deeds : MIV yX12_deeds cX12_deeds 2 (some .int) 12 1 := ⟨cd_X12_deeds, im_X12_deeds, se_X12_deeds, ini_12, rfl, (Nat.le_of_ble_eq_true rfl), ⟨nh_12.1, nh_12.2, by decide +kernel⟩⟩
theorem mi_X12_saws : MIV yX12_saws cX12_saws 1 (some .int) 12 0 := ⟨cd_X12_saws, im_X12_saws, se_X12_saws, ini_12, rfl, (Nat.le_of_ble_eq_true rfl), ⟨nh_12.1, nh_12.2, by decide +kernel⟩⟩
theorem mi_X12_saw : MIV yX12_saw cX12_saw 2 (some .int) 12 1 := ⟨cd_X12_saw, im_X12_saw, se_X12_saw, ini_12, rfl, (Nat.le_of_ble_eq_true rfl), ⟨nh_12.1, nh_12.2, by decide +kernel⟩⟩
theorem mi_X12_bits : MIS yX12_bits cX12_bits 3 (some .int) 1 := ⟨cd_X12_bits, st_X12_bits, ini_12, ⟨nh_12.1, nh_12.2, by decide +kernel⟩⟩
theorem mi_X12_fall : MIV yX12_fall cX12_fall 8 (some .int) 12 1 := ⟨cd_X12_fall, im_X12_fall, se_X12_fall, ini_12, rfl, (Nat.le_of_ble_eq_true rfl), ⟨nh_12.1, nh_12.2, by decide +kernel⟩⟩
theorem mi_X12_falls : MIV yX12_falls cX12_falls 2 (some .int) 12 1 := ⟨cd_X12_falls, im_X12_falls, se_X12_falls, ini_12, rfl, (Nat.le_of_ble_eq_true rfl), ⟨nh_12.1, nh_12.2, by decide +kernel⟩⟩
theorem mi_X12_fallen : MIV yX12_fallen cX12_fallen 3 (some .int) 12 1 := ⟨cd_X12_fallen, im_X12_fallen, se_X12_fallen, ini_12, rfl, (Nat.le_of_ble_eq_true rfl), ⟨nh_12.1, nh_12.2, by decide +kernel⟩⟩
theorem mi_X12_goes : MIV yX12_goes cX12_goes 3 none 12 1 := ⟨cd_X12_goes, im_X12_goes, se_X12_goes, ini_12, rfl, (Nat.le_of_ble_eq_true rfl), ⟨nh_12.1, nh_12.2, by decide +kernel⟩⟩
theorem mi_X12_isFree : MIV yX12_isFree cX12_isFree 5 (some .boolean) 12 3 := ⟨cd_X12_isFree, im_X12_isFree, se_X12_isFree, ini_12, rfl, (Nat.le_of_ble_eq_true rfl), ⟨nh_12.1, nh_12.2, by decide +kernel⟩⟩
theorem mi_X12_goesOne : MIV yX12_goesOne cX12_goesOne 9 none 12 2 := ⟨cd_X12_goesOne, im_X12_goesOne, se_X12_goesOne, ini_12, rfl, (Nat.le_of_ble_eq_true rfl), ⟨nh_12.1, nh_12.2, by decide +kernel⟩⟩
theorem mi_X12_isBetween : MIV yX12_isBetween cX12_isBetween 4 (some .boolean) 12 3 := ⟨cd_X12_isBetween, im_X12_isBetween, se_X12_isBetween, ini_12, rfl, (Nat.le_of_ble_eq_true rfl), ⟨nh_12.1, nh_12.2, by decide +kernel⟩⟩
theorem mi_X12_canBe : MIV yX12_canBe cX12_canBe 5 (some .int) 12 4 := ⟨cd_X12_canBe, im_X12_canBe, se_X12_canBe, ini_12, rfl, (Nat.le_of_ble_eq_true rfl), ⟨nh_12.1, nh_12.2, by decide +kernel⟩⟩
theorem mi_X12_fits : MIV yX12_fits cX12_fits 4 (some .int) 12 2 := ⟨cd_X12_fits, im_X12_fits, se_X12_fits, ini_12, rfl, (Nat.le_of_ble_eq_true rfl), ⟨nh_12.1, nh_12.2, by decide +kernel⟩⟩
theorem mi_X12_spreads : MIV yX12_spreads cX12_spreads 9 none 12 3 := ⟨cd_X12_spreads, im_X12_spreads, se_X12_spreads, ini_12, rfl, (Nat.le_of_ble_eq_true rfl), ⟨nh_12.1, nh_12.2, by decide +kernel⟩⟩
theorem mi_X12_carries : MIV yX12_carries cX12_carries 8 (some .boolean) 12 4 := ⟨cd_X12_carries, im_X12_carries, se_X12_carries, ini_12, rfl, (Nat.le_of_ble_eq_true rfl), ⟨nh_12.1, nh_12.2, by decide +kernel⟩⟩
theorem mi_X12_first : MIV yX12_first cX12_first 5 (some .int) 12 2 := ⟨cd_X12_first, im_X12_first, se_X12_first, ini_12, rfl, (Nat.le_of_ble_eq_true rfl), ⟨nh_12.1, nh_12.2, by decide +kernel⟩⟩
theorem mi_X12_isSet : MIV yX12_isSet cX12_isSet 2 (some .boolean) 12 1 := ⟨cd_X12_isSet, im_X12_isSet, se_X12_isSet, ini_12, rfl, (Nat.le_of_ble_eq_true rfl), ⟨nh_12.1, nh_12.2, by decide +kernel⟩⟩
theorem mi_X12_know : MIV yX12_know cX12_know 6 (some .int) 12 2 := ⟨cd_X12_know, im_X12_know, se_X12_know, ini_12, rfl, (Nat.le_of_ble_eq_true rfl), ⟨nh_12.1, nh_12.2, by decide +kernel⟩⟩
theorem mi_X12_could : MIV yX12_could cX12_could 6 (some .int) 12 5 := ⟨cd_X12_could, im_X12_could, se_X12_could, ini_12, rfl, (Nat.le_of_ble_eq_true rfl), ⟨nh_12.1, nh_12.2, by decide +kernel⟩⟩
theorem mi_X12_since : MIV yX12_since cX12_since 6 (some .int) 12 5 := ⟨cd_X12_since, im_X12_since, se_X12_since, ini_12, rfl, (Nat.le_of_ble_eq_true rfl), ⟨nh_12.1, nh_12.2, by decide +kernel⟩⟩
theorem mi_X12_touched : MIV yX12_touched cX12_touched 7 (some .int) 12 2 := ⟨cd_X12_touched, im_X12_touched, se_X12_touched, ini_12, rfl, (Nat.le_of_ble_eq_true rfl), ⟨nh_12.1, nh_12.2, by decide +kernel⟩⟩
theorem mi_X12_fed : MIV yX12_fed cX12_fed 13 (some .int) 12 6 := ⟨cd_X12_fed, im_X12_fed, se_X12_fed, ini_12, rfl, (Nat.le_of_ble_eq_true rfl), ⟨nh_12.1, nh_12.2, by decide +kernel⟩⟩
theorem mi_X12_worstOf : MIV yX12_worstOf cX12_worstOf 7 (some .int) 12 3 := ⟨cd_X12_worstOf, im_X12_worstOf, se_X12_worstOf, ini_12, rfl, (Nat.le_of_ble_eq_true rfl), ⟨nh_12.1, nh_12.2, by decide +kernel⟩⟩
theorem mi_X12_word_ : MIV yX12_word_ cX12_word_ 2 (some .int) 12 1 := ⟨cd_X12_word_, im_X12_word_, se_X12_word_, ini_12, rfl, (Nat.le_of_ble_eq_true rfl), ⟨nh_12.1, nh_12.2, by decide +kernel⟩⟩
theorem mi_X12_doubt : MIV yX12_doubt cX12_doubt 2 (some .int) 12 1 := ⟨cd_X12_doubt, im_X12_doubt, se_X12_doubt, ini_12, rfl, (Nat.le_of_ble_eq_true rfl), ⟨nh_12.1, nh_12.2, by decide +kernel⟩⟩
theorem mi_X12_count : MIV yX12_count cX12_count 2 (some .int) 12 1 := ⟨cd_X12_count, im_X12_count, se_X12_count, ini_12, rfl, (Nat.le_of_ble_eq_true rfl), ⟨nh_12.1, nh_12.2, by decide +kernel⟩⟩
theorem mi_J6_bitCount_0f7a4 : MIS yJ6_bitCount_0f7a4 cJ6_bitCount_0f7a4 1 (some .int) 1 := ⟨cd_J6_bitCount_0f7a4, st_J6_bitCount_0f7a4, ini_J6, ⟨nh_J6.1, nh_J6.2, by decide +kernel⟩⟩
