/-! the tests, kind by kind -/
theorem th_8 {τ : St} {a : Nat} {x : Int} : m_X8_testHolds (39 + 7 * a) 8 x τ = (m_X0_hasPaper (39 + 7 * a) x τ).bind fun x2 => some x2 := by
  rw [m_X8_testHolds, if_pos (show ((8 : Int) = 8) from rfl)]
theorem th_10 {τ : St} {a : Nat} {x : Int} : m_X8_testHolds (39 + 7 * a) 10 x τ = (m_X0_knowsSecret (39 + 7 * a) x τ).bind fun x4 => some x4 := by
  rw [m_X8_testHolds, if_neg (show ¬ ((10 : Int) = 8) by decide), if_pos (show ((10 : Int) = 10) from rfl)]
theorem th_14 {τ : St} {a : Nat} {x : Int} : m_X8_testHolds (39 + 7 * a) 14 x τ = (m_X10_hasSpot (τ (39 + 7 * a) 9) τ).bind fun x7 => (if x7 = 0 then some 0 else (rd τ 130 10 (τ (39 + 7 * a) 9)).bind fun x10 => (if andI (shrI x10 x) 1 = 0 then some 0 else some 1)) := by
  rw [m_X8_testHolds, if_neg (show ¬ ((14 : Int) = 8) by decide), if_neg (show ¬ ((14 : Int) = 10) by decide), if_pos (show ((14 : Int) = 14) from rfl)]
theorem th_17 {τ : St} {a : Nat} {x : Int} : m_X8_testHolds (39 + 7 * a) 17 x τ = (m_X8_paperLies (τ (39 + 7 * a) 9) x τ).bind fun x14 => some x14 := by
  rw [m_X8_testHolds, if_neg (show ¬ ((17 : Int) = 8) by decide), if_neg (show ¬ ((17 : Int) = 10) by decide), if_neg (show ¬ ((17 : Int) = 14) by decide), if_pos (show ((17 : Int) = 17) from rfl)]
theorem th_22 {τ : St} {a : Nat} {x : Int} : m_X8_testHolds (39 + 7 * a) 22 x τ = (m_X1_isWatched (τ 129 12) (τ (39 + 7 * a) 9) τ).bind fun x18 => some x18 := by
  rw [m_X8_testHolds, if_neg (show ¬ ((22 : Int) = 8) by decide), if_neg (show ¬ ((22 : Int) = 10) by decide), if_neg (show ¬ ((22 : Int) = 14) by decide), if_neg (show ¬ ((22 : Int) = 17) by decide), if_pos (show ((22 : Int) = 22) from rfl)]
theorem th_24 {τ : St} {a : Nat} {x : Int} : m_X8_testHolds (39 + 7 * a) 24 x τ = (m_X8_placeOf x τ).bind fun x20 => (if x20 = τ (39 + 7 * a) 9 then some 1 else some 0) := by
  rw [m_X8_testHolds, if_neg (show ¬ ((24 : Int) = 8) by decide), if_neg (show ¬ ((24 : Int) = 10) by decide), if_neg (show ¬ ((24 : Int) = 14) by decide), if_neg (show ¬ ((24 : Int) = 17) by decide), if_neg (show ¬ ((24 : Int) = 22) by decide), if_pos (show ((24 : Int) = 24) from rfl)]
theorem th_11 {τ : St} {a : Nat} {x : Int} : m_X8_testHolds (39 + 7 * a) 11 x τ = (if τ 129 12 < x then some 0 else some 1) := by
  rw [m_X8_testHolds, if_neg (show ¬ ((11 : Int) = 8) by decide), if_neg (show ¬ ((11 : Int) = 10) by decide), if_neg (show ¬ ((11 : Int) = 14) by decide), if_neg (show ¬ ((11 : Int) = 17) by decide), if_neg (show ¬ ((11 : Int) = 22) by decide), if_neg (show ¬ ((11 : Int) = 24) by decide)]
theorem mh_0 {τ : St} {a : Nat} {x s : Int} (ha : a < 8) (h : τ 213 a = s) : m_X12_holds (a : Int) 0 x τ = (rd τ 205 10 s).bind fun x3 => (if andI (shrI x3 x) 1 = 1 then some 1 else some 0) := by
  rw [m_X12_holds, rd_ok (by omega) (by omega), bnd_s, Int.toNat_natCast, h, if_pos (show ((0 : Int) = 0) from rfl)]
theorem mh_1 {τ : St} {a : Nat} {x s : Int} (ha : a < 8) (h : τ 213 a = s) : m_X12_holds (a : Int) 1 x τ = (rd τ 206 80 (wr (wr (8 * s) + x))).bind fun x6 => (if x6 = (-1) then some 0 else some 1) := by
  rw [m_X12_holds, rd_ok (by omega) (by omega), bnd_s, Int.toNat_natCast, h, if_neg (show ¬ ((1 : Int) = 0) by decide), if_pos (show ((1 : Int) = 1) from rfl)]
theorem mh_2 {τ : St} {a : Nat} {x s : Int} (ha : a < 8) (h : τ 213 a = s) : m_X12_holds (a : Int) 2 x τ = (rd τ 202 64 (wr (wr (8 * (a : Int)) + x))).bind fun x9 => (if x9 = (-1) then some 0 else some 1) := by
  rw [m_X12_holds, rd_ok (by omega) (by omega), bnd_s, Int.toNat_natCast, h, if_neg (show ¬ ((2 : Int) = 0) by decide), if_neg (show ¬ ((2 : Int) = 1) by decide), if_pos (show ((2 : Int) = 2) from rfl)]
theorem mh_3 {τ : St} {a : Nat} {x s : Int} (ha : a < 8) (h : τ 213 a = s) : m_X12_holds (a : Int) 3 x τ = (rd τ 204 8 (a : Int)).bind fun x12 => (if andI (shrI x12 x) 1 = 1 then some 1 else some 0) := by
  rw [m_X12_holds, rd_ok (by omega) (by omega), bnd_s, Int.toNat_natCast, h, if_neg (show ¬ ((3 : Int) = 0) by decide), if_neg (show ¬ ((3 : Int) = 1) by decide), if_neg (show ¬ ((3 : Int) = 2) by decide), if_pos (show ((3 : Int) = 3) from rfl)]
theorem mh_4 {τ : St} {a : Nat} {x s : Int} (ha : a < 8) (h : τ 213 a = s) : m_X12_holds (a : Int) 4 x τ = (if τ 170 35 ≤ x then some 0 else (m_X12_placeNow x τ).bind fun x17 => (m_X12_placeNow (a : Int) τ).bind fun x18 => (if x17 = x18 then some 1 else some 0)) := by
  rw [m_X12_holds, rd_ok (by omega) (by omega), bnd_s, Int.toNat_natCast, h, if_neg (show ¬ ((4 : Int) = 0) by decide), if_neg (show ¬ ((4 : Int) = 1) by decide), if_neg (show ¬ ((4 : Int) = 2) by decide), if_neg (show ¬ ((4 : Int) = 3) by decide), if_pos (show ((4 : Int) = 4) from rfl)]
theorem mh_5 {τ : St} {a : Nat} {x s : Int} (ha : a < 8) (h : τ 213 a = s) : m_X12_holds (a : Int) 5 x τ = (if τ 170 71 < x then some 0 else some 1) := by
  rw [m_X12_holds, rd_ok (by omega) (by omega), bnd_s, Int.toNat_natCast, h, if_neg (show ¬ ((5 : Int) = 0) by decide), if_neg (show ¬ ((5 : Int) = 1) by decide), if_neg (show ¬ ((5 : Int) = 2) by decide), if_neg (show ¬ ((5 : Int) = 3) by decide), if_neg (show ¬ ((5 : Int) = 4) by decide), if_pos (show ((5 : Int) = 5) from rfl)]
theorem mh_6 {τ : St} {a : Nat} {x s : Int} (ha : a < 8) (h : τ 213 a = s) : m_X12_holds (a : Int) 6 x τ = (rd τ 200 960 (wr (wr (96 * s) + τ 170 71))).bind fun x24 => some x24 := by
  rw [m_X12_holds, rd_ok (by omega) (by omega), bnd_s, Int.toNat_natCast, h, if_neg (show ¬ ((6 : Int) = 0) by decide), if_neg (show ¬ ((6 : Int) = 1) by decide), if_neg (show ¬ ((6 : Int) = 2) by decide), if_neg (show ¬ ((6 : Int) = 3) by decide), if_neg (show ¬ ((6 : Int) = 4) by decide), if_neg (show ¬ ((6 : Int) = 5) by decide)]
