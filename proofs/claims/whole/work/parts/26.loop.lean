/-! the loop, from its head -/
theorem g_lawret {w : Wd} {p : Program} {l : Launch} {e : Env} {s : State} {m : MethodId} {b cells slots pc : Nat} {below : List Frame} {meth : Method} {c : Code} {L : List (Option Value)} {σ : St} (C : Cx w p s m #[Value.ref b] c (fun q => s.heap.size ≤ q) code RL 7) (hr : meth.sig.returnType = ret) (hlk : meth.locks = false) (hd : decode code pc = .ok (.ireturn, 1)) (h1 : cells ≤ 601024) (h2 : slots ≤ 7293034) : GL w p l e s m b below meth c cells slots pc L [iv 1] σ := by
  intro ho H locs ls hP hD hS hl
  refine va_forget (fun q hq => hS.2.2 q hq) ?_
  refine W.widen h1 h2 ?_
  exact lw_ret2 C.1 C.2.1 hr hlk hd
set_option maxRecDepth 100000 in
set_option maxHeartbeats 4000000 in
/-- the law's loop, at its head, for a script of N ints of which 7 j are read -/
theorem law_loop {w : Wd} {p : Program} {l : Launch} {e : Env} {s : State} {m : MethodId} {b N : Nat} {below : List Frame} {meth : Method} {c : Code} {xs : Nat → Int32} {Inv : St → Prop} (hPS : PStep Inv) (hSaw : SawRule w l) (htl : ∀ t ∈ lw_tbl, t.before #[Value.ref b] s = true) (hgv : (Jvm.Cond.and given_1 narrow_1).before #[Value.ref b] s = true) (C : Cx w p s m #[Value.ref b] c (fun q => s.heap.size ≤ q) code RL 7) (hX : va_X b N xs s s.heap) (hbl : b < s.heap.size) (hN : N ≤ 3584) (hr : meth.sig.returnType = ret) (hlk : meth.locks = false) :
    ∀ (n j : Nat) (z : Int) (σ : St), z = 7 * j → z ≤ 3591 → (3591 : Int) < z + 7 * n → Inv σ → GL w p l e s m b below meth c (235 + j) (54422 + 64 * j) 23 [some (.ref b), some (rv w 0), some (rv w 170), some (rv w 234), some (iv z), none, none] [] σ := by
  have hbA : ¬ (fun q : Nat => s.heap.size ≤ q) b := Nat.not_le.mpr hbl
  intro n
  induction n with
  | zero => intro j z σ h1 h2 h3; omega
  | succ n ih =>
    intro j z σ h1 h2 h3 hI
    have iz : InI z := ⟨by omega, by omega⟩
    have e7 : wr ((N : Int) - 7) = (N : Int) - 7 := wr_id ⟨by omega, by omega⟩
    refine g_iload C dL_law_23 rfl ?_
    refine g_aload_nV C dL_law_25 rfl ?_
    refine g_slen C dL_law_26 hX hbl hbA ?_
    refine g_bipush C dL_law_27 rfl ?_
    refine g_isub C dL_law_29 ?_
    refine g_E e7 ?_
    refine g_icmp_gt C dL_law_30 iz ⟨by omega, by omega⟩ rfl (tgt := 1619) (fun c1 => ?_) (fun c1 => ?_)
    · refine g_iconst C dL_law_1619 ?_
      exact g_lawret C hr hlk dL_law_1620 (by omega) (by omega)
    · have hz : 0 ≤ z ∧ z + 7 ≤ (N : Int) := ⟨by omega, by omega⟩
      have hj : j ≤ 513 := by omega
      have back : ∀ σ2, Inv σ2 → GL w p l e s m b below meth c (235 + (j + 1)) (54422 + 64 * (j + 1)) 1613 [some (.ref b), some (rv w 0), some (rv w 170), some (rv w 234), some (iv z), none, none] [] σ2 := by
        intro σ2 hI2
        have e8 : wr (z + 7) = z + 7 := wr_id ⟨by omega, by omega⟩
        refine g_iinc (L1 := [some (.ref b), some (rv w 0), some (rv w 170), some (rv w 234), some (iv (wr (z + 7))), none, none]) C dL_law_1613 rfl rfl (Nat.le_of_ble_eq_true rfl) rfl ?_
        refine g_goto C dL_law_1616 rfl (tgt := 23) ?_
        exact ih (j + 1) (wr (z + 7)) σ2 (by rw [e8]; omega) (by rw [e8]; omega) (by rw [e8]; omega) hI2
      refine g_aload_nV C dL_law_33 rfl ?_
      refine g_iload C dL_law_34 rfl ?_
      refine g_sld C dL_law_36 hX hbl hbA iz ⟨by omega, by omega⟩ ?_
      refine g_bipush C dL_law_37 rfl ?_
      refine g_iand C dL_law_39 ?_
      generalize hv : andI (sv xs z) 63 = v
      have iv9 : InI v := by rw [← hv]; exact iand _ _
      by_cases e0 : v = 0
      · refine g_tabI C dL_law_40 iv9 (by rw [e0]; decide) (by rw [e0]; decide) (by rw [e0] <;> rfl) rfl (tgt := 200) ?_
        exact lc_feed hPS.1 C hX hbl hz hN hj hI back
      by_cases e1 : v = 1
      · refine g_tabI C dL_law_40 iv9 (by rw [e1]; decide) (by rw [e1]; decide) (by rw [e1] <;> rfl) rfl (tgt := 273) ?_
        exact lc_back hPS.2.1 C hX hbl hz hN hj hI back
      by_cases e2 : v = 2
      · refine g_tabI C dL_law_40 iv9 (by rw [e2]; decide) (by rw [e2]; decide) (by rw [e2] <;> rfl) rfl (tgt := 298) ?_
        exact lc_read hPS.2.2.1 C hX hbl hz hN hj hI back
      by_cases e3 : v = 3
      · refine g_tabI C dL_law_40 iv9 (by rw [e3]; decide) (by rw [e3]; decide) (by rw [e3] <;> rfl) rfl (tgt := 311) ?_
        exact lc_place hPS.2.2.2.1 C hX hbl hz hN hj hI back
      by_cases e4 : v = 4
      · refine g_tabI C dL_law_40 iv9 (by rw [e4]; decide) (by rw [e4]; decide) (by rw [e4] <;> rfl) rfl (tgt := 324) ?_
        exact lc_spot hPS.2.2.2.2.1 C hX hbl hz hN hj hI back
      by_cases e5 : v = 5
      · refine g_tabI C dL_law_40 iv9 (by rw [e5]; decide) (by rw [e5]; decide) (by rw [e5] <;> rfl) rfl (tgt := 337) ?_
        exact lc_way hPS.2.2.2.2.2.1 C hX hbl hz hN hj hI back
      by_cases e6 : v = 6
      · refine g_tabI C dL_law_40 iv9 (by rw [e6]; decide) (by rw [e6]; decide) (by rw [e6] <;> rfl) rfl (tgt := 386) ?_
        exact lc_agent hPS.2.2.2.2.2.2.1 C hX hbl hz hN hj hI back
      by_cases e7 : v = 7
      · refine g_tabI C dL_law_40 iv9 (by rw [e7]; decide) (by rw [e7]; decide) (by rw [e7] <;> rfl) rfl (tgt := 423) ?_
        exact lc_give hPS.2.2.2.2.2.2.2.1 C hX hbl hz hN hj hI back
      by_cases e8 : v = 8
      · refine g_tabI C dL_law_40 iv9 (by rw [e8]; decide) (by rw [e8]; decide) (by rw [e8] <;> rfl) rfl (tgt := 460) ?_
        exact lc_post hPS.2.2.2.2.2.2.2.2.1 C hX hbl hz hN hj hI back
      by_cases e9 : v = 9
      · refine g_tabI C dL_law_40 iv9 (by rw [e9]; decide) (by rw [e9]; decide) (by rw [e9] <;> rfl) rfl (tgt := 521) ?_
        exact lc_sight hPS.2.2.2.2.2.2.2.2.2.1 C hX hbl hz hN hj hI back
      by_cases e10 : v = 10
      · refine g_tabI C dL_law_40 iv9 (by rw [e10]; decide) (by rw [e10]; decide) (by rw [e10] <;> rfl) rfl (tgt := 570) ?_
        exact lc_turned hPS.2.2.2.2.2.2.2.2.2.2.1 C hX hbl hz hN hj hI back
      by_cases e11 : v = 11
      · refine g_tabI C dL_law_40 iv9 (by rw [e11]; decide) (by rw [e11]; decide) (by rw [e11] <;> rfl) rfl (tgt := 607) ?_
        exact lc_strike hPS.2.2.2.2.2.2.2.2.2.2.2.1 C hX hbl hz hN hj hI back
      by_cases e12 : v = 12
      · refine g_tabI C dL_law_40 iv9 (by rw [e12]; decide) (by rw [e12]; decide) (by rw [e12] <;> rfl) rfl (tgt := 632) ?_
        exact lc_distance hPS.2.2.2.2.2.2.2.2.2.2.2.2.1 C hX hbl hz hN hj hI back
      by_cases e13 : v = 13
      · refine g_tabI C dL_law_40 iv9 (by rw [e13]; decide) (by rw [e13]; decide) (by rw [e13] <;> rfl) rfl (tgt := 669) ?_
        exact lc_run hPS.2.2.2.2.2.2.2.2.2.2.2.2.2.1 C hX hbl hz hN hj hI back
      by_cases e14 : v = 14
      · refine g_tabI C dL_law_40 iv9 (by rw [e14]; decide) (by rw [e14]; decide) (by rw [e14] <;> rfl) rfl (tgt := 694) ?_
        exact lc_where hPS.2.2.2.2.2.2.2.2.2.2.2.2.2.2.1 C hX hbl hz hN hj hI back
      by_cases e15 : v = 15
      · refine g_tabI C dL_law_40 iv9 (by rw [e15]; decide) (by rw [e15]; decide) (by rw [e15] <;> rfl) rfl (tgt := 731) ?_
        exact lc_knows hPS.2.2.2.2.2.2.2.2.2.2.2.2.2.2.2.1 C hX hbl hz hN hj hI back
      by_cases e16 : v = 16
      · refine g_tabI C dL_law_40 iv9 (by rw [e16]; decide) (by rw [e16]; decide) (by rw [e16] <;> rfl) rfl (tgt := 768) ?_
        exact lc_chain hPS.2.2.2.2.2.2.2.2.2.2.2.2.2.2.2.2.1 C hX hbl hz hN hj hI back
      by_cases e17 : v = 17
      · refine g_tabI C dL_law_40 iv9 (by rw [e17]; decide) (by rw [e17]; decide) (by rw [e17] <;> rfl) rfl (tgt := 817) ?_
        exact lc_has hPS.2.2.2.2.2.2.2.2.2.2.2.2.2.2.2.2.2.1 C hX hbl hz hN hj hI back
      by_cases e18 : v = 18
      · refine g_tabI C dL_law_40 iv9 (by rw [e18]; decide) (by rw [e18]; decide) (by rw [e18] <;> rfl) rfl (tgt := 854) ?_
        exact lc_left hPS.2.2.2.2.2.2.2.2.2.2.2.2.2.2.2.2.2.2.1 C hX hbl hz hN hj hI back
      by_cases e19 : v = 19
      · refine g_tabI C dL_law_40 iv9 (by rw [e19]; decide) (by rw [e19]; decide) (by rw [e19] <;> rfl) rfl (tgt := 879) ?_
        exact lc_met hPS.2.2.2.2.2.2.2.2.2.2.2.2.2.2.2.2.2.2.2.1 C hX hbl hz hN hj hI back
      by_cases e20 : v = 20
      · refine g_tabI C dL_law_40 iv9 (by rw [e20]; decide) (by rw [e20]; decide) (by rw [e20] <;> rfl) rfl (tgt := 916) ?_
        exact lc_ended hPS.2.2.2.2.2.2.2.2.2.2.2.2.2.2.2.2.2.2.2.2.1 C hX hbl hz hN hj hI back
      by_cases e21 : v = 21
      · refine g_tabI C dL_law_40 iv9 (by rw [e21]; decide) (by rw [e21]; decide) (by rw [e21] <;> rfl) rfl (tgt := 941) ?_
        exact lc_deeds hPS.2.2.2.2.2.2.2.2.2.2.2.2.2.2.2.2.2.2.2.2.2.1 C hX hbl hz hN hj hI back
      by_cases e22 : v = 22
      · refine g_tabI C dL_law_40 iv9 (by rw [e22]; decide) (by rw [e22]; decide) (by rw [e22] <;> rfl) rfl (tgt := 966) ?_
        exact lc_saws hPS.2.2.2.2.2.2.2.2.2.2.2.2.2.2.2.2.2.2.2.2.2.2.1 C hX hbl hz hN hj hI back
      by_cases e23 : v = 23
      · refine g_tabI C dL_law_40 iv9 (by rw [e23]; decide) (by rw [e23]; decide) (by rw [e23] <;> rfl) rfl (tgt := 979) ?_
        exact lc_saw hPS.2.2.2.2.2.2.2.2.2.2.2.2.2.2.2.2.2.2.2.2.2.2.2.1 hSaw htl hgv hlk C hX hbl hz hN hj hI back
      by_cases e24 : v = 24
      · refine g_tabI C dL_law_40 iv9 (by rw [e24]; decide) (by rw [e24]; decide) (by rw [e24] <;> rfl) rfl (tgt := 1035) ?_
        exact lc_falls hPS.2.2.2.2.2.2.2.2.2.2.2.2.2.2.2.2.2.2.2.2.2.2.2.2.1 C hX hbl hz hN hj hI back
      by_cases e25 : v = 25
      · refine g_tabI C dL_law_40 iv9 (by rw [e25]; decide) (by rw [e25]; decide) (by rw [e25] <;> rfl) rfl (tgt := 1060) ?_
        exact lc_fallen hPS.2.2.2.2.2.2.2.2.2.2.2.2.2.2.2.2.2.2.2.2.2.2.2.2.2.1 C hX hbl hz hN hj hI back
      by_cases e26 : v = 26
      · refine g_tabI C dL_law_40 iv9 (by rw [e26]; decide) (by rw [e26]; decide) (by rw [e26] <;> rfl) rfl (tgt := 1085) ?_
        exact lc_struck hPS.2.2.2.2.2.2.2.2.2.2.2.2.2.2.2.2.2.2.2.2.2.2.2.2.2.2.1 C hX hbl hz hN hj hI back
      by_cases e27 : v = 27
      · refine g_tabI C dL_law_40 iv9 (by rw [e27]; decide) (by rw [e27]; decide) (by rw [e27] <;> rfl) rfl (tgt := 1122) ?_
        exact lc_canBe hPS.2.2.2.2.2.2.2.2.2.2.2.2.2.2.2.2.2.2.2.2.2.2.2.2.2.2.2.1 C hX hbl hz hN hj hI back
      by_cases e28 : v = 28
      · refine g_tabI C dL_law_40 iv9 (by rw [e28]; decide) (by rw [e28]; decide) (by rw [e28] <;> rfl) rfl (tgt := 1183) ?_
        exact lc_fits hPS.2.2.2.2.2.2.2.2.2.2.2.2.2.2.2.2.2.2.2.2.2.2.2.2.2.2.2.2.1 C hX hbl hz hN hj hI back
      by_cases e29 : v = 29
      · refine g_tabI C dL_law_40 iv9 (by rw [e29]; decide) (by rw [e29]; decide) (by rw [e29] <;> rfl) rfl (tgt := 1220) ?_
        exact lc_could hPS.2.2.2.2.2.2.2.2.2.2.2.2.2.2.2.2.2.2.2.2.2.2.2.2.2.2.2.2.2.1 C hX hbl hz hN hj hI back
      by_cases e30 : v = 30
      · refine g_tabI C dL_law_40 iv9 (by rw [e30]; decide) (by rw [e30]; decide) (by rw [e30] <;> rfl) rfl (tgt := 1309) ?_
        exact lc_since hPS.2.2.2.2.2.2.2.2.2.2.2.2.2.2.2.2.2.2.2.2.2.2.2.2.2.2.2.2.2.2.1 C hX hbl hz hN hj hI back
      by_cases e31 : v = 31
      · refine g_tabI C dL_law_40 iv9 (by rw [e31]; decide) (by rw [e31]; decide) (by rw [e31] <;> rfl) rfl (tgt := 1398) ?_
        exact lc_touched hPS.2.2.2.2.2.2.2.2.2.2.2.2.2.2.2.2.2.2.2.2.2.2.2.2.2.2.2.2.2.2.2.1 C hX hbl hz hN hj hI back
      by_cases e32 : v = 32
      · refine g_tabI C dL_law_40 iv9 (by rw [e32]; decide) (by rw [e32]; decide) (by rw [e32] <;> rfl) rfl (tgt := 1435) ?_
        exact lc_fed hPS.2.2.2.2.2.2.2.2.2.2.2.2.2.2.2.2.2.2.2.2.2.2.2.2.2.2.2.2.2.2.2.2.1 C hX hbl hz hN hj hI back
      by_cases e33 : v = 33
      · refine g_tabI C dL_law_40 iv9 (by rw [e33]; decide) (by rw [e33]; decide) (by rw [e33] <;> rfl) rfl (tgt := 1538) ?_
        exact lc_word hPS.2.2.2.2.2.2.2.2.2.2.2.2.2.2.2.2.2.2.2.2.2.2.2.2.2.2.2.2.2.2.2.2.2.1 C hX hbl hz hN hj hI back
      by_cases e34 : v = 34
      · refine g_tabI C dL_law_40 iv9 (by rw [e34]; decide) (by rw [e34]; decide) (by rw [e34] <;> rfl) rfl (tgt := 1563) ?_
        exact lc_doubt hPS.2.2.2.2.2.2.2.2.2.2.2.2.2.2.2.2.2.2.2.2.2.2.2.2.2.2.2.2.2.2.2.2.2.2.1 C hX hbl hz hN hj hI back
      by_cases e35 : v = 35
      · refine g_tabI C dL_law_40 iv9 (by rw [e35]; decide) (by rw [e35]; decide) (by rw [e35] <;> rfl) rfl (tgt := 1588) ?_
        exact lc_count hPS.2.2.2.2.2.2.2.2.2.2.2.2.2.2.2.2.2.2.2.2.2.2.2.2.2.2.2.2.2.2.2.2.2.2.2 C hX hbl hz hN hj hI back
      refine g_tabO C dL_law_40 iv9 (by omega) rfl (tgt := 1613) ?_
      exact g_widen (by omega) (by omega) (back σ hI)
