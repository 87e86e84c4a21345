/-! falls, fallen: the calls -/
theorem run_met {σ : St} (hI : Inv σ) (h : ¬ σ 129 0 = 0) : ∃ r, MetQ σ r := by
  obtain ⟨k1, k2, k3, k4, k5, k6, k7, k8, k9, k10, k11⟩ := hI
  have a0 := k6.1
  rcases k10 with ⟨r1, r2, r3⟩ | ⟨⟨r1, r2, r3, r4⟩, r5, -⟩
  · exact absurd r1 h
  · obtain ⟨r, hr⟩ := Int.eq_ofNat_of_zero_le r3
    refine ⟨r, by omega, hr, by omega, ?_⟩
    intro a b ha hb
    exact (r5 a (by omega) (by omega)).2.2.2.2 b (by omega) (by omega)
theorem inv_73 {σ τ : St} (hI : Inv σ) (h : Wr ([], [(170, 73)]) σ τ) : Inv τ := by
  refine inv_step (L := ([], [(170, 73)])) hI ?_ (Or.inl (by decide +kernel)) (Or.inl (by decide +kernel)) (Or.inl (by decide +kernel)) (Or.inl (by decide +kernel)) (Or.inl (by decide +kernel)) (Or.inl (by decide +kernel)) (Or.inl (by decide +kernel)) (Or.inl (by decide +kernel)) (Or.inl (by decide +kernel)) (Or.inl (by decide +kernel)) (Or.inl (by decide +kernel))
  exact h
theorem popc_nat {n : Nat} : popc (n : Int) = cnt (fun i => n.testBit i) 8 := by
  unfold popc
  apply cnt_cg
  intro i hi
  rw [tb_nat _ _ (by omega)]
theorem popc_full : ∀ r : Fin 9, cnt (fun i => (2 ^ r.val - 1).testBit i) 8 = r.val := by decide +kernel
set_option maxRecDepth 100000 in
theorem popc_only : ∀ r : Fin 9, ∀ n : Fin 256, n.val < 2 ^ r.val → cnt (fun i => n.val.testBit i) 8 = r.val → n.val = 2 ^ r.val - 1 := by decide +kernel
theorem pow_pos8 : ∀ r : Fin 9, 1 ≤ 2 ^ r.val ∧ 2 ^ r.val ≤ 256 := by decide
theorem pow_le8 : ∀ r : Fin 9, ∀ k : Fin 9, k.val ≤ r.val → 2 ^ k.val ≤ 2 ^ r.val := by decide
/-- what the class and the model come to -/
theorem Fs_end {σ : St} {r k : Nat} (hr : r ≤ 8) (hk : k ≤ r) : ∃ i : Nat, i < 2 ^ r ∧ popc (i : Int) = k ∧ Fs σ r k (2 ^ r) = ((i : Int), (pcG σ r i : Int)) := by
  rcases Fs_inv (σ := σ) (r := r) (k := k) (2 ^ r) with ⟨h1, h2⟩ | h
  · exfalso
    have p1 := pow_pos8 ⟨k, by omega⟩
    have p2 := pow_le8 ⟨r, by omega⟩ ⟨k, by omega⟩ hk
    simp only at p1 p2
    have := h2 (2 ^ k - 1) (by omega)
    apply this
    rw [popc_nat]
    exact popc_full ⟨k, by omega⟩
  · exact h
theorem Bs_full {r : Nat} (hr : r ≤ 8) : Bs ((2 ^ r - 1 : Nat) : Int) (fun s => s < r) := by
  have h := Bs_all (n := r) (by omega)
  rw [allS ⟨r, by omega⟩] at h
  exact h
theorem pcG_full {σ : St} {r : Nat} (hr : r ≤ 8) : pcG σ r ((2 ^ r - 1 : Nat) : Int) = r := by
  have hb := Bs_full hr
  have h1 : pcP (Gn σ r ((2 ^ r - 1 : Nat) : Int)) = popc ((2 ^ r - 1 : Nat) : Int) := by
    symm
    apply popc_P
    refine Bs_cg hb ?_
    intro s
    constructor
    · intro q; exact Or.inl ((hb.2 s).mpr q)
    · rintro (q | ⟨q, -⟩)
      · exact (hb.2 s).mp q
      · exact q
  unfold pcG
  rw [h1, popc_nat]
  exact popc_full ⟨r, by omega⟩
theorem wt_class {σ : St} {r : Nat} {k : Int} (hM : MetQ σ r) (hk : 1 ≤ k) : ∃ i : Nat, m_X11_worstTaken k σ = some (i : Int) ∧ i < 2 ^ r ∧ Fs σ r (min k.toNat r) (2 ^ r) = ((i : Int), (pcG σ r i : Int)) ∧ popc (i : Int) = min k.toNat r := by
  have hr := hM.1
  have h1 := hM.2.1
  have hmin : minI k (σ 129 1) = ((min k.toNat r : Nat) : Int) := by rw [h1]; unfold minI; split <;> omega
  obtain ⟨i, i1, i2, i3⟩ := Fs_end (σ := σ) (r := r) (k := min k.toNat r) hr (by omega)
  obtain ⟨w, w1, w2⟩ := worst_sp (k := min k.toNat r) hM (by omega)
  refine ⟨i, ?_, i1, i3, i2⟩
  rw [m_X11_worstTaken, hmin]
  simp only [vl]
  rw [bnd_s, w1, bnd_s, w2, i3]
theorem fall_sp {σ : St} {r : Nat} {k : Int} (hM : MetQ σ r) (hk : 1 ≤ k) {i : Nat} (hi : i < 2 ^ r) (hF : Fs σ r (min k.toNat r) (2 ^ r) = ((i : Int), (pcG σ r i : Int))) (hp : popc (i : Int) = min k.toNat r) : Hp (m_X12_fall k σ) (fun q => q.1 = (pcG σ r i : Int) ∧ q.2 170 73 = (i : Int) ∧ Wr ([], [(170, 73)]) σ q.2) := by
  have hr := hM.1
  have h2 := hM.2.2.1
  have p1 := pow_pos8 ⟨r, by omega⟩
  simp only at p1
  have hall : wr (shlI 1 (σ 170 48) - 1) = ((2 ^ r : Nat) : Int) - 1 := by
    rw [h2, shl1 ⟨r, by omega⟩]
    generalize 2 ^ r = N at p1
    exact wr_id' (by omega) (by omega)
  rw [m_X12_fall, hall]
  simp only [vl]
  rw [bnd_s]
  by_cases hc : k < σ 170 48
  · have hk2 : min k.toNat r = k.toNat := by omega
    rw [hk2] at hF
    rw [if_pos hc, Hp_bind, show k = ((k.toNat : Nat) : Int) by omega]
    refine Hp_mono (m_fall_sp (k := k.toNat) hr h2) ?_
    rintro ⟨m, τ⟩ ⟨q1, q2, q3⟩
    rw [Hp_some]
    rw [hF] at q1 q3
    simp only at q1 q2 q3
    exact ⟨q1, q3 (by omega), q2⟩
  · have hk2 : min k.toNat r = r := by omega
    rw [hk2] at hp
    have hi' : i = 2 ^ r - 1 := by
      rw [popc_nat] at hp
      exact popc_only ⟨r, by omega⟩ ⟨i, by omega⟩ hi hp
    rw [if_neg hc, pt_s, bnd_s, Hp_some]
    refine ⟨?_, ?_, Wr_up Wr_rf rfl⟩
    · simp only
      rw [up_slot (by decide), h2, hi', pcG_full hr]
    · simp only
      rw [up_eq, hi']
      generalize 2 ^ r = N at p1
      omega
theorem c_falls : PS_falls Inv := by
  intro σ a1 hok hI h1
  apply pq_of
  have hq := inv_thr (x := 0) hI
  have hrun : (σ 129 0 = 0 ↔ σ 170 48 = -1) := by
    have hI2 := hI
    obtain ⟨k1, k2, k3, k4, k5, k6, k7, k8, k9, k10, k11⟩ := hI2
    rcases k10 with ⟨r1, r2, r3⟩ | ⟨⟨r1, r2, r3, r4⟩, -⟩
    · exact ⟨fun _ => r3, fun _ => r1⟩
    · constructor <;> intro q <;> omega
  simp only [m_X11_falls, m_X12_falls, Hp_bind, Hp_pt]
  simp (disch := decide) only [up_eq, up_cell, up_slot, Int.toNat_natCast, true_and, and_true, eq_self]
  by_cases h0 : σ 129 0 = 0
  · rw [if_pos h0, Hp_some, if_pos (hrun.mp h0), Hp_some]; exact ⟨rfl, hq⟩
  · have h0' : ¬ σ 170 48 = -1 := fun q => h0 (hrun.mpr q)
    simp only [if_neg h0, if_neg h0']
    by_cases c1 : a1 < 1
    · rw [if_pos c1, Hp_some, if_pos c1, Hp_some]; exact ⟨rfl, hq⟩
    · simp only [if_neg c1]
      by_cases c2 : a1 ≤ 3
      · rw [if_pos c2]
        obtain ⟨r, hM⟩ := run_met hI h0
        have hr := hM.1
        obtain ⟨i, w1, w2, w3, w4⟩ := wt_class (k := a1) hM (by omega)
        have p1 := pow_pos8 ⟨r, by omega⟩
        simp only at p1
        have hin : InI (i : Int) := ⟨by omega, by omega⟩
        obtain ⟨g, g1, g2⟩ := who_sp hM hin
        have hg : popc g = pcG σ r i := popc_P g2
        rw [w1, bnd_s, g1, bnd_s, bitC_sp g2 (fun s hs => by have := gn_8 hr w2 s hs; omega), bnd_s, Hp_some, hg]
        rw [if_pos c2, Hp_bind]
        have hM' : MetQ (up σ 170 0 0) r := by
          refine ⟨hr, ?_, ?_, ?_⟩
          · rw [up_cell (by decide)]; exact hM.2.1
          · rw [up_slot (by decide)]; exact hM.2.2.1
          · intro a b ha hb
            rw [up_cell (by decide), up_cell (by omega)]
            exact hM.2.2.2 a b ha hb
        obtain ⟨i', v1, v2, v3, v4⟩ := wt_class (k := a1) hM' (by omega)
        have hFF : ∀ j, Fs (up σ 170 0 0) r (min a1.toNat r) j = Fs σ r (min a1.toNat r) j := by
          have hpc : ∀ s : Int, pcG (up σ 170 0 0) r s = pcG σ r s := by
            intro s
            unfold pcG Gn
            rw [up_ne 207 (by decide)]
          intro j
          induction j with
          | zero => rfl
          | succ j ih =>
            rw [Fs, Fs, ih, hpc]
        rw [hFF, w3] at v3
        have hii : i' = i := by
          have := congrArg Prod.fst v3
          simp only at this
          omega
        subst hii
        refine Hp_mono (fall_sp hM' (by omega) v2 (by rw [hFF, w3]; exact v3) v4) ?_
        rintro ⟨y, τ⟩ ⟨q1, q2, q3⟩
        rw [Hp_some]
        simp only at q1 q3
        refine ⟨?_, inv_73 hq q3⟩
        simp only
        rw [q1]
        have := congrArg Prod.snd v3
        simp only at this
        exact this.symm
      · rw [if_neg c2, Hp_some, if_neg c2, Hp_some]; exact ⟨rfl, hq⟩
theorem c_fallen : PS_fallen Inv := by
  intro σ a1 hok hI h1
  apply pq_of
  have hq := inv_thr (x := 0) hI
  have hrun : (σ 129 0 = 0 ↔ σ 170 48 = -1) := by
    have hI2 := hI
    obtain ⟨k1, k2, k3, k4, k5, k6, k7, k8, k9, k10, k11⟩ := hI2
    rcases k10 with ⟨r1, r2, r3⟩ | ⟨⟨r1, r2, r3, r4⟩, -⟩
    · exact ⟨fun _ => r3, fun _ => r1⟩
    · constructor <;> intro q <;> omega
  simp only [m_X11_fallen, m_X12_fallen, Hp_bind, Hp_pt]
  simp (disch := decide) only [up_eq, up_cell, up_slot, Int.toNat_natCast, true_and, and_true, eq_self]
  by_cases h0 : σ 129 0 = 0
  · rw [if_pos h0, Hp_some, if_pos (hrun.mp h0), Hp_some]; exact ⟨rfl, hq⟩
  · have h0' : ¬ σ 170 48 = -1 := fun q => h0 (hrun.mpr q)
    simp only [if_neg h0, if_neg h0']
    by_cases c1 : a1 < 1
    · rw [if_pos c1, Hp_some, if_pos c1, Hp_some]; exact ⟨rfl, hq⟩
    · simp only [if_neg c1]
      by_cases c2 : a1 ≤ 3
      · rw [if_pos c2]
        obtain ⟨r, hM⟩ := run_met hI h0
        have hr := hM.1
        obtain ⟨i, w1, w2, w3, w4⟩ := wt_class (k := a1) hM (by omega)
        rw [w1, bnd_s, Hp_some]
        rw [if_pos c2, Hp_bind]
        have hM' : MetQ (up σ 170 0 0) r := by
          refine ⟨hr, ?_, ?_, ?_⟩
          · rw [up_cell (by decide)]; exact hM.2.1
          · rw [up_slot (by decide)]; exact hM.2.2.1
          · intro a b ha hb
            rw [up_cell (by decide), up_cell (by omega)]
            exact hM.2.2.2 a b ha hb
        have hFF : ∀ j, Fs (up σ 170 0 0) r (min a1.toNat r) j = Fs σ r (min a1.toNat r) j := by
          have hpc : ∀ s : Int, pcG (up σ 170 0 0) r s = pcG σ r s := by
            intro s
            unfold pcG Gn
            rw [up_ne 207 (by decide)]
          intro j
          induction j with
          | zero => rfl
          | succ j ih =>
            rw [Fs, Fs, ih, hpc]
        have hpc0 : pcG (up σ 170 0 0) r i = pcG σ r i := by
          unfold pcG Gn
          rw [up_ne 207 (by decide)]
        refine Hp_mono (fall_sp hM' (by omega) w2 (by rw [hFF, w3, hpc0]) w4) ?_
        rintro ⟨y, τ⟩ ⟨q1, q2, q3⟩
        simp only at q1 q2 q3
        rw [if_pos (by omega), Hp_some]
        exact ⟨q2, inv_73 hq q3⟩
      · rw [if_neg c2, Hp_some, if_neg c2, Hp_some]; exact ⟨rfl, hq⟩
