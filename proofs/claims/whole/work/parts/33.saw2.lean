/-! HushNet.saw where it throws -/
def NSE : String := "java/util/NoSuchElementException"
def NSN : List String := ["java/lang/RuntimeException", "java/lang/Exception"]
def prA : List Cond := (vx_at0 RX11 225 NSE NSN).filter (fun w => !goodWord w)
theorem prA_kind : prA.all (fun w => match w with | .castable _ _ => true | .declares _ => true | _ => false) = true := by decide +kernel
theorem prA_ot : prA.all (fun w => w.onTables) = true := by decide +kernel
theorem prA_in : ∀ w ∈ prA, w ∈ lw_tbl := by decide +kernel
theorem at0_in : ∀ w ∈ vx_at0 RX11 225 NSE NSN, w ∈ lw_tbl := by decide +kernel
theorem at0_ot : ∀ w ∈ Cond.classLink RX11 223 NSE :: Cond.initialized NSE :: vx_at0 RX11 225 NSE NSN, vx_ot w = true := by decide +kernel
def XF (A : Nat → Prop) (U : State) (H : Heap) : Prop := (∀ t ∈ prA, va_Nw t U) ∧ vx_Zq Bundle.tN "UNASSIGNED_STACK" Bundle.steD A U H ∧ vx_Zq Bundle.tN "SUPPRESSED_SENTINEL" Bundle.listD A U H
theorem prA_warm {s U : State} (hW : s.WarmedH U.vm) (h : ∀ t ∈ prA, va_Nw t s) : ∀ t ∈ prA, va_Nw t U := fun t ht => by
  have hk := List.all_eq_true.mp prA_kind t ht
  have h0 := h t ht
  cases t with
  | castable a b => exact va_Nw.warmC hW h0
  | declares x => exact va_Nw.warmD hW h0
  | _ => cases hk
theorem XF.step {A B : Nat → Prop} {s U : State} {H : Heap} {locs : List Loc} (h : XF A s s.heap) (hS : va_S A s.heap H locs) (hB : ∀ q, B q → A q) (hW : s.WarmedH U.vm) : XF B U H := ⟨prA_warm hW h.1, ((h.2.1.kept hS.2.1).narrow hB).moved hW.alike, ((h.2.2.kept hS.2.1).narrow hB).moved hW.alike⟩
theorem at0_before {args : Array Value} {s : State} (hts : ∀ t ∈ TB, t.before args s = true) (h : ∀ t ∈ prA, va_Nw t s) : ∀ t ∈ vx_at0 RX11 225 NSE NSN, t.before args s = true := fun t ht => by
  by_cases hg : goodWord t = true
  · exact hts t (List.mem_filter.mpr ⟨at0_in t ht, hg⟩)
  · have hp : t ∈ prA := List.mem_filter.mpr ⟨ht, by simpa using hg⟩
    exact va_Nw.use (List.all_eq_true.mp prA_ot t hp) (h t hp)
def SwP (w : Wd) (sz : Nat) (σ : St) (av : List Value) : Array Value → State → Prop := va_Pc av (fun U => U.heap.size = sz ∧ ok σ ∧ va_P w.1 vwCl (cw w σ) U.heap ∧ va_K w.1 vwCl (tys w) U ∧ va_D (fun _ => True) (cw w σ) ∧ SX w (Aw w sz) U U.heap ∧ XF (Aw w sz) U U.heap)
def SwX (w : Wd) (sz : Nat) (σ : St) : String → State → State → Prop := fun E st t => E = NSE ∧ va_P w.1 vwCl (cw w σ) t.heap ∧ va_F (Aw w sz) st t
theorem cl_11_223 : Cond.classLink RX11 223 NSE ∈ TB := (tbc_6 1 rfl rfl)
theorem ini_NSE : Cond.initialized NSE ∈ TB := (tbc_1 22 rfl rfl)
set_option maxRecDepth 100000 in
set_option maxHeartbeats 4000000 in
theorem saw_throw {w : Wd} {l : Launch} {a : Int} {σ : St} (hst : l.stackTraces = false) (ia : InI a) (hth : σ 129 0 = 0 ∨ a < 0 ∨ σ 129 6 ≤ a ∨ ¬ a < 768) (sz : Nat) : vx_Met l yX11_saw (Cond.code yX11_saw cX11_saw 2 (some .int) :: TB) { frames := 6, cells := 1, slots := 6, locals := 100 } (SwP w sz σ [rv w 0, iv a]) (fun _ _ _ _ => False) (SwX w sz σ) 1 6 (Aw w sz) := by
  refine vx_ofW (cc := cX11_saw) (maxL := 2) (ret := some .int) pn_RX11 rfl ?_
  intro p e s m args below meth c s₁ B hml hout hv
  obtain ⟨rfl, hsz, hok, hP, hK, hD, hX, hF⟩ := hv
  subst hsz
  have hts := atoms_spec (ws := Cond.code yX11_saw cX11_saw 2 (some .int) :: TB) B.pre
  have hown : s.vm.findClass RX11 = some m.cls := findClass_of_methodNamed B.named
  have C : Cx w p s m ([rv w 0, iv a] : List Value).toArray c (Aw w s.heap.size) cX11_saw RX11 2 := ⟨B.exec, B.bytes, hml, hown, fun t ht => hts t (List.mem_cons_of_mem _ ht), hK, fun q h => h, hX⟩
  have hT : G w p l e { frames := 6, cells := 1, slots := 6, locals := 100 } s m ([rv w 0, iv a] : List Value).toArray below meth c (Aw w s.heap.size) 0 0 (vx_MQ below (fun _ _ _ _ => False) (SwX w s.heap.size σ) ([rv w 0, iv a] : List Value).toArray s 1 6 (Aw w s.heap.size)) 2 37 [some (rv w 0), some (iv a)] [] σ := by
    intro ho H locs ls hP hD hS hl
    exact vx_throw0 (names := NSN) C.1 C.2.1 hst C.2.2.2.1 (by decide +kernel) (by decide +kernel) (C.2.2.2.2.1 _ cl_11_223) (C.2.2.2.2.1 _ ini_NSE) (at0_before C.2.2.2.2.1 hF.1) at0_ot hF.2.1 hF.2.2 hS (hl.1.trans C.2.2.1.symm) dX11_saw_37 dX11_saw_40 dX11_saw_41 dX11_saw_44 (fun x hx => absurd (hout x hx) id) (Nat.le_of_ble_eq_true rfl) (Nat.le_of_ble_eq_true rfl) (Nat.le_of_ble_eq_true rfl) (Nat.le_of_ble_eq_true rfl) B.notSynchronized (fun t hv hz hk => ⟨rfl, hP.kept (fun k q hq => hk q.1 ((hP k q hq).lt)), ⟨Nat.le_trans hS.1 hz, fun q h1 h2 => (hk q (Nat.lt_of_lt_of_le h1 hS.1)).trans (hS.2.1 q h1 h2)⟩⟩) (fun z hz => hS.2.2 z hz) (Nat.le_refl _) (Nat.le_refl _)
  have key : G w p l e { frames := 6, cells := 1, slots := 6, locals := 100 } s m ([rv w 0, iv a] : List Value).toArray below meth c (Aw w s.heap.size) 0 0 (vx_MQ below (fun _ _ _ _ => False) (SwX w s.heap.size σ) ([rv w 0, iv a] : List Value).toArray s 1 6 (Aw w s.heap.size)) 2 0 [some (rv w 0), some (iv a)] [] σ := by
    refine g_aload_n C dX11_saw_0 rfl ?_
    refine g_getR (j := 7) C dX11_saw_1 rfl (Nat.le_of_ble_eq_true rfl) (Nat.le_of_ble_eq_true rfl) fl_11_63 rfl rfl (r := 129) rfl ?_
    refine g_getZ (j := 0) C dX11_saw_4 rfl (Nat.le_of_ble_eq_true rfl) (Nat.le_of_ble_eq_true rfl) fl_11_198 rfl rfl (fun i1 => ?_)
    refine g_if_eq C dX11_saw_7 (zI i1) rfl (tgt := 37) (fun _ => hT) (fun n1 => ?_)
    refine g_iload_n C dX11_saw_10 rfl ?_
    refine g_if_lt C dX11_saw_11 ia rfl (tgt := 37) (fun _ => hT) (fun n2 => ?_)
    refine g_iload_n C dX11_saw_14 rfl ?_
    refine g_aload_n C dX11_saw_15 rfl ?_
    refine g_getR (j := 7) C dX11_saw_16 rfl (Nat.le_of_ble_eq_true rfl) (Nat.le_of_ble_eq_true rfl) fl_11_63 rfl rfl (r := 129) rfl ?_
    refine g_getI (j := 6) C dX11_saw_19 rfl (Nat.le_of_ble_eq_true rfl) (Nat.le_of_ble_eq_true rfl) fl_11_217 rfl rfl (fun i2 => ?_)
    refine g_icmp_ge C dX11_saw_22 ia i2 rfl (tgt := 37) (fun _ => hT) (fun n3 => ?_)
    refine g_iload_n C dX11_saw_25 rfl ?_
    refine g_aload_n C dX11_saw_26 rfl ?_
    refine g_getR (j := 7) C dX11_saw_27 rfl (Nat.le_of_ble_eq_true rfl) (Nat.le_of_ble_eq_true rfl) fl_11_63 rfl rfl (r := 129) rfl ?_
    refine g_getR (j := 5) C dX11_saw_30 rfl (Nat.le_of_ble_eq_true rfl) (Nat.le_of_ble_eq_true rfl) fl_11_220 rfl rfl (r := 141) rfl ?_
    refine g_alen (t0 := 0) (n := 768) (ty := .int) C dX11_saw_33 (Nat.le_of_ble_eq_true rfl) rfl rfl (Or.inl ⟨rfl, rfl⟩) ?_
    refine g_icmp_lt C dX11_saw_34 ia (by decide) rfl (tgt := 45) (fun n4 => ?_) (fun _ => hT)
    rcases hth with q | q | q | q
    · exact absurd q n1
    · exact absurd q n2
    · exact absurd q n3
    · exact absurd n4 q
  have hl := lv_entry ([rv w 0, iv a]) (n := 2) (Nat.le_of_ble_eq_true rfl)
  rw [lg_entry_eq]
  exact key hok s.heap [] _ hP (cw_D hD (fun k hk => Or.inl ⟨k, hk, rfl⟩)) va_S.rf (LR.of hl (fun i v h => by have := argL_in [rv w 0, iv a] 0 i v h; rwa [Nat.zero_add] at this))
