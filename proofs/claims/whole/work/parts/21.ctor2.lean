theorem vr_outer (c : ClassId) (N h0 : Nat) : ∀ i : Nat, Jvm.Free.Multi.outerC c N h0 i = arrV c N (fun j => va_rf (if j < i then some (h0 + 1 + j) else none))
  | 0 => by
    show ({ cls := c, slots := Array.replicate N .null, vm := .none } : Cell) = _
    rw [arrV_new]
    refine congrArg (arrV c N) (funext fun j => ?_)
    simp [va_rf]
  | i + 1 => by
    show (Jvm.Free.Multi.outerC c N h0 i).setSlot i (.ref (h0 + 1 + i)) = _
    rw [vr_outer c N h0 i, arrV_store]
    refine congrArg (arrV c N) (funext fun j => ?_)
    by_cases e : j = i
    · subst e
      simp [updV, va_rf]
    · by_cases h : j < i
      · simp [updV, e, h, Nat.lt_succ_of_lt h]
      · simp [updV, e, h, show ¬ j < i + 1 by omega]
section GH2
variable {w : Wd} {p : Program} {l : Launch} {e : Env} {R : Room} {s : State} {m : MethodId} {args : Array Value} {below : List Frame} {meth : Method} {c : Code} {A : Nat → Prop} {cells slots nn tt mm : Nat} {e0 : Env} {Q : State → Prop} {cc : ByteArray} {own : String} {nL pc : Nat} {L : List (Option Value)} {st : List Value}
theorem entP_refs {k0 k' : Nat} (hn : k' < NC) (hk : k' ≠ k0) : ∀ N, (∀ j, j < N → RO[tt + j]? = some (k0, j)) → entP w (tt + N) mm k' = entP w tt mm k' := by
  intro N
  induction N with
  | zero => intro _; rfl
  | succ N ih =>
    intro h
    rw [show tt + (N + 1) = tt + N + 1 by omega, entP_ref (h N (by omega)) hn hk]
    exact ih (fun j hj => h j (by omega))
theorem h_putR {idx ci k0 j r t1 : Nat} {ty : FieldType} (C : CxP w p s m args c A cc own nL) (hd : decode cc pc = .ok (.putfield idx, 3)) (ht : tg k0 = ci) (hc : ci < 13) (hj : j < NXf ci) (hk : k0 < nn) (hN : nn ≤ NC) (hl0 : Cond.fieldLink own idx (RXf ci) ((TXf ci) j).2.1 ((TXf ci) j).2.2.1 ∈ TB) (hdec : ((TXf ci) j).1 = RXf ci) (hown : RXf ci = own) (hfin : ((TXf ci) j).2.2.2 = true) (hin2 : meth.name = "<init>") (hq : kof (fty ci j) = 4) (hft : fty ci j = ty) (hna : ∀ a : Nat, narrow ty (.ref a) = .ref a) (hfi : ∀ a : Nat, fits ty (.ref a) = true) (hro : RO[tt]? = some (k0, j)) (hrf : rf k0 j = r) (hqa : qa k0 j = tt) (e1 : tt + 1 = t1)
    (k : GP w p l e R s m args below meth c A Q nL cells slots nn t1 mm (pc + 3) L st) : GP w p l e R s m args below meth c A Q nL cells slots nn tt mm pc L (rv w r :: rv w k0 :: st) := by
  intro hz H locs ls hP hZ hS hl
  subst e1
  have g0 := cwP_get (w := w) (t := tt) (m := mm) hk
  rw [epO ht hc] at g0
  obtain ⟨c1, c2, c3, c4⟩ := clOK ci hc
  have hln : ln k0 = NXf ci := by have := lnO k0 (by omega) (by omega); rw [ht] at this; exact this
  have e1 : (cwP w nn tt mm).set k0 (w.2.1 + k0, entP w (tt + 1) mm k0) = cwP w nn (tt + 1) mm := cwP_set hk (fun k' hk' hne => entP_ref hro (by omega) hne)
  rw [epO ht hc] at e1
  have e2 : ((List.range (ln k0)).map (fvalP w tt mm k0 ci)).set j (rv w r) = (List.range (ln k0)).map (fvalP w (tt + 1) mm k0 ci) := by
    apply List.ext_getElem?
    intro i
    by_cases hi : i = j
    · subst hi
      rw [List.getElem?_set_self (by simp; omega), List.getElem?_map, List.getElem?_range (by omega)]
      have : rfp (tt + 1) k0 i = some r := by
        unfold rfp
        rw [if_pos (by omega), hrf]
      simp [fvalP, hq, this, va_rf, rv]
    · rw [List.getElem?_set_ne (Ne.symm hi), List.getElem?_map, List.getElem?_map]
      by_cases hz9 : i < ln k0
      · rw [List.getElem?_range hz9]
        have : fvalP w tt mm k0 ci i = fvalP w (tt + 1) mm k0 ci i := by
          unfold fvalP
          split
          · rfl
          · next q => rw [rfp_ne hro (by omega) (isRf_f ht hc hz9 q) (fun z => hi z.2)]
          · rfl
        simp [this]
      · rw [List.getElem?_eq_none (by simp; omega)]
        rfl
  rw [← e2] at e1
  have hts := C.2.2.2.2.1
  have hK := C.2.2.2.2.2.1
  have hap := va_apart (own := own) hts c2 (fty ci) c3 c4 hK c1
  obtain ⟨rr9, h1, cell, q1, q2, q3, q4⟩ := hP k0 _ g0
  have hr9 : rr9 = (RXf ci, TXf ci, NXf ci) := Option.some.inj (h1.symm.trans c1)
  subst hr9
  obtain ⟨hSl, hfc, kC, hkC, hkind⟩ := hK.1 ci _ c1
  obtain ⟨cf, kf, fi, f, hi, hsl⟩ := hSl j hj
  have hlay := hts _ (c2 _ (u_in_lay hj))
  unfold u_lay at hlay
  rw [if_pos hfin] at hlay
  have hst := (u_facts hfc hkC (u_lays hts c2 hj) hi).1
  have hcf : m.cls = cf := by
    obtain ⟨_, _, c', _, _, _, -, -, hf', -, -, -, hown2, -⟩ := Cond.laysFinal_spec hlay
    have e1 : c' = cf := by have := hi.symm.trans hf'; simp at this; exact this.1.symm
    rw [hdec.trans hown] at hown2
    rw [← e1]; exact Option.some.inj (C.2.2.2.1.symm.trans hown2)
  have h6 := u_fits hfc hkC hkind (Or.inr hlay) hi (by rw [← hft]; exact c3 j hj) (hna (w.2.1 + r)) (hfi (w.2.1 + r))
  refine W.putFinK C.1 C.2.1 C.2.2.2.1 (hts _ hl0) (by have := hi; rw [hdec] at this; exact this) hst hcf hin2 (by rw [q2]; exact h6) q1 q3 (by rw [hsl]; exact k2_hasslot (q4 j hj)) rfl rfl hd fun H' e5 e6 e7 => ?_
  rw [hsl] at e5 ⊢
  have hP1 : va_P w.1 vwCl (cwP w nn (tt + 1) mm) H' := by
    rw [← e1]
    exact hP.set (cwP_D (A := fun _ => True) (fun _ _ => trivial)) g0 ⟨_, c1, t_OB.to (V := updV (vp_V _) j (rv w r)) ⟨_, e5, q2, q3, t_set q4 hap hj (rv w r)⟩ (fun j9 _ => vp_updV_set (by simp; omega) (rv w r) j9)⟩ e7
  exact k hz H' _ ls hP1 (e6.trans hZ) (hS.put e6 e7 (C.2.2.2.2.2.2.1 _ (Nat.le_add_right _ _))) hl
theorem h_putI {idx ci k0 j m1 : Nat} {x : Int} (C : CxP w p s m args c A cc own nL) (hd : decode cc pc = .ok (.putfield idx, 3)) (ht : tg k0 = ci) (hc : ci < 13) (hj : j < NXf ci) (hk : k0 < nn) (hN : nn ≤ NC) (hl0 : Cond.fieldLink own idx (RXf ci) ((TXf ci) j).2.1 ((TXf ci) j).2.2.1 ∈ TB) (hdec : ((TXf ci) j).1 = RXf ci) (hfin : ((TXf ci) j).2.2.2 = false) (hft : fty ci j = .int) (hwl : WLs[mm]? = some (k0, j, x)) (e1 : mm + 1 = m1)
    (k : GP w p l e R s m args below meth c A Q nL cells slots nn tt m1 (pc + 3) L st) : GP w p l e R s m args below meth c A Q nL cells slots nn tt mm pc L (iv x :: rv w k0 :: st) := by
  intro hz H locs ls hP hZ hS hl
  subst e1
  have hq : kof (fty ci j) = 0 := by rw [hft]; rfl
  have g0 := cwP_get (w := w) (t := tt) (m := mm) hk
  rw [epO ht hc] at g0
  obtain ⟨c1, c2, c3, c4⟩ := clOK ci hc
  have hln : ln k0 = NXf ci := by have := lnO k0 (by omega) (by omega); rw [ht] at this; exact this
  have hSG := SG_succ hwl
  have e1 : (cwP w nn tt mm).set k0 (w.2.1 + k0, entP w tt (mm + 1) k0) = cwP w nn tt (mm + 1) := cwP_set hk (fun k' hk' hne => entP_num hwl hne)
  rw [epO ht hc] at e1
  have e2 : ((List.range (ln k0)).map (fvalP w tt mm k0 ci)).set j (iv x) = (List.range (ln k0)).map (fvalP w tt (mm + 1) k0 ci) := by
    apply List.ext_getElem?
    intro i
    by_cases hi : i = j
    · subst hi
      rw [List.getElem?_set_self (by simp; omega), List.getElem?_map, List.getElem?_range (by omega)]
      simp [fvalP, hq, hSG, up_at]
    · rw [List.getElem?_set_ne (Ne.symm hi), List.getElem?_map, List.getElem?_map]
      by_cases hz9 : i < ln k0
      · rw [List.getElem?_range hz9]
        simp [fvalP, hSG, up_at, hi]
      · rw [List.getElem?_eq_none (by simp; omega)]
        rfl
  rw [← e2] at e1
  have hts := C.2.2.2.2.1
  have hK := C.2.2.2.2.2.1
  have hap := va_apart (own := own) hts c2 (fty ci) c3 c4 hK c1
  obtain ⟨rr9, h1, cell, q1, q2, q3, q4⟩ := hP k0 _ g0
  have hr9 : rr9 = (RXf ci, TXf ci, NXf ci) := Option.some.inj (h1.symm.trans c1)
  subst hr9
  obtain ⟨hSl, hfc, kC, hkC, hkind⟩ := hK.1 ci _ c1
  obtain ⟨cf, kf, fi, f, hi, hsl⟩ := hSl j hj
  have hlay := hts _ (c2 _ (u_in_lay hj))
  unfold u_lay at hlay
  rw [if_neg (by rw [hfin]; decide)] at hlay
  have hst := (u_facts hfc hkC (u_lays hts c2 hj) hi).1
  have h6 := u_store hfc hkC hkind hlay hi (by rw [← hft]; exact c3 j hj) (rfl : narrow .int (iv x) = iv x) (rfl : fits .int (iv x) = true)
  refine W.putK C.1 C.2.1 (f := f) ⟨C.2.2.2.1, hts _ hl0, ⟨_, _, _, by have := hi; rw [hdec] at this; exact this⟩, hst⟩ (by rw [q2]; exact h6) q1 q3 (by rw [hsl]; exact k2_hasslot (q4 j hj)) rfl rfl hd fun H' e5 e6 e7 => ?_
  rw [hsl] at e5 ⊢
  have hP1 : va_P w.1 vwCl (cwP w nn tt (mm + 1)) H' := by
    rw [← e1]
    exact hP.set (cwP_D (A := fun _ => True) (fun _ _ => trivial)) g0 ⟨_, c1, t_OB.to (V := updV (vp_V _) j (iv x)) ⟨_, e5, q2, q3, t_set q4 hap hj (iv x)⟩ (fun j9 _ => vp_updV_set (by simp; omega) (iv x) j9)⟩ e7
  refine k (fun k9 h9 j9 => ?_) H' _ ls hP1 (e6.trans hZ) (hS.put e6 e7 (C.2.2.2.2.2.2.1 _ (Nat.le_add_right _ _))) hl
  rw [hSG, up_ne k9 (by omega)]
  exact hz k9 h9 j9
theorem h_getR {idx ci k0 j r : Nat} (C : CxP w p s m args c A cc own nL) (hd : decode cc pc = .ok (.getfield idx, 3)) (ht : tg k0 = ci) (hc : ci < 13) (hj : j < NXf ci) (hk : k0 < nn) (hN : nn ≤ NC) (hl0 : Cond.fieldLink own idx (RXf ci) ((TXf ci) j).2.1 ((TXf ci) j).2.2.1 ∈ TB) (hdec : ((TXf ci) j).1 = RXf ci) (hq : kof (fty ci j) = 4) (hrf : rf k0 j = r) (hqa : qa k0 j < tt)
    (k : GP w p l e R s m args below meth c A Q nL cells slots nn tt mm (pc + 3) L (rv w r :: st)) : GP w p l e R s m args below meth c A Q nL cells slots nn tt mm pc L (rv w k0 :: st) := by
  intro hz H locs ls hP hZ hS hl
  have g0 := cwP_get (w := w) (t := tt) (m := mm) hk
  rw [epO ht hc] at g0
  obtain ⟨c1, c2, c3, c4⟩ := clOK ci hc
  have hln : ln k0 = NXf ci := by have := lnO k0 (by omega) (by omega); rw [ht] at this; exact this
  have hv : fvalP w tt mm k0 ci j = rv w r := by
    have : rfp tt k0 j = some r := by unfold rfp; rw [if_pos hqa, hrf]
    simp [fvalP, hq, this, va_rf, rv]
  exact va_get (v := rv w r) C.1 C.2.1 C.2.2.2.2.1 c2 C.2.2.2.1 C.2.2.2.2.2.1 hP k0 g0 c1 j hj (C.2.2.2.2.1 _ hl0) (fun x hx => by rw [hdec] at hx; exact hx) (by rw [List.getElem?_map, List.getElem?_range (by omega)]; simp [hv]) hd (k hz H locs ls hP hZ hS hl)
theorem h_aaldI {k0 r : Nat} {i : Int} (C : CxP w p s m args c A cc own nL) (hd : decode cc pc = .ok (.aaload, 1)) (ht : tg k0 = 25) (hk : k0 < nn) (hi : InI i) (h0 : 0 ≤ i ∧ i < (ln k0 : Int)) (hrf : rf k0 i.toNat = r) (hqa : qa k0 i.toNat < tt)
    (k : GP w p l e R s m args below meth c A Q nL cells slots nn tt mm (pc + 1) L (rv w r :: st)) : GP w p l e R s m args below meth c A Q nL cells slots nn tt mm pc L (iv i :: rv w k0 :: st) := by
  intro hz H locs ls hP hZ hS hl
  have g0 := cwP_get (w := w) (t := tt) (m := mm) hk
  rw [ep25 ht] at g0
  obtain ⟨v1, v2⟩ := iv_ix (N := ln k0) hi h0 rfl
  have hlt : (Int32.ofInt i).toNatClampNeg < ln k0 := by rw [v2]; have := h0.1; have := h0.2; omega
  have hv : va_rf (rarr w tt k0 (Int32.ofInt i).toNatClampNeg) = rv w r := by
    unfold rarr rfp
    rw [if_pos hlt, v2, if_pos hqa, hrf]
    rfl
  refine W.aald (v := va_rf (rarr w tt k0 (Int32.ofInt i).toNatClampNeg)) (ty := .array .int) C.1 C.2.1 (hP k0 _ g0) ((C.2.2.2.2.2.1.2 5 _ rfl).1 (ln k0) (fun j => va_rf (rarr w tt k0 j))) rfl (fun q => by cases q) (by show ¬ (_ < 0 ∨ (arrV _ _ _).slots.size ≤ _); rw [arrV_size]; exact v1) (by show (arrV _ _ _).slots[_]? = _; rw [arrV_read _ _ hlt]) rfl rfl hd ?_
  rw [hv]
  exact k hz H locs ls hP hZ hS hl
theorem h_iast {k0 m1 : Nat} {i x : Int} (C : CxP w p s m args c A cc own nL) (hd : decode cc pc = .ok (.iastore, 1)) (ht : tg k0 = 20) (hk : k0 < nn) (hi : InI i) (h0 : 0 ≤ i ∧ i < (ln k0 : Int)) (hwl : WLs[mm]? = some (k0, i.toNat, x)) (e1 : mm + 1 = m1)
    (k : GP w p l e R s m args below meth c A Q nL cells slots nn tt m1 (pc + 1) L st) : GP w p l e R s m args below meth c A Q nL cells slots nn tt mm pc L (iv x :: iv i :: rv w k0 :: st) := by
  intro hz H locs ls hP hZ hS hl
  subst e1
  have g0 := cwP_get (w := w) (t := tt) (m := mm) hk
  have hSG := SG_succ hwl
  have e1 : (cwP w nn tt mm).set k0 (w.2.1 + k0, entP w tt (mm + 1) k0) = cwP w nn tt (mm + 1) := cwP_set hk (fun k' hk' hne => entP_num hwl hne)
  rw [ep20 ht] at g0 e1
  obtain ⟨v1, v2⟩ := iv_ix (N := ln k0) hi h0 rfl
  have e2 : (fun j => Int32.ofInt (SG (mm + 1) k0 j)) = upd (fun j => Int32.ofInt (SG mm k0 j)) i.toNat (Int32.ofInt x) := by rw [upd32]; funext j; rw [hSG, up_at]
  rw [e2] at e1
  refine W.iast C.1 C.2.1 (hP k0 _ g0) ((C.2.2.2.2.2.1.2 0 _ rfl).1 (ln k0) (fun j => .int (Int32.ofInt (SG mm k0 j)))) (fun q => by cases q) (by show ¬ (_ < 0 ∨ (arrV _ _ _).slots.size ≤ _); rw [arrV_size]; exact v1) rfl rfl hd fun H1 e5 z oq => ?_
  rw [v2] at e5
  have hP1 : va_P w.1 vwCl (cwP w nn tt (mm + 1)) H1 := by
    rw [← e1]
    refine hP.set (cwP_D (A := fun _ => True) (fun _ _ => trivial)) g0 ?_ oq
    show H1[w.2.1 + k0]? = some (vp_cell (w.2.2 0) (ln k0, .inl (upd (fun j => Int32.ofInt (SG mm k0 j)) i.toNat (Int32.ofInt x))))
    rw [e5]
    show some ((arrV (w.2.2 0) (ln k0) (fun j => .int (Int32.ofInt (SG mm k0 j)))).setSlot i.toNat (.int (Int32.ofInt x))) = _
    rw [vp_cell_i, arrV_store]
    congr 2
    funext j
    unfold updV upd
    split <;> rfl
  refine k (fun k9 h9 j9 => ?_) H1 _ ls hP1 (z.trans hZ) (hS.put z oq (C.2.2.2.2.2.2.1 _ (Nat.le_add_right _ _))) hl
  rw [hSG, up_ne k9 (by omega)]
  exact hz k9 h9 j9
theorem h_last {k0 m1 : Nat} {i x : Int} (C : CxP w p s m args c A cc own nL) (hd : decode cc pc = .ok (.lastore, 1)) (ht : tg k0 = 23) (hk : k0 < nn) (hi : InI i) (h0 : 0 ≤ i ∧ i < (ln k0 : Int)) (hwl : WLs[mm]? = some (k0, i.toNat, x)) (e1 : mm + 1 = m1)
    (k : GP w p l e R s m args below meth c A Q nL cells slots nn tt m1 (pc + 1) L st) : GP w p l e R s m args below meth c A Q nL cells slots nn tt mm pc L (jv x :: iv i :: rv w k0 :: st) := by
  intro hz H locs ls hP hZ hS hl
  subst e1
  have g0 := cwP_get (w := w) (t := tt) (m := mm) hk
  have hSG := SG_succ hwl
  have e1 : (cwP w nn tt mm).set k0 (w.2.1 + k0, entP w tt (mm + 1) k0) = cwP w nn tt (mm + 1) := cwP_set hk (fun k' hk' hne => entP_num hwl hne)
  rw [ep23 ht] at g0 e1
  obtain ⟨v1, v2⟩ := iv_ix (N := ln k0) hi h0 rfl
  have e2 : (fun j => Int64.ofInt (SG (mm + 1) k0 j)) = vp_updL (fun j => Int64.ofInt (SG mm k0 j)) i.toNat (Int64.ofInt x) := by rw [upd64]; funext j; rw [hSG, up_at]
  rw [e2] at e1
  refine W.last C.1 C.2.1 (hP k0 _ g0) ((C.2.2.2.2.2.1.2 3 _ rfl).1 (ln k0) (fun j => .long (Int64.ofInt (SG mm k0 j)))) (fun q => by cases q) (by show ¬ (_ < 0 ∨ (arrV _ _ _).slots.size ≤ _); rw [arrV_size]; exact v1) rfl rfl hd fun H1 e5 z oq => ?_
  rw [v2] at e5
  have hP1 : va_P w.1 vwCl (cwP w nn tt (mm + 1)) H1 := by
    rw [← e1]
    refine hP.set (cwP_D (A := fun _ => True) (fun _ _ => trivial)) g0 ?_ oq
    show H1[w.2.1 + k0]? = some (vp_cell (w.2.2 3) (ln k0, .inr (.inl (vp_updL (fun j => Int64.ofInt (SG mm k0 j)) i.toNat (Int64.ofInt x)))))
    rw [e5]
    show some ((arrV (w.2.2 3) (ln k0) (fun j => .long (Int64.ofInt (SG mm k0 j)))).setSlot i.toNat (.long (Int64.ofInt x))) = _
    rw [vp_cell_l, arrV_store]
    congr 2
    funext j
    unfold updV vp_updL
    split <;> rfl
  refine k (fun k9 h9 j9 => ?_) H1 _ ls hP1 (z.trans hZ) (hS.put z oq (C.2.2.2.2.2.2.1 _ (Nat.le_add_right _ _))) hl
  rw [hSG, up_ne k9 (by omega)]
  exact hz k9 h9 j9
theorem h_aast {k0 r t1 : Nat} {i : Int} (C : CxP w p s m args c A cc own nL) (hd : decode cc pc = .ok (.aastore, 1)) (ht : tg k0 = 24) (hr : tg r = 0) (hk : k0 < nn) (hrn : r < nn) (hN : nn ≤ NC) (hi : InI i) (h0 : 0 ≤ i ∧ i < (ln k0 : Int)) (hro : RO[tt]? = some (k0, i.toNat)) (hrf : rf k0 i.toNat = r) (hqa : qa k0 i.toNat = tt) (e1 : tt + 1 = t1)
    (k : GP w p l e R s m args below meth c A Q nL cells slots nn t1 mm (pc + 1) L st) : GP w p l e R s m args below meth c A Q nL cells slots nn tt mm pc L (rv w r :: iv i :: rv w k0 :: st) := by
  intro hz H locs ls hP hZ hS hl
  subst e1
  have g0 := cwP_get (w := w) (t := tt) (m := mm) hk
  have gr := cwP_get (w := w) (t := tt) (m := mm) hrn
  have e1 : (cwP w nn tt mm).set k0 (w.2.1 + k0, entP w (tt + 1) mm k0) = cwP w nn (tt + 1) mm := cwP_set hk (fun k' hk' hne => entP_ref hro (by omega) hne)
  rw [ep24 ht] at g0 e1
  rw [epO hr (by decide)] at gr
  obtain ⟨c1, -⟩ := clOK 0 (by decide)
  obtain ⟨v1, v2⟩ := iv_ix (N := ln k0) hi h0 rfl
  have hlt : (Int32.ofInt i).toNatClampNeg < ln k0 := by rw [v2]; have := h0.1; have := h0.2; omega
  have h00 : ¬ Int32.ofInt i < 0 := fun q => v1 (Or.inl q)
  have hK := C.2.2.2.2.2.1
  obtain ⟨r', hr', cellV, g1, g2, g3, -⟩ := hP r _ gr
  have hcls := (hK.1 0 _ c1).2
  obtain ⟨kA, comp, k1, k2, k3, -⟩ := (hK.2 4 _ rfl).2
  have hcomp : comp = w.1.1 0 := Option.some.inj (k3.symm.trans hcls.1)
  subst hcomp
  obtain ⟨kC, hkC, -⟩ := hcls.2
  refine W.aast C.1 C.2.1 (hP k0 _ g0) (fun q h => by cases h) (fun h => by cases h) k1 k2 rfl hkC ⟨h00, by show _ < (arrV _ _ _).slots.size; rw [arrV_size]; exact hlt⟩ g1 (fun q h => by rw [g3] at h; cases h) (by rw [g2]; exact hkC) (by rw [g2]; exact va_assign hcls) rfl rfl hd fun H1 e5 z oq => ?_
  rw [v2] at e5
  have hP1 : va_P w.1 vwCl (cwP w nn (tt + 1) mm) H1 := by
    rw [← e1]
    refine hP.set (cwP_D (A := fun _ => True) (fun _ _ => trivial)) g0 ?_ oq
    show H1[w.2.1 + k0]? = some (vp_cell (w.2.2 4) (ln k0, .inr (.inr (.inr (.inr (rarr w (tt + 1) k0))))))
    rw [e5]
    show some ((arrV (w.2.2 4) (ln k0) (fun j => va_rf (rarr w tt k0 j))).setSlot i.toNat (.ref (w.2.1 + r))) = _
    rw [vp_cell_q, arrV_store]
    congr 1
    refine arrV_ext (fun j hj => ?_)
    unfold updV
    by_cases q : j = i.toNat
    · rw [if_pos q]
      unfold rarr rfp
      rw [if_pos hj, q, if_pos (by omega), hrf]
      rfl
    · rw [if_neg q]
      have e9 : rarr w tt k0 j = rarr w (tt + 1) k0 j := by
        unfold rarr
        rw [if_pos hj, if_pos hj, rfp_ne hro (by omega) (isRf_a (Or.inl ht) hj) (fun z => q z.2)]
      show va_rf (rarr w tt k0 j) = va_rf (rarr w (tt + 1) k0 j)
      rw [e9]
  exact k hz H1 _ ls hP1 (z.trans hZ) (hS.put z oq (C.2.2.2.2.2.2.1 _ (Nat.le_add_right _ _))) hl
theorem h_mna {idx N K n1 t1 c1 s1 : Nat} {x y : Int} (C : CxP w p s m args c A cc own nL) (hd : decode cc pc = .ok (.multianewarray idx 2, 4)) (ht : tg nn = 25) (hlN : ln nn = N) (hx : (Int32.ofInt x).toNatClampNeg = N) (hx0 : ¬ Int32.ofInt x < 0) (hy : (Int32.ofInt y).toNatClampNeg = K) (hy0 : ¬ Int32.ofInt y < 0) (hb : N * 4 ≤ 536870912 ∧ K * componentBytes .int ≤ 536870912 ∧ K ≤ 536870912) (hrow : ∀ j, j < N → tg (nn + 1 + j) = 20 ∧ ln (nn + 1 + j) = K ∧ rf nn j = nn + 1 + j ∧ RO[tt + j]? = some (nn, j) ∧ qa nn j = tt + j) (hN : nn + 1 + N ≤ NC)
    (hcl : Cond.classLink own idx ("[" ++ (FieldType.array .int).toString) ∈ TB) (hac : Cond.arrayClass .int ∈ TB) (hcs : cells + (1 + N) ≤ R.cells ∧ slots + (N + N * K) ≤ R.slots) (e1 : nn + 1 + N = n1) (e2 : tt + N = t1) (e3 : cells + (1 + N) = c1) (e4 : slots + (N + N * K) = s1)
    (k : GP w p l e R s m args below meth c A Q nL c1 s1 n1 t1 mm (pc + 4) L (rv w nn :: st)) : GP w p l e R s m args below meth c A Q nL cells slots nn tt mm pc L (iv y :: iv x :: st) := by
  intro hz H locs ls hP hZ hS hl
  subst e1
  subst e2
  subst e3
  subst e4
  have hts := C.2.2.2.2.1
  intro T hT Xs
  obtain ⟨vm₁, cA, comp, -, fA, fC, hO, -, X', step⟩ := Xs.multianewarray2F C.1 C.2.2.2.1 (hts _ hcl) C.2.2.2.2.2.2.2.2.2.2.2.2.2.2 (hts _ hac) (g := F0 m pc ls (iv y :: iv x :: st)) rfl (by rw [C.2.1]; exact hd) (n := Int32.ofInt x) (k := Int32.ofInt y) rfl hx0 hy0 (by rw [hx]; exact hb.1) (by rw [hy]; exact hb.2.1) (by rw [hy]; exact hb.2.2) rfl rfl (by rw [hx]; exact hcs.1) (by rw [hx, hy]; exact hcs.2)
  rw [hx, hy] at X' step
  rw [Nat.add_assoc cells 1 N, Nat.add_assoc slots N (N * K)] at X'
  generalize hF : Jvm.Free.Multi.fill (T.setVm vm₁) cA comp N K (defaultValue .int) N = F at X' step
  have hTh : (T.setVm vm₁).heap = H := hT
  obtain ⟨f1, f2, -, -⟩ := Jvm.Free.Multi.fill_facts (T.setVm vm₁) cA comp N K (defaultValue .int) N
  rw [hF, hTh] at f1 f2
  have hold : ∀ x : Nat, x < H.size → F.heap[x]? = H[x]? := fun x hx => by
    have := Jvm.Free.Multi.fill_old (T.setVm vm₁) cA comp N K (defaultValue .int) (a := x) (by rw [hTh]; exact hx) N
    rw [hF, hTh] at this
    exact this
  have hrw : ∀ j : Nat, j < N → F.heap[H.size + 1 + j]? = some (Jvm.Free.Multi.innerC comp K (defaultValue .int)) := fun j hj => by
    have := Jvm.Free.Multi.fill_inner (T.setVm vm₁) cA comp N K (defaultValue .int) N j hj
    rw [hF, hTh] at this
    exact this
  rw [vr_outer] at f2
  have hcA : cA = w.2.2 5 := Option.some.inj (fA.symm.trans (C.2.2.2.2.2.1.2 5 _ rfl).2)
  have hco : comp = w.2.2 0 := Option.some.inj (fC.symm.trans (C.2.2.2.2.2.1.2 0 _ rfl).2)
  have hP1 : va_P w.1 vwCl (cwP w (nn + 1 + N) (tt + N) mm) F.heap := by
    intro i q hq
    obtain ⟨hi, rfl⟩ := cwP_of hq
    by_cases h1 : i < nn
    · rw [entP_refs (k0 := nn) (by omega) (by omega) N (fun j hj => (hrow j hj).2.2.2.1)]
      exact (hP i _ (cwP_get h1)).kept (hold _ (by show w.2.1 + i < _; omega))
    · by_cases h2 : i = nn
      · subst h2
        rw [ep25 ht]
        show F.heap[w.2.1 + i]? = some (vp_cell (w.2.2 5) (ln i, .inr (.inr (.inr (.inr (rarr w (tt + N) i))))))
        rw [← hZ, f2, vp_cell_q, hcA, hlN]
        congr 1
        refine arrV_ext (fun j hj => ?_)
        have hr := hrow j hj
        unfold rarr rfp
        rw [if_pos hj, if_pos (by omega), if_pos (by omega), hr.2.2.1, hZ]
        show va_rf (some (w.2.1 + i + 1 + j)) = va_rf (some (w.2.1 + (i + 1 + j)))
        rw [show w.2.1 + i + 1 + j = w.2.1 + (i + 1 + j) by omega]
      · obtain ⟨j, rfl⟩ : ∃ j, i = nn + 1 + j := ⟨i - (nn + 1), by omega⟩
        have hj : j < N := by omega
        have hr := hrow j hj
        rw [ep20 hr.1]
        show F.heap[w.2.1 + (nn + 1 + j)]? = some (vp_cell (w.2.2 0) (ln (nn + 1 + j), .inl (fun j9 => Int32.ofInt (SG mm (nn + 1 + j) j9))))
        rw [show w.2.1 + (nn + 1 + j) = H.size + 1 + j by omega, hrw j hj, vp_cell_i, hco, hr.2.1]
        congr 1
        show ({ cls := w.2.2 0, slots := Array.replicate K (defaultValue .int), vm := .none } : Cell) = _
        rw [arrV_new]
        exact arrV_ext (fun j9 _ => by rw [hz (nn + 1 + j) (by omega) j9]; rfl)
  obtain ⟨t, a1, b1⟩ := k (fun k9 h9 j9 => hz k9 (by omega) j9) F.heap locs ls hP1 (by rw [f1]; omega) ⟨by rw [f1]; have := hS.1; omega, fun x h1 h2 => (hold x (Nat.lt_of_lt_of_le h1 hS.1)).trans (hS.2.1 x h1 h2), hS.2.2⟩ hl F rfl X'
  refine ⟨t, step t ?_, b1⟩
  have e : T.heap.size = w.2.1 + nn := by rw [hT]; exact hZ
  rw [e]
  exact a1
/-- behind a call of a constructor -/
theorem h_run {st0 : List Value} {n' t' m' mc ms c1 s1 : Nat} {r : Option Value} {a : Array Value} (C : CxP w p s m args c A cc own nL)
    (hr : (∀ k, nn ≤ k → ∀ j, SG mm k j = 0) → ∀ (H : Heap) (locs : List Loc) (ls : Array Slot), va_P w.1 vwCl (cwP w nn tt mm) H → H.size = w.2.1 + nn → ls.size = nL → va_Run p l e R s m args below meth c H locs cells slots mc ms (F0 m pc ls st0) st (CtPQ w n' t' m' r a) (fun q => w.2.1 ≤ q)) (e1 : cells + mc = c1) (e2 : slots + ms = s1)
    (k : GP w p l e R s m args below meth c A Q nL c1 s1 n' t' m' (pc + 3) L (r.toList ++ st)) : GP w p l e R s m args below meth c A Q nL cells slots nn tt mm pc L st0 := by
  intro hz H locs ls hP hZ hS hl T hT X
  subst e1
  subst e2
  obtain ⟨v, st₀, t, T', Lc, h0, X', hL, e1, e2, ⟨⟨hv, hz2, hZ2, hP1⟩, hzz, hk⟩, stp⟩ := hr hz H locs ls hP hZ hl.1 T hT X
  cases hv
  rw [h0] at hzz hk
  have hA := C.2.2.2.2.2.2.1
  have hS2 : va_S A s.heap T'.heap (locs ++ Lc) := ⟨Nat.le_trans hS.1 (by rw [e1]; exact hzz), fun q h1 h2 => by rw [e1, hk q (Nat.lt_of_lt_of_le h1 hS.1) (fun z => h2 (hA q z))]; exact hS.2.1 q h1 h2, fun q hq => by
      rcases List.mem_append.mp hq with h | h
      · exact hS.2.2 q h
      · exact hA _ (hL q h)⟩
  obtain ⟨t2, a1, b1⟩ := k hz2 T'.heap (locs ++ Lc) ls (by rw [e1]; exact hP1) (by rw [e1]; exact hZ2) hS2 hl T' rfl X'
  exact ⟨t2, stp t2 a1, b1⟩
theorem CtPP_blind {n t m0 : Nat} {av : List Value} : FrameBlind (CtPP w n t m0 av) := fun a U g mk q => by
  obtain ⟨q0, q1, q2, qP, qK, qX⟩ := q
  exact ⟨q0, q1, q2, qP, va_K.moved (u := U) (U := U.calling g mk a) (Vm.Alike.refl U.vm) qK, NX.same (u := U) (U := U.calling g mk a) rfl qX⟩
theorem h_callI {y : MethodName} {bytes : ByteArray} {maxL n idx k0 n' t' m' mc ms c1 s1 : Nat} {rm : Room} {As st0 : List Value} (C : CxP w p s m args c A cc own nL) (hd : decode cc pc = .ok (.invokespecial idx, 3)) (i1 : Cond.code y bytes maxL none ∈ TB) (i2 : Cond.instanceMethod y ∈ TB) (i4 : Cond.initialized y.cls ∈ TB) (i7 : y.cls ≠ "java/lang/invoke/MethodHandle" ∧ y.cls ≠ "java/lang/invoke/VarHandle" ∧ (parseMethodDescriptor y.desc).map (fun d => d.parameters.length) = some n) (hy : y.name = "<init>") (hml : Cond.methodLink own idx y ∈ TB)
    (hM : CtI w l y (Cond.code y bytes maxL none :: TB) rm (rv w k0 :: As) nn tt mm n' t' m' none mc ms) (hn : As.length = n) (hrm : rm.cells = mc ∧ rm.slots = ms) (hR : rm.frames + 1 ≤ R.frames ∧ 8 + (maxL + 11) + rm.locals ≤ R.locals) (hcs : cells + mc ≤ R.cells ∧ slots + ms ≤ R.slots) (hst : st0 = As.reverse ++ rv w k0 :: st) (hcat : (st.map fun v => v.category).sum ≤ 8) (e1 : cells + mc = c1) (e2 : slots + ms = s1)
    (k : GP w p l e R s m args below meth c A Q nL c1 s1 n' t' m' (pc + 3) L st) : GP w p l e R s m args below meth c A Q nL cells slots nn tt mm pc L st0 := by
  have hts := C.2.2.2.2.1
  refine h_run (r := none) (a := (Value.ref (w.2.1 + k0) :: As).toArray) C (fun hz H locs ls hP hZ hls => ?_) e1 e2 k
  exact va_runI (n := n) (own := own) (Ts := TB) ⟨C.1, C.2.1, C.2.2.1, C.2.2.2.1, hts⟩ hM ⟨callB_of (Ts := TB) n hts (goodTB i1) rfl hrm.1 hrm.2 (hts _ i4) (hts _ hml) i7 hR, hy, hts _ i2⟩ ⟨CtPP_blind, fun U hU hW => ⟨rfl, by rw [hU]; exact hZ, hz, by rw [hU]; exact hP, va_K.moved hW.alike C.2.2.2.2.2.1, NX.warm hW C.2.2.2.2.2.2.2⟩⟩ rfl hn hls hst (lv_room hcat) hd hcs
theorem h_callIN {y : MethodName} {bytes : ByteArray} {maxL n idx k0 n' t' m' mc ms c1 s1 : Nat} {rm : Room} {As st0 : List Value} (C : CxP w p s m args c A cc own nL) (hd : decode cc pc = .ok (.invokespecial idx, 3)) (i1 : Cond.code y bytes maxL none ∈ TB) (i2 : Cond.instanceMethod y ∈ TB) (i4 : Cond.initialized y.cls ∈ TB) (i7 : y.cls ≠ "java/lang/invoke/MethodHandle" ∧ y.cls ≠ "java/lang/invoke/VarHandle" ∧ (parseMethodDescriptor y.desc).map (fun d => d.parameters.length) = some n) (hy : y.name = "<init>") (hml : va_Nw (.methodLinkNest own idx y RX11) s)
    (hM : CtI w l y (Cond.code y bytes maxL none :: TB) rm (rv w k0 :: As) nn tt mm n' t' m' none mc ms) (hn : As.length = n) (hrm : rm.cells = mc ∧ rm.slots = ms) (hR : rm.frames + 1 ≤ R.frames ∧ 8 + (maxL + 11) + rm.locals ≤ R.locals) (hcs : cells + mc ≤ R.cells ∧ slots + ms ≤ R.slots) (hst : st0 = As.reverse ++ rv w k0 :: st) (hcat : (st.map fun v => v.category).sum ≤ 8) (e1 : cells + mc = c1) (e2 : slots + ms = s1)
    (k : GP w p l e R s m args below meth c A Q nL c1 s1 n' t' m' (pc + 3) L st) : GP w p l e R s m args below meth c A Q nL cells slots nn tt mm pc L st0 := by
  have hts := C.2.2.2.2.1
  refine h_run (r := none) (a := (Value.ref (w.2.1 + k0) :: As).toArray) C (fun hz H locs ls hP hZ hls => ?_) e1 e2 k
  exact va_runIN (n := n) (own := own) (host := RX11) (Ts := TB) ⟨C.1, C.2.1, C.2.2.1, C.2.2.2.1, hts⟩ hM ⟨va_cnB (Ts := TB) n hts (goodTB i1) rfl hrm.1 hrm.2 hml (hts _ i4) i7 hR, hy, hts _ i2⟩ ⟨CtPP_blind, fun U hU hW => ⟨rfl, by rw [hU]; exact hZ, hz, by rw [hU]; exact hP, va_K.moved hW.alike C.2.2.2.2.2.1, NX.warm hW C.2.2.2.2.2.2.2⟩⟩ rfl hn hls hst (lv_room hcat) hd hcs
theorem h_callS1 {y : MethodName} {bytes : ByteArray} {maxL n idx : Nat} {ret : Option FieldType} {rm : Room} {As st0 : List Value} {v : Value} (C : CxP w p s m args c A cc own nL) (hd : decode cc pc = .ok (.invokestatic idx, 3)) (hI : MIS y bytes maxL ret n) (hml : Cond.methodLink own idx y ∈ TB)
    (hM : CtI w l y (Cond.code y bytes maxL ret :: TB) rm As nn tt mm nn tt mm (some v) 0 0) (hn : As.length = n) (hrm : rm.cells = 0 ∧ rm.slots = 0) (hR : rm.frames + 1 ≤ R.frames ∧ 8 + (maxL + 11) + rm.locals ≤ R.locals) (hcs : cells ≤ R.cells ∧ slots ≤ R.slots) (hst : st0 = As.reverse ++ st) (hcat : (st.map fun v => v.category).sum ≤ 8)
    (k : GP w p l e R s m args below meth c A Q nL cells slots nn tt mm (pc + 3) L (v :: st)) : GP w p l e R s m args below meth c A Q nL cells slots nn tt mm pc L st0 := by
  obtain ⟨i1, i2, i4, i7⟩ := hI
  have hts := C.2.2.2.2.1
  refine h_run (r := some v) (mc := 0) (ms := 0) (a := As.toArray) C (fun hz H locs ls hP hZ hls => ?_) rfl rfl k
  exact va_runS (n := n) (own := own) (Ts := TB) ⟨C.1, C.2.1, C.2.2.1, C.2.2.2.1, hts⟩ hM ⟨callB_of (Ts := TB) n hts (goodTB i1) rfl hrm.1 hrm.2 (hts _ i4) (hts _ hml) i7 hR, hts _ i2⟩ ⟨CtPP_blind, fun U hU hW => ⟨rfl, by rw [hU]; exact hZ, hz, by rw [hU]; exact hP, va_K.moved hW.alike C.2.2.2.2.2.1, NX.warm hW C.2.2.2.2.2.2.2⟩⟩ rfl hn hls hst (lv_room hcat) hd hcs
theorem h_objInit {idx k0 : Nat} (C : CxP w p s m args c A cc own nL) (hd : decode cc pc = .ok (.invokespecial idx, 3)) (hml : Cond.methodLink own idx Lib.objectInit ∈ TB) (him : Cond.instanceMethod Lib.objectInit ∈ TB) (hcode : Cond.code Lib.objectInit ⟨#[0xb1]⟩ 1 none ∈ TB) (hR : 1 ≤ R.frames ∧ (st.map fun v => v.category).sum + 12 ≤ R.locals)
    (k : GP w p l e R s m args below meth c A Q nL cells slots nn tt mm (pc + 3) L st) : GP w p l e R s m args below meth c A Q nL cells slots nn tt mm pc L (rv w k0 :: st) := by
  intro hz H locs ls hP hZ hS hl
  have hts := C.2.2.2.2.1
  exact W.objInit C.1 C.2.1 C.2.2.2.1 (hts _ hml) (hts _ him) (hts _ hcode) (g := F0 m pc ls (rv w k0 :: st)) rfl (hl.1.trans C.2.2.1.symm) rfl hd hR.1 (by show 2 * 0 + _ + 12 ≤ _; have := hR.2; omega) (k hz H locs ls hP hZ hS hl)
theorem h_vret {r : Option Value} {n' t' m' mc ms : Nat} (C : CxP w p s m args c (fun q => w.2.1 ≤ q) cc own nL) (hd : decode cc pc = .ok (.return_, 1)) (hr : meth.sig.returnType = none) (hlk : meth.locks = false) (e : nn = n' ∧ tt = t' ∧ mm = m') (e2 : cells = mc ∧ slots = ms) (hv : r = none) :
    GPM w p l e0 R s m args below meth c r n' t' m' mc ms nL cells slots nn tt mm pc L [] := by
  obtain ⟨rfl, rfl, rfl⟩ := e
  obtain ⟨rfl, rfl⟩ := e2
  subst hv
  intro hz H locs ls hP hZ hS hl
  exact W.vret C.1 C.2.1 hr (fun t ht hW => ⟨⟨rfl, hz, by rw [ht]; exact hZ, by rw [ht]; exact hP⟩, hS.F ht⟩) hS.2.2 hd hlk
theorem h_lretU {n' t' m' mc ms : Nat} {x y : Int} (C : CxP w p s m args c (fun q => w.2.1 ≤ q) cc own nL) (hd : decode cc pc = .ok (.lreturn, 1)) (hr : meth.sig.returnType = some .long) (hlk : meth.locks = false) (e : nn = n' ∧ tt = t' ∧ mm = m') (e2 : cells = mc ∧ slots = ms) (h : some x = some y) :
    GPM w p l e0 R s m args below meth c (some (jv y)) n' t' m' mc ms nL cells slots nn tt mm pc L [jv x] := by
  obtain ⟨rfl, rfl, rfl⟩ := e
  obtain ⟨rfl, rfl⟩ := e2
  cases h
  intro hz H locs ls hP hZ hS hl
  exact W.lret (v := Int64.ofInt x) C.1 C.2.1 hr (fun t ht hW => ⟨⟨rfl, hz, by rw [ht]; exact hZ, by rw [ht]; exact hP⟩, hS.F ht⟩) hS.2.2 hd hlk
end GH2
