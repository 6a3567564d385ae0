/-! a callee's throw, caught by a row of the method's own table -/
def xcs (pl : Platform) (s₀ : State) (d : ClassId) (pc : Nat) (cls : ClassId) (h : Nat) : List ExceptionTableEntry → Prop
  | [] => False
  | x :: t => (covers x pc = false ∧ xcs pl s₀ d pc cls h t) ∨ (covers x pc = true ∧ x.catchType ≠ 0 ∧ ∃ c, s₀.vm.ClassLinks pl d x.catchType c ∧ ((s₀.vm.assignable cls c = true ∧ x.handlerPc = h) ∨ (s₀.vm.assignable cls c = false ∧ xcs pl s₀ d pc cls h t)))
theorem xc_find {e : Env} {s₀ : State} {f : JFrame} {a : Addr} {cell : Cell} {h : Nat} (hobj : ∀ k, cell.vm ≠ .statics k) (hk0 : ∃ k, s₀.vm.classes[cell.cls]? = some k) :
    ∀ (tbl : List ExceptionTableEntry) (S : State), s₀.WarmedH S.vm → S.heap[a]? = some cell → xcs e.platform s₀ f.method.cls f.pc cell.cls h tbl →
      ∃ vm', s₀.WarmedH vm' ∧ ∀ (Q : Handler → Pre) (E : CtlPost) (d : Bool) (acts : List Action), wp (findHandler.go f a tbl) Q E e d acts S ↔ Q (.found h) d acts (S.setVm vm') := by
  obtain ⟨k0, hk0⟩ := hk0
  intro tbl
  induction tbl with
  | nil => intro S _ _ hf; exact hf.elim
  | cons x t ih =>
    intro S hW hcell hf
    rcases hf with ⟨hno, hf⟩ | ⟨hx, h0, c, hl, hf⟩
    · obtain ⟨vm', hW', hq⟩ := ih S hW hcell hf
      exact ⟨vm', hW', fun Q E d acts => by rw [W.findHandler_go_skip hno]; exact hq Q E d acts⟩
    · obtain ⟨dk, _, _, kt, hd, _, _, _, _, hkt, _, hopn⟩ := hl.here
      have hlS := hW.classLinks hl
      obtain ⟨ha, ht⟩ := (resolveClass_links e.toSetting hlS).op (op := VmOp.resolveClass f.method.cls x.catchType) rfl
      have hal : S.vm.Alike (S.vm.noted f.method.cls x.catchType (.cls c)) := (Vm.Alike.refl S.vm).noted _ _ _
      have hWn := hW.noted hd hopn (State.rightAt_cls hl)
      obtain ⟨k1, hk1, -⟩ := hWn.alike.2.2 _ _ hk0
      obtain ⟨k2, hk2, -⟩ := hWn.alike.2.2 _ _ hkt
      have hcv := hx
      simp only [covers] at hcv
      rcases hf with ⟨hfit, hh⟩ | ⟨hfit, hf⟩
      · have hfit' : (S.vm.noted f.method.cls x.catchType (.cls c)).assignable cell.cls c = true := by rw [hWn.alike.assignable]; exact hfit
        refine ⟨_, hWn, fun Q E d acts => ?_⟩
        subst hh
        simp [findHandler.go, hcv, h0, ha, ht, hcell, hobj, hk1, hk2, hfit', VmOp.dirties, VmOp.acts]
      · have hfit' : (S.vm.noted f.method.cls x.catchType (.cls c)).assignable cell.cls c = false := by rw [hWn.alike.assignable]; exact hfit
        obtain ⟨vm', hW', hq⟩ := ih (S.setVm (S.vm.noted f.method.cls x.catchType (.cls c))) hWn hcell hf
        refine ⟨vm', hW', fun Q E d acts => ?_⟩
        have h9 := hq Q E d acts
        simp [findHandler.go, hcv, h0, ha, ht, hcell, hobj, hk1, hk2, hfit', VmOp.dirties, VmOp.acts]
        exact h9
theorem xc_go {p : Program} {l : Launch} {e : Env} {R : Room} {s : State} {mid : MethodId} {args : Array Value} {below : List Frame} {meth : Method} {c : Code} {T : State} {locs : List Loc} {cells slots : Nat} (X : Stand p l e R s mid args below meth c T locs cells slots) (a : Addr) {g : JFrame} (hg : g.method = mid) {cell : Cell} (hcell : T.heap[a]? = some cell) (hobj : cell.vm.isStatics = false) (hk0 : ∃ k, s.vm.classes[cell.cls]? = some k) {h : Nat}
    (hx : xcs e.platform s mid.cls g.pc cell.cls h c.exceptionTable.toList) :
    ∃ vm', Stand p l e R s mid args below meth c (T.setVm vm') locs cells slots ∧ ∀ target, Steps p.tables e below ((T.setVm vm').setTop { g with pc := h, stack := [.ref a] }) target → Steps p.tables e below ((T.setTop g).pushFrame (.throwing a)) target := by
  subst hg
  obtain ⟨vm', hW', hq⟩ := xc_find (e := e) (s₀ := s) (f := g) (a := a) (VmData.ne_statics_of hobj) hk0 _ ((T.setTop g).pushFrame (.throwing a)) (show s.WarmedH T.vm from X.warmed) (show T.heap[a]? = some cell from hcell) hx
  refine ⟨vm', X.noted hW', fun target hrest => ?_⟩
  have hfind : ∀ (Q : Handler → Pre) (E : CtlPost) (d : Bool) (acts : List Action), wp (findHandler g a) Q E e d acts ((T.setTop g).pushFrame (.throwing a)) ↔ Q (.found h) d acts (((T.setTop g).pushFrame (.throwing a)).setVm vm') := fun Q E d acts => by
    rw [W.findHandler_eq (s := (T.setTop g).pushFrame (.throwing a)) (show T.vm.method? g.method = some meth from X.method') X.code]
    exact hq Q E d acts
  have hat : At T g.method c below := X.here
  obtain ⟨hgo, hw⟩ := hat.throwing a
  refine Steps.head hgo hw ?_
  have hst : ∀ r : List Frame, (stepThrowing e ((T.setTop g).pushFrame (.throwing a)) a (.java g :: r)).1 = ((((T.setTop g).pushFrame (.throwing a)).setVm vm').setFrames (.java { g with pc := h, stack := [.ref a] } :: r)) := by
    intro r
    simp only [stepThrowing, searchFrame, vmDo]
    generalize hr : Sem.go _ e false [] ((T.setTop g).pushFrame (.throwing a)) = res
    obtain ⟨as, rfl, ha⟩ := Sem.eq_ok_of hr (a := Handler.found h) (s' := ((T.setTop g).pushFrame (.throwing a)).setVm vm') (acts' := []) (by simp [hfind _ _ _ _])
    rfl
  rw [stepThread_throwing (frames_entered hat.top _), hst]
  obtain ⟨g₀, hg⟩ := Option.isSome_iff_exists.mp hat.top
  obtain ⟨r, hr⟩ := State.topJava?_eq_some.mp hg
  have hr' : (T.setVm vm').frames = .java g₀ :: r := hr
  rw [State.setTop_of_frames _ hr'] at hrest
  have hsf : ∀ (u : State) (F G : List Frame), ((u.setFrames F).setVm vm').setFrames G = (u.setVm vm').setFrames G := by
    intro u F G
    have h1 : (u.setFrames F).setVm vm' = (u.setVm vm').setFrames F := rfl
    rw [h1, State.setFrames_setFrames]
  rw [hr, List.tail_cons, State.pushFrame, hsf, State.setTop_of_frames _ hr, hsf]
  exact hrest
def zct (c : Nat) : Nat := if c = 13 then 0 else if c = 19 then 1 else if c = 25 then 2 else if c = 27 then 3 else 9
def hnd : List (Nat × Nat × Nat × Nat) → Nat → Nat → Option Nat
  | [], _, _ => none
  | (b, e, h, c) :: t, pc, k => if b ≤ pc ∧ pc < e then (if zct c = k then some h else if zct c = 2 ∧ k = 3 then hnd t pc k else none) else hnd t pc k
theorem xl_0 : Cond.classLink "RepairScanLaw" 13 (zex 0) ∈ gW := inW_ok (i := 815) (by decide +kernel)
theorem xq_0 : Cond.castable (zex 0) (zex 0) ∈ nW := inN_ok (i := 822) (by decide +kernel)
theorem xl_1 : Cond.classLink "RepairScanLaw" 19 (zex 1) ∈ gW := inW_ok (i := 887) (by decide +kernel)
theorem xq_1 : Cond.castable (zex 1) (zex 1) ∈ nW := inN_ok (i := 894) (by decide +kernel)
theorem xl_2 : Cond.classLink "RepairScanLaw" 25 (zex 2) ∈ gW := inW_ok (i := 910) (by decide +kernel)
theorem xq_2 : Cond.castable (zex 2) (zex 2) ∈ nW := inN_ok (i := 919) (by decide +kernel)
theorem xl_3 : Cond.classLink "RepairScanLaw" 27 (zex 3) ∈ gW := inW_ok (i := 911) (by decide +kernel)
theorem xq_3 : Cond.castable (zex 3) (zex 3) ∈ nW := inN_ok (i := 934) (by decide +kernel)
theorem xl_at {c : Nat} (h : zct c < 4) : Cond.classLink "RepairScanLaw" c (zex (zct c)) ∈ gW := by
  unfold zct at h ⊢
  split
  · rename_i e; subst e; exact xl_0
  · split
    · rename_i e; subst e; exact xl_1
    · split
      · rename_i e; subst e; exact xl_2
      · split
        · rename_i e; subst e; exact xl_3
        · rename_i e1 e2 e3 e4
          rw [if_neg e1, if_neg e2, if_neg e3, if_neg e4] at h
          omega
theorem xq_at {k : Nat} (h : k < 4) : Cond.castable (zex k) (zex k) ∈ nW := by
  rcases (show k = 0 ∨ k = 1 ∨ k = 2 ∨ k = 3 by omega) with rfl | rfl | rfl | rfl
  · exact xq_0
  · exact xq_1
  · exact xq_2
  · exact xq_3
theorem xc_of {m : Nat} {Z : EP} {p : Program} {l : Launch} {e : Env} {R : Room} {s : State} {mid : MethodId} {args : Array Value} {below : List Frame} {meth : Method} {c : Code} (C : Cx m Z p l e R s mid args below meth c) (hown : (zyn m).cls = "RepairScanLaw") (hpl : e.platform.magicAccessors = ({} : Platform).magicAccessors) {k pc h : Nat} (hk : k < 4) {cls : ClassId} (hcls : s.vm.findClass (zex k) = some cls) :
    ∀ tbl : List ExceptionTableEntry, hnd (tbl.map (fun x => (x.startPc, x.endPc, x.handlerPc, x.catchType))) pc k = some h → xcs e.platform s mid.cls pc cls h tbl := by
  have hfc : s.vm.findClass "RepairScanLaw" = some mid.cls := by rw [← hown]; exact C.2.2.2.1
  intro tbl
  induction tbl with
  | nil => intro hh; cases hh
  | cons x t ih =>
    intro hh
    rw [List.map_cons] at hh
    unfold hnd at hh
    by_cases hc : x.startPc ≤ pc ∧ pc < x.endPc
    · rw [if_pos hc] at hh
      refine Or.inr ⟨by simp [covers, hc], ?_⟩
      by_cases c1 : zct x.catchType = k
      · rw [if_pos c1] at hh
        have h4 : zct x.catchType < 4 := by omega
        refine ⟨fun e => by rw [e] at h4; revert h4; decide, ?_⟩
        obtain ⟨c', hc', hcl⟩ := Cond.classLink_spec hfc (C.2.2.2.2.1 _ (xl_at h4)) e.platform hpl
        obtain ⟨c3, c4, hc3, hc4, hasg⟩ := Cond.castable_spec (zN C (xq_at hk) rfl)
        rw [c1] at hc'
        cases Option.some.inj (hc'.symm.trans hc4)
        cases Option.some.inj (hc3.symm.trans hcls)
        exact ⟨c', hcl, Or.inl ⟨hasg, Option.some.inj hh⟩⟩
      · rw [if_neg c1] at hh
        by_cases c2 : zct x.catchType = 2 ∧ k = 3
        · rw [if_pos c2] at hh
          obtain ⟨c2, rfl⟩ := c2
          have h4 : zct x.catchType < 4 := by omega
          refine ⟨fun e => by rw [e] at h4; revert h4; decide, ?_⟩
          obtain ⟨c', hc', hcl⟩ := Cond.classLink_spec hfc (C.2.2.2.2.1 _ (xl_at h4)) e.platform hpl
          obtain ⟨a1, a2, n1, n2, n3⟩ := (zEv C).2.2.2.2.2.2.2.2.1
          rw [c2] at hc'
          cases Option.some.inj (hc'.symm.trans n2)
          cases Option.some.inj (n1.symm.trans hcls)
          exact ⟨c', hcl, Or.inr ⟨n3, ih hh⟩⟩
        · rw [if_neg c2] at hh
          cases hh
    · rw [if_neg hc] at hh
      refine Or.inl ⟨?_, ih hh⟩
      simp only [covers]
      simpa using hc
/-- a call from a method of the law with a table: it returns, or it throws what a row of the table takes -/
theorem R_ivX {m pc pc' : Nat} {ls stk rest as : List MV} {M : MH} {Q : Res → MH → Prop} {a b d : Nat} {z : Int} {tb : List (Int × Nat)} {q : Nat} (hc : cod m pc = some (72, a, b, d, z, tb)) (hp : pc + 3 = pc') (hown : (zyn m).cls = "RepairScanLaw") (ht : (ztb b).isEmpty = true) (hk : K0 q = zci b + 1) (hn : as.length = zna b) (hr : vcs rest ≤ 8) (hst : stk = as.reverse ++ vR (some q) :: rest)
    (h : Call b (vR (some q) :: as) M (fun r M1 => (∃ v, r = .inl v ∧ Run m pc' ls (v.toList ++ rest) M1 Q) ∨ ∃ k hp, r = .inr k ∧ k < 4 ∧ hnd (ztb m) pc k = some hp ∧ Run m hp ls [vJ] (xN M1) Q)) : Run m pc ls stk M Q := by
  obtain ⟨r, M1, hor, hm1, hX⟩ := h
  rcases hor with hv | ⟨k, hpc, rfl, hk4, hh, r', M', hQ, hm2, hY⟩
  · exact R_iv hc hp ht hk hn hr hst ⟨r, M1, hv, hm1, hX⟩
  · subst hp
    subst hst
    have hd : decode (zby m) pc = .ok (.invokevirtual a, 3) := (zdc hc).1
    have hw := Bool.and_eq_true_iff.mp (show (inW (66 + z.toNat) (.methodLink (zyn m).cls a (zyn b)) && decide (zst b = false ∧ (zyn b).name ≠ "<init>" ∧ b < 147)) = true from (zdc hc).2.1)
    obtain ⟨hs1, hs2, hb⟩ : zst b = false ∧ (zyn b).name ≠ "<init>" ∧ b < 147 := of_decide_eq_true hw.2
    have hdp : zdp b < zdp m := of_decide_eq_true (show decide _ = true from zdk_at hc)
    have hci := List.all_eq_true.mp zciA b (List.mem_range.mpr hb)
    rw [hs1] at hci
    simp only [Bool.false_or, Bool.and_eq_true, decide_eq_true_eq] at hci
    obtain ⟨p1, p2, p3, p4, p5⟩ := zmk_parts hb
    rw [if_neg (by rw [hs1]; decide)] at p1
    have c1 := mle_c hm1
    have c2 := mle_s hm1
    have c3 := mle_c hm2
    have c4 := mle_s hm2
    have x1 : cst (xN M1) = cst M1 + 1 := rfl
    have x2 : sst (xN M1) = sst M1 + 6 := by show zss M1.2.2.1 + 6 * (M1.2.2.2.1 + 1) = zss M1.2.2.1 + 6 * M1.2.2.2.1 + 6; omega
    have hmx : mle M (xN M1) := ⟨hm1.1, Nat.le_succ_of_le hm1.2⟩
    refine ⟨r', M', hQ, mle_trans hmx hm2, ?_⟩
    intro Z p l e R s mid args below meth c Qs C H locs cells slots lr sr hl hs hH hS b1 b2 hE
    have hMet := hX l Z C.2.2.2.2.2.2.2.2.2.2.2.1
    obtain ⟨x, y, rfl, hx, hy⟩ := srel_app hs
    obtain ⟨w, rv, rfl, ⟨rfl, g1⟩, hrv⟩ := srel_cons hy
    have hx' := srel_rev hx
    rw [List.reverse_reverse] at hx'
    obtain ⟨⟨cell, q1, q2, q3, -⟩, -⟩ := obj_of hH (g1 q rfl) hk hci.2
    have hcl : s.vm.findClass (zcn (zci b)) = some (Z.2.1.1 (zci b)) := ((zK C).1 _ _ (zcl_at hci.2)).2.1
    have hrun := vx_runV (e := e) (below := below) (meth := meth) (As := x.reverse) (b := Z.1 + q) (Ts := gW) (g := F0 mid pc lr (x ++ Value.ref (Z.1 + q) :: rv)) (rest := rv) (locs := locs) (cells := cells) (slots := slots) ⟨C.1, C.2.1, C.2.2.1, C.2.2.2.1, C.2.2.2.2.1⟩ hMet ⟨callBz C hb ht hdp (inW_ok hw.1), C.2.2.2.2.1 _ p1, C.2.2.2.2.1 _ (p2 hs1 hs2)⟩ ⟨blindz, ⟨cell, q1, by rw [q3]; rfl, by rw [← hci.1, hcl, q2]⟩, zpre C hS hH ⟨⟨rfl, g1⟩, hx'⟩⟩ rfl (by rw [← srel_len hx']; exact hn) (hl.1) (by rw [List.reverse_reverse]) (lv_room (by rw [vcs_ok hrv]; exact hr)) hd ⟨by omega, by omega⟩
    intro T hT X
    rcases hrun T hT X with ⟨v9, st₀, t, T', L, h0, X', hL, e1, e2, hq, go⟩ | ⟨q9, st₀, t, T', L, E, ce, h0, X', hL, e1, e2, ⟨rfl, hH', hF⟩, hce, hcv, hcE, go⟩
    · exact hq.elim
    · have hF1 := hF.1
      have hF2 := hF.2
      rw [h0] at hF1 hF2
      have hpl : e.platform.magicAccessors = ({} : Platform).magicAccessors := by rw [X.admits.platform]
      have hxc := xc_of C hown hpl hk4 hcE c.exceptionTable.toList (by rw [C.2.2.2.2.2.2.2.2.1]; exact hh)
      obtain ⟨vm', X2, st2⟩ := xc_go X' q9 (g := F0 mid pc lr rv) rfl (cell := ce) (by rw [e1]; exact hce) (by rw [hcv]; rfl) (by obtain ⟨k9, h9, -⟩ := Vm.findClass_spec hcE; exact ⟨k9, h9⟩) hxc
      obtain ⟨t2, a1, b3⟩ := hY Z p l e R s mid args below meth c Qs C t.heap (locs ++ L) _ _ lr [.ref q9] (lrel_mono hm1.1 hl) ⟨⟨q9, rfl⟩, trivial⟩ hH' ⟨Nat.le_trans hS.1 hF1, fun x9 q1 q2 => by rw [hF2 x9 (Nat.lt_of_lt_of_le q1 hS.1) q2]; exact hS.2.1 x9 q1 q2, fun x9 hx9 => (List.mem_append.mp hx9).elim (hS.2.2 x9) (hL x9)⟩ (by omega) (by omega) hE (T'.setVm vm') e1 X2
      exact ⟨t2, go.trans (st2 t2 a1), b3⟩
/-- System.arraycopy over rows of bytes -/
theorem pk_fb2 (r : Int8) : fits .byte (.int r.toInt32) = true := by
  have h := pk_fb r.toInt32
  rwa [Int8.toInt8_toInt32] at h
def cpI (M : MH) (src sp dst dp n : Nat) : MH := (fun b j => if b = dst ∧ dp ≤ j ∧ j < dp + n then M.1 src (sp + (j - dp)) else M.1 b j, M.2)
theorem R_copy {m pc pc' : Nat} {ls st : List MV} {M : MH} {Q : Res → MH → Prop} {a b d : Nat} {z : Int} {tb : List (Int × Nat)} {src dst : Nat} {sp dp n : Int} (hc : cod m pc = some (82, a, b, d, z, tb)) (hp : pc + 3 = pc') (hk1 : K0 src = 1 + 21) (hk2 : K0 dst = 1 + 21) (h0 : 0 ≤ sp) (h1 : 0 ≤ dp) (h2 : 0 ≤ n) (h3 : sp + n ≤ L0 src) (h4 : dp + n ≤ L0 dst) (hdp : 4 ≤ zdp m) (hr : vcs st ≤ 8)
    (h : Run m pc' ls st (cpI M src sp.toNat dst dp.toNat n.toNat) Q) : Run m pc ls (vI n :: vI dp :: vR (some dst) :: vI sp :: vR (some src) :: st) M Q := by
  subst hp
  have hd : decode (zby m) pc = .ok (.invokestatic a, 3) := (zdc hc).1
  have hw : inW (66 + z.toNat) (.methodLink (zyn m).cls a arraycopyName) = true := (zdc hc).2.1
  refine R_heap (M2 := cpI M src sp.toNat dst dp.toNat n.toNat) rfl (fun Z p l e R s mid args below meth cc Qs C H locs cells slots lr sr hl hs hH hS b1 b2 k => ?_) h
  obtain ⟨w0, ws0, rfl, ⟨rfl, g0⟩, hs0⟩ := srel_cons hs
  obtain ⟨w1, ws1, rfl, ⟨rfl, g1⟩, hs1⟩ := srel_cons hs0
  obtain ⟨w2, ws2, rfl, ⟨rfl, g2⟩, hs2⟩ := srel_cons hs1
  obtain ⟨w3, ws3, rfl, ⟨rfl, g3⟩, hs3⟩ := srel_cons hs2
  obtain ⟨w4, ws4, rfl, ⟨rfl, g4⟩, hs4⟩ := srel_cons hs3
  obtain ⟨e1, f1⟩ := arr_of hH (g4 src rfl) hk1
  obtain ⟨e2, f2⟩ := arr_of hH (g2 dst rfl) hk2
  obtain ⟨ty, a1, a2, y0, y1, y2, y3, y4⟩ := zarr C 1 (by decide)
  cases y1 rfl
  have hfr := zfr C
  have e1 : H[Z.1 + src]? = some (arrV (Z.2.2.1 1) (L0 src) (fun j => .int (Int32.ofInt (M.1 src j)))) := e1
  have e2 : H[Z.1 + dst]? = some (arrV (Z.2.2.1 1) (L0 dst) (fun j => .int (Int32.ofInt (M.1 dst j)))) := e2
  intro T hT X
  obtain ⟨-, k0, hk0, cm0, hkk0⟩ := a1 (L0 src) (fun j => .int (Int32.ofInt (M.1 src j)))
  obtain ⟨-, k1, hk1', cm1, hkk1⟩ := a1 (L0 dst) (fun j => .int (Int32.ofInt (M.1 dst j)))
  have q0 : ¬ Int32.ofInt sp < 0 := fun q => by rw [i32neg g3] at q; omega
  have q1 : ¬ Int32.ofInt dp < 0 := fun q => by rw [i32neg g1] at q; omega
  have q2 : ¬ Int32.ofInt n < 0 := fun q => by rw [i32neg g0] at q; omega
  obtain ⟨vm', X', step⟩ := X.arraycopy C.1 C.2.2.2.1 (C.2.2.2.2.1 _ (inW_ok hw)) (C.2.2.2.2.1 _ zw_ac1) (C.2.2.2.2.1 _ zw_ac2) (C.2.2.2.2.1 _ zw_sys) (src := Z.1 + src) (dst := Z.1 + dst) (srcPos := Int32.ofInt sp) (destPos := Int32.ofInt dp) (n := Int32.ofInt n) (by rw [hT]; exact e1) (by rw [hT]; exact e2)
    (fun _ h => by cases h) (fun _ h => by cases h) (fun h => by cases h) (fun h => by cases h) hk0 hk1' hkk0 hkk1 (by simp [refKind]) q0 q1 q2
    (by rw [i32t g3, i32t g0, arrV_size]; omega)
    (by rw [i32t g1, i32t g0, arrV_size]; omega)
    (fun vm₁ _ i hi => by
      rw [i32clamp g0] at hi
      have e : (arrV (Z.2.2.1 1) (L0 src) (fun j => .int (Int32.ofInt (M.1 src j)))).slots.getD ((Int32.ofInt sp).toNatClampNeg + i) .null = .int (Int32.ofInt (M.1 src (sp.toNat + i))) := by
        rw [i32clamp g3, Array.getD_eq_getD_getElem?, arrV_read _ _ (by omega)]
        rfl
      have hb9 : -128 ≤ M.1 src (sp.toNat + i) ∧ M.1 src (sp.toNat + i) < 128 := f1 _ (by omega)
      refine ⟨?_, ?_⟩
      · rw [e, ← i8w hb9]
        exact pk_fb2 _
      · rw [e]
        exact trivial)
    (g := F0 mid pc lr (.int (Int32.ofInt n) :: .int (Int32.ofInt dp) :: .ref (Z.1 + dst) :: .int (Int32.ofInt sp) :: .ref (Z.1 + src) :: ws4)) rfl (by rw [C.2.2.1]; exact hl.1) (rest := ws4) rfl (by rw [C.2.1]; exact hd) (by omega) (by
      show 2 * 0 + (ws4.map fun v => v.category).sum + (nativeFrameWords "java/lang/System" "arraycopy" 5 + 11) ≤ R.locals
      rw [vcs_ok hs4]
      have h9 : nativeFrameWords "java/lang/System" "arraycopy" 5 ≤ 100 := by decide
      omega)
  have e3 : copied (arrV (Z.2.2.1 1) (L0 src) (fun j => .int (Int32.ofInt (M.1 src j)))) (arrV (Z.2.2.1 1) (L0 dst) (fun j => .int (Int32.ofInt (M.1 dst j)))) (Int32.ofInt sp) (Int32.ofInt dp) (Int32.ofInt n) = arrV (Z.2.2.1 1) (L0 dst) (fun j => .int (Int32.ofInt (va_cpy (M.1 src) (M.1 dst) sp.toNat dp.toNat n.toNat j))) := by
    unfold copied
    rw [i32clamp g3, i32clamp g1, i32clamp g0]
    exact va_copied (fun z => Value.int (Int32.ofInt z)) _ _ (M.1 src) (M.1 dst) (by omega)
  rw [e3] at X' step
  have hlt : Z.1 + dst < H.size := (Array.getElem?_eq_some_iff.mp e2).1
  have hheap : ((T.setVm vm').setCell (Z.1 + dst) (arrV (Z.2.2.1 1) (L0 dst) (fun j => .int (Int32.ofInt (va_cpy (M.1 src) (M.1 dst) sp.toNat dp.toNat n.toNat j))))).heap = H.setIfInBounds (Z.1 + dst) (arrV (Z.2.2.1 1) (L0 dst) (fun j => .int (Int32.ofInt (va_cpy (M.1 src) (M.1 dst) sp.toNat dp.toNat n.toNat j)))) := by rw [← hT]; rfl
  have oq : ∀ q : Nat, q ≠ Z.1 + dst → (H.setIfInBounds (Z.1 + dst) (arrV (Z.2.2.1 1) (L0 dst) (fun j => .int (Int32.ofInt (va_cpy (M.1 src) (M.1 dst) sp.toNat dp.toNat n.toNat j)))))[q]? = H[q]? := fun q hq => by simp [Array.getElem?_setIfInBounds, Ne.symm hq]
  have hcp : ∀ j, (cpI M src sp.toNat dst dp.toNat n.toNat).1 dst j = va_cpy (M.1 src) (M.1 dst) sp.toNat dp.toNat n.toNat j := by
    intro j
    unfold cpI va_cpy
    simp
  obtain ⟨t, a9, b9⟩ := k _ _ lr _ hl hs4 (HRel_put (q := dst) hH rfl (fun a' hne k' => by simp [cpI, hne]) (fun a' hne k' => rfl) (by simp) oq (celR_arr hk2 ⟨by
      simp only [hcp]
      rw [Array.getElem?_setIfInBounds, if_pos rfl, if_pos hlt]
      rfl, fun j hj => by
      rw [hcp]
      unfold va_cpy
      split
      · exact f1 _ (by omega)
      · exact f2 j hj⟩)) ⟨by simp; exact hS.1, fun q g1 g2 => by
      rw [oq q (fun e => g2 (by rw [e]; exact Nat.le_add_right _ _))]
      exact hS.2.1 q g1 g2, fun q hq => by
      rcases List.mem_append.mp hq with h | h
      · exact hS.2.2 q h
      · obtain ⟨z, -, hz⟩ := List.mem_map.mp h
        rw [← hz]
        exact Nat.le_add_right _ _⟩ _ hheap X'
  exact ⟨t, step t a9, b9⟩
