/-! calls -/
def zciL : List Nat := [0, 0, 0, 1, 1, 1, 1, 1, 2, 2, 3, 3, 3, 3, 3, 3, 4, 4, 4, 4, 4, 4, 4, 5, 5, 5, 5, 5, 5, 5, 5, 5, 5, 5, 5, 5, 5, 5, 5, 5, 5, 5, 6, 6, 6, 6, 6, 6, 6, 6, 6, 6, 6, 6, 6, 6, 6, 6, 6, 7, 7, 7, 7, 7, 7, 7, 7, 7, 7, 8, 8, 8, 8, 8, 8, 8, 8, 8, 8, 8, 8, 8, 8, 8, 8, 9, 9, 9, 9, 9, 9, 9, 9, 9, 9, 9, 9, 9, 9, 9, 9, 9, 9, 9, 9, 9, 9, 9, 9, 9, 9, 9, 9, 9, 9, 9, 9, 9, 9, 9, 9, 9, 9, 9, 9, 9, 9, 9, 9, 9, 9, 9, 9, 9, 9, 9, 9, 99, 99, 99, 99, 99, 99, 99, 99, 99, 99, 99]
def zci (m : Nat) : Nat := zciL.getD m 99
theorem zciA : (List.range 147).all (fun m => zst m || (decide (zcn (zci m) = (zyn m).cls) && decide (zci m < 10))) = true := by decide +kernel
def zdk (m : Nat) (q : Nat × MI) : Bool := if 72 ≤ q.2.1 ∧ q.2.1 ≤ 76 then decide (zdp q.2.2.2.1 < zdp m) else if q.2.1 = 78 then decide (2 ≤ zdp m) else if q.2.1 = 79 then decide (4 ≤ zdp m) else if 77 ≤ q.2.1 ∧ q.2.1 ≤ 82 then decide (1 ≤ zdp m) else true
theorem zdkA : (List.range 148).all (fun m => (zcode m).all (zdk m)) = true := by decide +kernel
theorem zdk_at {m pc : Nat} {i : MI} (h : cod m pc = some i) : zdk m (pc, i) = true :=
  List.all_eq_true.mp (List.all_eq_true.mp zdkA m (List.mem_range.mpr (zdc h).2.2.2)) _ (zlk h)
def vcs (st : List MV) : Nat := match st with
  | [] => 0
  | v :: vs => (if isLg (some v) then 2 else 1) + vcs vs
theorem vcs_ok {Z : EP} {top : Nat} : ∀ {st : List MV} {sr : List Value}, srel Z top st sr → (sr.map fun v => v.category).sum = vcs st
  | [], [], _ => rfl
  | [], _ :: _, h => h.elim
  | _ :: _, [], h => h.elim
  | v :: vs, w :: ws, h => by
    have ih := vcs_ok h.2
    show w.category + (ws.map fun v => v.category).sum = _ + vcs vs
    rw [ih]
    by_cases c : isLg (some v) = true
    · rw [if_pos c, vlong h.1 c]
    · rw [if_neg c, vcat h.1 (by simpa using c)]
theorem srel_app {Z : EP} {top : Nat} : ∀ {a b : List MV} {sr : List Value}, srel Z top (a ++ b) sr → ∃ x y, sr = x ++ y ∧ srel Z top a x ∧ srel Z top b y
  | [], b, sr, h => ⟨[], sr, rfl, trivial, h⟩
  | v :: a, b, sr, h => by
    obtain ⟨w, ws, rfl, h1, h2⟩ := srel_cons h
    obtain ⟨x, y, rfl, h3, h4⟩ := srel_app h2
    exact ⟨w :: x, y, rfl, ⟨h1, h3⟩, h4⟩
theorem srel_cat {Z : EP} {top : Nat} : ∀ {a b : List MV} {x y : List Value}, srel Z top a x → srel Z top b y → srel Z top (a ++ b) (x ++ y)
  | [], _, [], _, _, h => h
  | [], _, _ :: _, _, h, _ => h.elim
  | _ :: _, _, [], _, h, _ => h.elim
  | _ :: a, b, _ :: x, y, h, h2 => ⟨h.1, srel_cat h.2 h2⟩
theorem srel_rev {Z : EP} {top : Nat} : ∀ {a : List MV} {x : List Value}, srel Z top a x → srel Z top a.reverse x.reverse
  | [], [], _ => trivial
  | [], _ :: _, h => h.elim
  | _ :: _, [], h => h.elim
  | v :: a, w :: x, h => by
    rw [List.reverse_cons, List.reverse_cons]
    exact srel_cat (srel_rev h.2) ⟨h.1, trivial⟩
theorem srel_len {Z : EP} {top : Nat} : ∀ {a : List MV} {x : List Value}, srel Z top a x → a.length = x.length
  | [], [], _ => rfl
  | [], _ :: _, h => h.elim
  | _ :: _, [], h => h.elim
  | _ :: _, _ :: _, h => congrArg (· + 1) (srel_len h.2)
/-- a callee's words -/
theorem wz_in {b : Nat} (hb : b < 147) : GoodIn gW (wz b) := by
  intro w hw
  rcases List.mem_cons.mp hw with rfl | hw
  · exact ⟨zcwG b hb, good_of_word (List.mem_filter.mp (zcwG b hb)).2⟩
  · exact ⟨hw, good_of_word (List.mem_filter.mp hw).2⟩
theorem zmk_parts {b : Nat} (hb : b < 147) : (if zst b then Cond.static (zyn b) ∈ gW else Cond.instanceMethod (zyn b) ∈ gW) ∧ (zst b = false → (zyn b).name ≠ "<init>" → Cond.selects (zyn b).cls (zyn b) (zyn b) ∈ gW) ∧ Cond.initialized (zyn b).cls ∈ gW ∧ ((zyn b).cls ≠ "java/lang/invoke/MethodHandle" ∧ (zyn b).cls ≠ "java/lang/invoke/VarHandle" ∧ (parseMethodDescriptor (zyn b).desc).map (fun d => d.parameters.length) = some (zna b)) ∧ zml b ≤ 14 := by
  have h := zmk_at hb
  unfold zmk at h
  simp only [Bool.and_eq_true, decide_eq_true_eq, Bool.or_eq_true] at h
  obtain ⟨⟨⟨⟨⟨⟨h1, h2⟩, h3⟩, h4⟩, h5⟩, h6⟩, h7⟩ := h
  refine ⟨?_, fun q1 q2 => ?_, inW_ok h3, ⟨h5.1, h5.2, h6⟩, h7⟩
  · by_cases c : zst b = true
    · rw [if_pos c] at h1 ⊢
      exact inW_ok h1
    · rw [if_neg c] at h1 ⊢
      exact inW_ok h1
  · rcases h2 with (q | q) | q
    · rw [q1] at q; cases q
    · exact absurd q q2
    · exact inW_ok q
theorem zroom {m b : Nat} {Z : EP} {p : Program} {l : Launch} {e : Env} {R : Room} {s : State} {mid : MethodId} {args : Array Value} {below : List Frame} {meth : Method} {c : Code} {r : Res} {M M' : MH} (C : Cx m Z p l e R s mid args below meth c) (hb : b < 147) (hd : zdp b < zdp m) : (rmz b r M M').frames + 1 ≤ R.frames ∧ 8 + (zml b + 11) + (rmz b r M M').locals ≤ R.locals := by
  have h1 := (zmk_parts hb).2.2.2.2
  obtain ⟨-, -, -, -, -, -, -, -, -, h2, h3, -⟩ := C
  show zdp b + 1 ≤ R.frames ∧ 8 + (zml b + 11) + 40 * zdp b ≤ R.locals
  omega
theorem zpre {m : Nat} {Z : EP} {p : Program} {l : Launch} {e : Env} {R : Room} {s : State} {mid : MethodId} {args : Array Value} {below : List Frame} {meth : Method} {c : Code} {H : Heap} {locs : List Loc} {as : List MV} {ws : List Value} {M : MH} (C : Cx m Z p l e R s mid args below meth c) (hS : va_S (zA Z) s.heap H locs) (hH : HRel Z M H) (hs : srel Z M.2.2.1 as ws) : ∀ U : State, U.heap = H → s.WarmedH U.vm → Pz Z as M ws.toArray U := by
  intro U hU hW
  refine ⟨⟨ws, rfl, hs⟩, by rw [hU]; exact hH, ?_, by rw [hU]; exact Nat.le_trans C.2.2.2.2.2.2.2.2.2.2.2.2.2 hS.1⟩
  rw [hU]
  exact ((zEv C).kept hS.1 hS.2.1).warm hW
theorem call_go {pc : Nat} {Z : EP} {p : Program} {l : Launch} {e : Env} {R : Room} {s : State} {mid : MethodId} {args : Array Value} {below : List Frame} {meth : Method} {c : Code} {H : Heap} {locs : List Loc} {cells slots mc ms : Nat} {lr : Array Slot} {sr rest : List Value} {Qa : State → Outcome → State → Prop} {Qs : State → Prop} {v : Option MV} {M1 : MH} (hS : va_S (zA Z) s.heap H locs)
    (hrun : va_Run p l e R s mid args below meth c H locs cells slots mc ms (F0 mid pc lr sr) rest Qa (zA Z)) (hQa : ∀ st o t, Qa st o t → Qz Z v M1 #[] st o t)
    (k : ∀ (H' : Heap) (locs' : List Loc) (w : Option Value), orel Z M1.2.2.1 v w → HRel Z M1 H' → va_S (zA Z) s.heap H' locs' → W p l e R s mid args below meth c H' locs' (cells + mc) (slots + ms) Qs (F0 mid (pc + 3) lr (w.toList ++ rest))) : W p l e R s mid args below meth c H locs cells slots Qs (F0 mid pc lr sr) := by
  intro T hT X
  obtain ⟨v', st₀, t, T', L, h0, X', hL, e1, e2, hq, go⟩ := hrun T hT X
  obtain ⟨⟨w, hw, ho⟩, hH', hF⟩ := hQa _ _ _ hq
  have hw : v' = w := Outcome.returned.inj hw
  subst hw
  have hF1 := hF.1
  have hF2 := hF.2
  rw [h0] at hF1 hF2
  obtain ⟨t2, a1, b1⟩ := k t.heap (locs ++ L) v' ho hH' ⟨Nat.le_trans hS.1 hF1, fun q q1 q2 => by rw [hF2 q (Nat.lt_of_lt_of_le q1 hS.1) q2]; exact hS.2.1 q q1 q2, fun x hx => (List.mem_append.mp hx).elim (hS.2.2 x) (hL x)⟩ T' e1 X'
  exact ⟨t2, go t2 a1, b1⟩
theorem orel_st {Z : EP} {top : Nat} {v : Option MV} {w : Option Value} {st : List MV} {sr : List Value} (h : orel Z top v w) (hs : srel Z top st sr) : srel Z top (v.toList ++ st) (w.toList ++ sr) := by
  cases v with
  | none => cases h; exact hs
  | some v => obtain ⟨x, rfl, hx⟩ := h; exact ⟨hx, hs⟩
/-- a call that returns, whatever its kind -/
theorem R_callG {m pc b : Nat} {ls stk rest as : List MV} {M : MH} {Q : Res → MH → Prop}
    (run : ∀ (Z : EP) (p : Program) (l : Launch) (e : Env) (R : Room) (s : State) (mid : MethodId) (args : Array Value) (below : List Frame) (meth : Method) (c : Code) (v : Option MV) (M1 : MH), Cx m Z p l e R s mid args below meth c → Met l (zyn b) (wz b) (rmz b (.inl v) M M1) (Pz Z as M) (Qz Z v M1) (cst M1 + 0 - cst M) (sst M1 + 0 - sst M) (zA Z) →
      ∀ (H : Heap) (locs : List Loc) (cells slots : Nat) (lr : Array Slot) (sr : List Value), lrel Z M.2.2.1 (zml m) ls lr → srel Z M.2.2.1 stk sr → HRel Z M H → va_S (zA Z) s.heap H locs → cells + (cst M1 + 0 - cst M) ≤ R.cells → slots + (sst M1 + 0 - sst M) ≤ R.slots →
        ∃ (rv : List Value) (av : Array Value), srel Z M.2.2.1 rest rv ∧ va_Run p l e R s mid args below meth c H locs cells slots (cst M1 + 0 - cst M) (sst M1 + 0 - sst M) (F0 mid pc lr sr) rv (Qz Z v M1 av) (zA Z))
    (h : Call b as M (fun r M1 => ∃ v, r = .inl v ∧ Run m (pc + 3) ls (v.toList ++ rest) M1 Q)) : Run m pc ls stk M Q := by
  obtain ⟨r, M1, ⟨v, rfl, r', M', hQ, hm2, hY⟩, hm1, hX⟩ := h
  refine ⟨r', M', hQ, mle_trans hm1 hm2, ?_⟩
  have c1 := mle_c hm1
  have c2 := mle_s hm1
  have c3 := mle_c hm2
  have c4 := mle_s hm2
  intro Z p l e R s mid args below meth c Qs C H locs cells slots lr sr hl hs hH hS b1 b2 hE
  have hMet := hX l Z C.2.2.2.2.2.2.2.2.2.2.2.1
  obtain ⟨rv, av, hrv, hrun⟩ := run Z p l e R s mid args below meth c v M1 C hMet H locs cells slots lr sr hl hs hH hS (by omega) (by omega)
  refine call_go hS hrun (fun st o t q => q) fun H' locs' w ho hH' hS' => ?_
  exact hY Z p l e R s mid args below meth c Qs C H' locs' _ _ lr _ (lrel_mono hm1.1 hl) (orel_st ho (srel_mono hm1.1 hrv)) hH' hS' (by omega) (by omega) hE
theorem zcode_if {b : Nat} (h : (ztb b).isEmpty = true) : wz b = Cond.code (zyn b) (zby b) (zml b) (zrt b) :: gW := by
  unfold wz zcw
  rw [if_pos h]
theorem callBz {m b a : Nat} {Z : EP} {p : Program} {l : Launch} {e : Env} {R : Room} {s : State} {mid : MethodId} {args : Array Value} {below : List Frame} {meth : Method} {c : Code} {r : Res} {M M1 : MH} (C : Cx m Z p l e R s mid args below meth c) (hb : b < 147) (ht : (ztb b).isEmpty = true) (hd : zdp b < zdp m) (hl : Cond.methodLink (zyn m).cls a (zyn b) ∈ gW) : CallB R s args (zyn m).cls a (zyn b) (zby b) (zml b) (zrt b) (wz b) (rmz b r M M1) (rmz b r M M1).cells (rmz b r M M1).slots (zna b) :=
  callB_of (zna b) C.2.2.2.2.1 (wz_in hb) (zcode_if ht) rfl rfl (C.2.2.2.2.1 _ (zmk_parts hb).2.2.1) (C.2.2.2.2.1 _ hl) (zmk_parts hb).2.2.2.1 (zroom C hb hd)
theorem R_iv {m pc pc' : Nat} {ls stk rest as : List MV} {M : MH} {Q : Res → MH → Prop} {a b d : Nat} {z : Int} {tb : List (Int × Nat)} {q : Nat} (hc : cod m pc = some (72, a, b, d, z, tb)) (hp : pc + 3 = pc') (ht : (ztb b).isEmpty = true) (hk : K0 q = zci b + 1) (hn : as.length = zna b) (hr : vcs rest ≤ 8) (hst : stk = as.reverse ++ vR (some q) :: rest) (h : Call b (vR (some q) :: as) M (fun r M1 => ∃ v, r = .inl v ∧ Run m pc' ls (v.toList ++ rest) M1 Q)) : Run m pc ls stk M Q := by
  subst hp
  subst hst
  have hd : decode (zby m) pc = .ok (.invokevirtual a, 3) := (zdc hc).1
  have hw := Bool.and_eq_true_iff.mp (show (inW (66 + z.toNat) (.methodLink (zyn m).cls a (zyn b)) && decide (zst b = false ∧ (zyn b).name ≠ "<init>" ∧ b < 147)) = true from (zdc hc).2.1)
  obtain ⟨hs1, hs2, hb⟩ : zst b = false ∧ (zyn b).name ≠ "<init>" ∧ b < 147 := of_decide_eq_true hw.2
  have hdp : zdp b < zdp m := of_decide_eq_true (show decide _ = true from zdk_at hc)
  have hci := List.all_eq_true.mp zciA b (List.mem_range.mpr hb)
  rw [hs1] at hci
  simp only [Bool.false_or, Bool.and_eq_true, decide_eq_true_eq] at hci
  obtain ⟨p1, p2, p3, p4, p5⟩ := zmk_parts hb
  rw [if_neg (by rw [hs1]; decide)] at p1
  refine R_callG (rest := rest) (as := vR (some q) :: as) (fun Z p l e R s mid args below meth c v M1 C hMet H locs cells slots lr sr hl hs hH hS b1 b2 => ?_) h
  obtain ⟨x, y, rfl, hx, hy⟩ := srel_app hs
  obtain ⟨w, rv, rfl, ⟨rfl, g1⟩, hrv⟩ := srel_cons hy
  have hx' := srel_rev hx
  rw [List.reverse_reverse] at hx'
  obtain ⟨⟨cell, q1, q2, q3, -⟩, -⟩ := obj_of hH (g1 q rfl) hk hci.2
  have hcl : s.vm.findClass (zcn (zci b)) = some (Z.2.1.1 (zci b)) := ((zK C).1 _ _ (zcl_at hci.2)).2.1
  refine ⟨rv, _, hrv, va_runV (As := x.reverse) (b := Z.1 + q) (Ts := gW) ⟨C.1, C.2.1, C.2.2.1, C.2.2.2.1, C.2.2.2.2.1⟩ hMet ⟨callBz C hb ht hdp (inW_ok hw.1), C.2.2.2.2.1 _ p1, C.2.2.2.2.1 _ (p2 hs1 hs2)⟩ ⟨blindz, ⟨cell, q1, by rw [q3]; rfl, by rw [← hci.1, hcl, q2]⟩, zpre C hS hH ⟨⟨rfl, g1⟩, hx'⟩⟩ rfl (by rw [← srel_len hx']; exact hn) (hl.1) (by rw [List.reverse_reverse]; rfl) (lv_room (by rw [vcs_ok hrv]; exact hr)) hd ⟨b1, b2⟩⟩
theorem R_is {m pc pc' : Nat} {ls stk rest as : List MV} {M : MH} {Q : Res → MH → Prop} {a b d : Nat} {z : Int} {tb : List (Int × Nat)} {q : Nat} (hc : cod m pc = some (73, a, b, d, z, tb)) (hp : pc + 3 = pc') (ht : (ztb b).isEmpty = true) (hv : zrt b = none) (hn : as.length = zna b) (hr : vcs rest ≤ 8) (hst : stk = as.reverse ++ vR (some q) :: rest) (h : Call b (vR (some q) :: as) M (fun r M1 => ∃ v, r = .inl v ∧ Run m pc' ls (v.toList ++ rest) M1 Q)) : Run m pc ls stk M Q := by
  subst hp
  subst hst
  have hd : decode (zby m) pc = .ok (.invokespecial a, 3) := (zdc hc).1
  have hw := Bool.and_eq_true_iff.mp (show (inW (66 + z.toNat) (.methodLink (zyn m).cls a (zyn b)) && decide (zst b = false ∧ (zyn b).name = "<init>" ∧ b < 147)) = true from (zdc hc).2.1)
  obtain ⟨hs1, hs2, hb⟩ : zst b = false ∧ (zyn b).name = "<init>" ∧ b < 147 := of_decide_eq_true hw.2
  have hdp : zdp b < zdp m := of_decide_eq_true (show decide _ = true from zdk_at hc)
  obtain ⟨p1, p2, p3, p4, p5⟩ := zmk_parts hb
  rw [if_neg (by rw [hs1]; decide)] at p1
  refine R_callG (rest := rest) (as := vR (some q) :: as) (fun Z p l e R s mid args below meth c v M1 C hMet H locs cells slots lr sr hl hs hH hS b1 b2 => ?_) h
  obtain ⟨x, y, rfl, hx, hy⟩ := srel_app hs
  obtain ⟨w, rv, rfl, ⟨rfl, g1⟩, hrv⟩ := srel_cons hy
  have hx' := srel_rev hx
  rw [List.reverse_reverse] at hx'
  have hB := callBz (r := .inl v) (M := M) (M1 := M1) C hb ht hdp (inW_ok hw.1)
  rw [hv] at hB
  refine ⟨rv, _, hrv, va_runI (As := x.reverse) (b := Z.1 + q) (Ts := gW) ⟨C.1, C.2.1, C.2.2.1, C.2.2.2.1, C.2.2.2.2.1⟩ hMet ⟨hB, hs2, C.2.2.2.2.1 _ p1⟩ ⟨blindz, zpre C hS hH ⟨⟨rfl, g1⟩, hx'⟩⟩ rfl (by rw [← srel_len hx']; exact hn) (hl.1) (by rw [List.reverse_reverse]; rfl) (lv_room (by rw [vcs_ok hrv]; exact hr)) hd ⟨b1, b2⟩⟩
theorem callNz {m b a : Nat} {Z : EP} {p : Program} {l : Launch} {e : Env} {R : Room} {s : State} {mid : MethodId} {args : Array Value} {below : List Frame} {meth : Method} {c : Code} {r : Res} {M M1 : MH} (C : Cx m Z p l e R s mid args below meth c) (hb : b < 147) (ht : (ztb b).isEmpty = true) (hd : zdp b < zdp m) (hl : Cond.methodLinkNest (zyn m).cls a (zyn b) "RepairScan" ∈ nW) : va_CN R s args (zyn m).cls a (zyn b) "RepairScan" (zby b) (zml b) (zrt b) (wz b) (rmz b r M M1) (rmz b r M M1).cells (rmz b r M M1).slots (zna b) :=
  va_cnB (zna b) C.2.2.2.2.1 (wz_in hb) (zcode_if ht) rfl rfl ((zEv C).2.2.2.2.2.2.1 _ hl) (C.2.2.2.2.1 _ (zmk_parts hb).2.2.1) (zmk_parts hb).2.2.2.1 (zroom C hb hd)
theorem R_isN {m pc pc' : Nat} {ls stk rest as : List MV} {M : MH} {Q : Res → MH → Prop} {a b d : Nat} {z : Int} {tb : List (Int × Nat)} {q : Nat} (hc : cod m pc = some (74, a, b, d, z, tb)) (hp : pc + 3 = pc') (ht : (ztb b).isEmpty = true) (hv : zrt b = none) (hn : as.length = zna b) (hr : vcs rest ≤ 8) (hst : stk = as.reverse ++ vR (some q) :: rest) (h : Call b (vR (some q) :: as) M (fun r M1 => ∃ v, r = .inl v ∧ Run m pc' ls (v.toList ++ rest) M1 Q)) : Run m pc ls stk M Q := by
  subst hp
  subst hst
  have hd : decode (zby m) pc = .ok (.invokespecial a, 3) := (zdc hc).1
  have hw := Bool.and_eq_true_iff.mp (show (inN (66 + z.toNat) (.methodLinkNest (zyn m).cls a (zyn b) "RepairScan") && decide (zst b = false ∧ (zyn b).name = "<init>" ∧ b < 147)) = true from (zdc hc).2.1)
  obtain ⟨hs1, hs2, hb⟩ : zst b = false ∧ (zyn b).name = "<init>" ∧ b < 147 := of_decide_eq_true hw.2
  have hdp : zdp b < zdp m := of_decide_eq_true (show decide _ = true from zdk_at hc)
  obtain ⟨p1, p2, p3, p4, p5⟩ := zmk_parts hb
  rw [if_neg (by rw [hs1]; decide)] at p1
  refine R_callG (rest := rest) (as := vR (some q) :: as) (fun Z p l e R s mid args below meth c v M1 C hMet H locs cells slots lr sr hl hs hH hS b1 b2 => ?_) h
  obtain ⟨x, y, rfl, hx, hy⟩ := srel_app hs
  obtain ⟨w, rv, rfl, ⟨rfl, g1⟩, hrv⟩ := srel_cons hy
  have hx' := srel_rev hx
  rw [List.reverse_reverse] at hx'
  have hB := callNz (r := .inl v) (M := M) (M1 := M1) C hb ht hdp (inN_ok hw.1)
  rw [hv] at hB
  refine ⟨rv, _, hrv, va_runIN (As := x.reverse) (b := Z.1 + q) (Ts := gW) ⟨C.1, C.2.1, C.2.2.1, C.2.2.2.1, C.2.2.2.2.1⟩ hMet ⟨hB, hs2, C.2.2.2.2.1 _ p1⟩ ⟨blindz, zpre C hS hH ⟨⟨rfl, g1⟩, hx'⟩⟩ rfl (by rw [← srel_len hx']; exact hn) (hl.1) (by rw [List.reverse_reverse]; rfl) (lv_room (by rw [vcs_ok hrv]; exact hr)) hd ⟨b1, b2⟩⟩
theorem R_st {m pc pc' : Nat} {ls stk rest as : List MV} {M : MH} {Q : Res → MH → Prop} {a b d : Nat} {z : Int} {tb : List (Int × Nat)} (hc : cod m pc = some (75, a, b, d, z, tb)) (hp : pc + 3 = pc') (hn : as.length = zna b) (hr : vcs rest ≤ 8) (hst : stk = as.reverse ++ rest) (h : Call b as M (fun r M1 => ∃ v, r = .inl v ∧ Run m pc' ls (v.toList ++ rest) M1 Q)) : Run m pc ls stk M Q := by
  subst hp
  subst hst
  have hd : decode (zby m) pc = .ok (.invokestatic a, 3) := (zdc hc).1
  have hw := Bool.and_eq_true_iff.mp (show (inW (66 + z.toNat) (.methodLink (zyn m).cls a (zyn b)) && decide (zst b = true ∧ b < 147)) = true from (zdc hc).2.1)
  obtain ⟨hs1, hb⟩ : zst b = true ∧ b < 147 := of_decide_eq_true hw.2
  have hdp : zdp b < zdp m := of_decide_eq_true (show decide _ = true from zdk_at hc)
  obtain ⟨p1, p2, p3, p4, p5⟩ := zmk_parts hb
  rw [if_pos hs1] at p1
  refine R_callG (rest := rest) (as := as) (fun Z p l e R s mid args below meth c v M1 C hMet H locs cells slots lr sr hl hs hH hS b1 b2 => ?_) h
  obtain ⟨x, rv, rfl, hx, hrv⟩ := srel_app hs
  have hx' := srel_rev hx
  rw [List.reverse_reverse] at hx'
  by_cases ht : (ztb b).isEmpty = true
  · exact ⟨rv, _, hrv, va_runS (As := x.reverse) (Ts := gW) ⟨C.1, C.2.1, C.2.2.1, C.2.2.2.1, C.2.2.2.2.1⟩ hMet ⟨callBz C hb ht hdp (inW_ok hw.1), C.2.2.2.2.1 _ p1⟩ ⟨blindz, zpre C hS hH hx'⟩ rfl (by rw [← srel_len hx']; exact hn) (hl.1) (by rw [List.reverse_reverse]) (lv_room (by rw [vcs_ok hrv]; exact hr)) hd ⟨b1, b2⟩⟩
  · have hcw : wz b = Cond.codeWith (zyn b) (zby b) (zml b) (zrt b) (ztb b) :: gW := by unfold wz zcw; rw [if_neg ht]
    have hin : Cond.codeWith (zyn b) (zby b) (zml b) (zrt b) (ztb b) ∈ wz b := by rw [hcw]; exact List.mem_cons_self
    have hR := zroom (r := .inl v) (M := M) (M' := M1) C hb hdp
    refine ⟨rv, _, hrv, vx_runSW (hh := ztb b) (n := zna b) (As := x.reverse) (Ts := gW) ⟨C.1, C.2.1, C.2.2.1, C.2.2.2.1, C.2.2.2.2.1⟩ hMet ⟨⟨rfl, rfl, hR.1, hR.2, pay_in C.2.2.2.2.1 (wz_in hb), hin⟩, C.2.2.2.2.1 _ ((wz_in hb) _ hin).1, C.2.2.2.2.1 _ p3, ⟨p4.1, p4.2.1⟩, fun sig h9 => ?_, C.2.2.2.2.1 _ (inW_ok hw.1), C.2.2.2.2.1 _ p1⟩ ⟨blindz, zpre C hS hH hx'⟩ rfl (by rw [← srel_len hx']; exact hn) (hl.1) (by rw [List.reverse_reverse]) (lv_room (by rw [vcs_ok hrv]; exact hr)) hd ⟨b1, b2⟩⟩
    have h2 := p4.2.2
    rw [h9] at h2
    exact (Option.some.inj h2).symm
theorem R_stN {m pc pc' : Nat} {ls stk rest as : List MV} {M : MH} {Q : Res → MH → Prop} {a b d : Nat} {z : Int} {tb : List (Int × Nat)} (hc : cod m pc = some (76, a, b, d, z, tb)) (hp : pc + 3 = pc') (ht : (ztb b).isEmpty = true) (hn : as.length = zna b) (hr : vcs rest ≤ 8) (hst : stk = as.reverse ++ rest) (h : Call b as M (fun r M1 => ∃ v, r = .inl v ∧ Run m pc' ls (v.toList ++ rest) M1 Q)) : Run m pc ls stk M Q := by
  subst hp
  subst hst
  have hd : decode (zby m) pc = .ok (.invokestatic a, 3) := (zdc hc).1
  have hw := Bool.and_eq_true_iff.mp (show (inN (66 + z.toNat) (.methodLinkNest (zyn m).cls a (zyn b) "RepairScan") && decide (zst b = true ∧ b < 147)) = true from (zdc hc).2.1)
  obtain ⟨hs1, hb⟩ : zst b = true ∧ b < 147 := of_decide_eq_true hw.2
  have hdp : zdp b < zdp m := of_decide_eq_true (show decide _ = true from zdk_at hc)
  obtain ⟨p1, p2, p3, p4, p5⟩ := zmk_parts hb
  rw [if_pos hs1] at p1
  refine R_callG (rest := rest) (as := as) (fun Z p l e R s mid args below meth c v M1 C hMet H locs cells slots lr sr hl hs hH hS b1 b2 => ?_) h
  obtain ⟨x, rv, rfl, hx, hrv⟩ := srel_app hs
  have hx' := srel_rev hx
  rw [List.reverse_reverse] at hx'
  exact ⟨rv, _, hrv, va_runSN (As := x.reverse) (Ts := gW) ⟨C.1, C.2.1, C.2.2.1, C.2.2.2.1, C.2.2.2.2.1⟩ hMet ⟨callNz C hb ht hdp (inN_ok hw.1), C.2.2.2.2.1 _ p1, trivial⟩ ⟨blindz, zpre C hS hH hx'⟩ rfl (by rw [← srel_len hx']; exact hn) (hl.1) (by rw [List.reverse_reverse]) (lv_room (by rw [vcs_ok hrv]; exact hr)) hd ⟨b1, b2⟩⟩
theorem zfr {m : Nat} {Z : EP} {p : Program} {l : Launch} {e : Env} {R : Room} {s : State} {mid : MethodId} {args : Array Value} {below : List Frame} {meth : Method} {c : Code} (C : Cx m Z p l e R s mid args below meth c) : zdp m ≤ R.frames ∧ 40 * zdp m ≤ R.locals := ⟨C.2.2.2.2.2.2.2.2.2.1, C.2.2.2.2.2.2.2.2.2.2.1⟩
theorem R_objinit {m pc pc' : Nat} {ls st : List MV} {M : MH} {Q : Res → MH → Prop} {a b d : Nat} {z : Int} {tb : List (Int × Nat)} {q : Nat} (hc : cod m pc = some (77, a, b, d, z, tb)) (hp : pc + 3 = pc') (hr : vcs st ≤ 8) (h : Run m pc' ls st M Q) : Run m pc ls (vR (some q) :: st) M Q := by
  subst hp
  have hd : decode (zby m) pc = .ok (.invokespecial a, 3) := (zdc hc).1
  have hw : inW (66 + z.toNat) (.methodLink (zyn m).cls a objectInit) = true := (zdc hc).2.1
  have hdp : 1 ≤ zdp m := of_decide_eq_true (show decide _ = true from zdk_at hc)
  refine R_pure (fun Z p l e R s mid args below meth cc Qs C H locs cells slots lr sr hl hs hH hS b1 b2 k => ?_) h
  obtain ⟨w1, ws1, rfl, ⟨rfl, g1⟩, hs1⟩ := srel_cons hs
  have hfr := zfr C
  refine W.objInit C.1 C.2.1 C.2.2.2.1 (C.2.2.2.2.1 _ (inW_ok hw)) (C.2.2.2.2.1 _ zw_oi1) (C.2.2.2.2.1 _ zw_oi2) rfl (hl.1.trans C.2.2.1.symm) rfl hd (by omega) ?_ (k lr _ hl hs1)
  have h9 := lv_room (m := mid) (pc := pc) (ls := lr) (rest := ws1) (st := ws1) (by rw [vcs_ok hs1]; exact hr)
  show 2 * (F0 mid pc lr ws1).monitorRoom + (ws1.map fun v => v.category).sum + 12 ≤ R.locals
  omega
theorem mx32 {x y : Int} (hx : r32 x) (hy : r32 y) : (if Int32.ofInt x < Int32.ofInt y then Int32.ofInt y else Int32.ofInt x) = Int32.ofInt (max x y) := by
  by_cases c : x < y
  · rw [if_pos ((i32lt hx hy).mpr c), Int.max_eq_right (by omega)]
  · rw [if_neg (fun q => c ((i32lt hx hy).mp q)), Int.max_eq_left (by omega)]
theorem R_max {m pc pc' : Nat} {ls st : List MV} {M : MH} {Q : Res → MH → Prop} {a b d : Nat} {z : Int} {tb : List (Int × Nat)} {x y : Int} (hc : cod m pc = some (80, a, b, d, z, tb)) (hp : pc + 3 = pc') (hr : vcs st ≤ 8) (h : Run m pc' ls (vI (max x y) :: st) M Q) : Run m pc ls (vI y :: vI x :: st) M Q := by
  subst hp
  have hd : decode (zby m) pc = .ok (.invokestatic a, 3) := (zdc hc).1
  have hw : inW (66 + z.toNat) (.methodLink (zyn m).cls a Lib.Math.max.name) = true := (zdc hc).2.1
  have hdp : 1 ≤ zdp m := of_decide_eq_true (show decide _ = true from zdk_at hc)
  refine R_pure (fun Z p l e R s mid args below meth cc Qs C H locs cells slots lr sr hl hs hH hS b1 b2 k => ?_) h
  obtain ⟨w1, ws1, rfl, ⟨rfl, g1⟩, hs1⟩ := srel_cons hs
  obtain ⟨w2, ws2, rfl, ⟨rfl, g2⟩, hs2⟩ := srel_cons hs1
  have hfr := zfr C
  refine va_mmax C.1 C.2.1 (C.2.2.1.trans hl.1.symm) C.2.2.2.1 (C.2.2.2.2.1 _ (inW_ok hw)) (C.2.2.2.2.1 _ zw_max1) (C.2.2.2.2.1 _ zw_math) (C.2.2.2.2.1 _ zw_max2) (by omega) (by rw [vcs_ok hs2]; omega) b1 b2 hd ?_
  exact k lr _ hl ⟨⟨by rw [mx32 g2 g1], by obtain ⟨q1, q2⟩ := g1; obtain ⟨q3, q4⟩ := g2; constructor <;> omega⟩, hs2⟩
theorem mn32 {x y : Int} (hx : r32 x) (hy : r32 y) : (if Int32.ofInt y < Int32.ofInt x then Int32.ofInt y else Int32.ofInt x) = Int32.ofInt (min x y) := by
  by_cases c : y < x
  · rw [if_pos ((i32lt hy hx).mpr c), Int.min_eq_right (by omega)]
  · rw [if_neg (fun q => c ((i32lt hy hx).mp q)), Int.min_eq_left (by omega)]
theorem R_min {m pc pc' : Nat} {ls st : List MV} {M : MH} {Q : Res → MH → Prop} {a b d : Nat} {z : Int} {tb : List (Int × Nat)} {x y : Int} (hc : cod m pc = some (81, a, b, d, z, tb)) (hp : pc + 3 = pc') (hr : vcs st ≤ 8) (h : Run m pc' ls (vI (min x y) :: st) M Q) : Run m pc ls (vI y :: vI x :: st) M Q := by
  subst hp
  have hd : decode (zby m) pc = .ok (.invokestatic a, 3) := (zdc hc).1
  have hw : inW (66 + z.toNat) (.methodLink (zyn m).cls a Lib.Math.min.name) = true := (zdc hc).2.1
  have hdp : 1 ≤ zdp m := of_decide_eq_true (show decide _ = true from zdk_at hc)
  refine R_pure (fun Z p l e R s mid args below meth cc Qs C H locs cells slots lr sr hl hs hH hS b1 b2 k => ?_) h
  obtain ⟨w1, ws1, rfl, ⟨rfl, g1⟩, hs1⟩ := srel_cons hs
  obtain ⟨w2, ws2, rfl, ⟨rfl, g2⟩, hs2⟩ := srel_cons hs1
  have hfr := zfr C
  refine va_mmin C.1 C.2.1 (C.2.2.1.trans hl.1.symm) C.2.2.2.1 (C.2.2.2.2.1 _ (inW_ok hw)) (C.2.2.2.2.1 _ zw_min1) (C.2.2.2.2.1 _ zw_math) (C.2.2.2.2.1 _ zw_min2) (by omega) (by rw [vcs_ok hs2]; omega) b1 b2 hd ?_
  exact k lr _ hl ⟨⟨by rw [mn32 g2 g1], by obtain ⟨q1, q2⟩ := g1; obtain ⟨q3, q4⟩ := g2; constructor <;> omega⟩, hs2⟩
