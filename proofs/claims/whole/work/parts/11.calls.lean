/-! ends, entries, calls -/
theorem R_end {m pc : Nat} {ls st : List MV} {M : MH} {Q : Res → MH → Prop} {r : Res} (hx : ∀ k, r ≠ .inr k) (he : endOK m pc r st) (hq : Q r M) : Run m pc ls st M Q := by
  refine ⟨r, M, hq, mle_refl, ?_⟩
  intro Z p l e R s mid args below meth c Qs C H locs cells slots lr sr hl hs hH hS b1 b2 hE
  exact hE H locs cells slots pc lr sr st he hs hl.1 hH hS (by omega) (by omega) (fun ⟨k, hk⟩ => absurd hk (hx k))
theorem R_vret {m pc : Nat} {ls : List MV} {M : MH} {Q : Res → MH → Prop} {a b d : Nat} {z : Int} {tb : List (Int × Nat)} (hc : cod m pc = some (86, a, b, d, z, tb)) (hr : zrt m = none) (hq : Q (.inl none) M) : Run m pc ls [] M Q :=
  R_end (r := .inl none) (fun _ h => by cases h) ⟨rfl, hr, a, b, d, z, tb, hc⟩ hq
theorem R_iret {m pc : Nat} {ls : List MV} {M : MH} {Q : Res → MH → Prop} {a b d : Nat} {z x : Int} {tb : List (Int × Nat)} (hc : cod m pc = some (83, a, b, d, z, tb)) (hr : zrt m = some .int) (hq : Q (.inl (some (vI x))) M) : Run m pc ls [vI x] M Q :=
  R_end (r := .inl (some (vI x))) (fun _ h => by cases h) ⟨rfl, Or.inl ⟨x, rfl, Or.inl hr, a, b, d, z, tb, hc⟩⟩ hq
theorem R_zret {m pc : Nat} {ls : List MV} {M : MH} {Q : Res → MH → Prop} {a b d : Nat} {z x : Int} {tb : List (Int × Nat)} (hc : cod m pc = some (83, a, b, d, z, tb)) (hr : zrt m = some .boolean) (hx : x = 0 ∨ x = 1) (hq : Q (.inl (some (vI x))) M) : Run m pc ls [vI x] M Q :=
  R_end (r := .inl (some (vI x))) (fun _ h => by cases h) ⟨rfl, Or.inl ⟨x, rfl, Or.inr ⟨hr, hx⟩, a, b, d, z, tb, hc⟩⟩ hq
theorem R_lret {m pc : Nat} {ls : List MV} {M : MH} {Q : Res → MH → Prop} {a b d : Nat} {z x : Int} {tb : List (Int × Nat)} (hc : cod m pc = some (84, a, b, d, z, tb)) (hr : zrt m = some .long) (hq : Q (.inl (some (vL x))) M) : Run m pc ls [vL x] M Q :=
  R_end (r := .inl (some (vL x))) (fun _ h => by cases h) ⟨rfl, Or.inr (Or.inl ⟨x, rfl, hr, a, b, d, z, tb, hc⟩)⟩ hq
theorem R_aret {m pc : Nat} {ls : List MV} {M : MH} {Q : Res → MH → Prop} {a b d : Nat} {z : Int} {tb : List (Int × Nat)} {r : Option Nat} (hc : cod m pc = some (85, a, b, d, z, tb)) (n : String) (hr : zrt m = some (.object n)) (hq : Q (.inl (some (vR r))) M) : Run m pc ls [vR r] M Q :=
  R_end (r := .inl (some (vR r))) (fun _ h => by cases h) ⟨rfl, Or.inr (Or.inr ⟨r, rfl, ⟨n, hr⟩, a, b, d, z, tb, hc⟩)⟩ hq
/-- throw new E() -/
theorem R_throw {m pc : Nat} {ls : List MV} {M : MH} {Q : Res → MH → Prop} {a k d : Nat} {z : Int} {tb : List (Int × Nat)} (hc : cod m pc = some (87, a, k, d, z, tb)) (hk : k < 4) (hcl : (zyn m).cls = "RepairScan") (hdp : 8 ≤ zdp m) (htb : ztb m = []) (ha : a = zik k) (hd : d = zic k) (h3 : ∃ i : MI, cod m (pc + 3) = some i ∧ i.1 = 33) (h4 : ∃ b' c' z' tb', cod m (pc + 4) = some (99, d, b', c', z', tb')) (h7 : ∃ i : MI, cod m (pc + 7) = some i ∧ i.1 = 98) (hq : Q (.inr k) M) : Run m pc ls [] M Q := by
  refine ⟨.inr k, M, hq, mle_refl, ?_⟩
  intro Z p l e R s mid args below meth c Qs C H locs cells slots lr sr hl hs hH hS b1 b2 hE
  have b1 : cells + cst M + 1 ≤ R.cells + cst M := b1
  have b2 : slots + sst M + 6 * 1 ≤ R.slots + sst M := b2
  exact hE H locs cells slots pc lr sr [] ⟨rfl, hk, hcl, hdp, htb, a, d, z, tb, ha, hd, hc, h3, h4, h7⟩ hs hl.1 hH hS (by omega) (by omega) (fun _ => ⟨by omega, by omega⟩)
def lay (as : List MV) : List MV := as.flatMap fun v => if isLg (some v) then [v, vJ] else [v]
def ent (m : Nat) (as : List MV) : List MV := lay as ++ List.replicate (zml m - (lay as).length) vJ
theorem vlong {Z : EP} {top : Nat} {v : MV} {w : Value} (h : vrel Z top v w) (hv : isLg (some v) = true) : w.category = 2 := by
  match v, h, hv with
  | .inl z, _, hv => cases hv
  | .inr (.inl z), h, _ => rw [h.1]; rfl
  | .inr (.inr (.inl r)), _, hv => cases hv
  | .inr (.inr (.inr (.inl k))), _, hv => cases hv
  | .inr (.inr (.inr (.inr _))), _, hv => cases hv
theorem lay_rel {Z : EP} {top : Nat} : ∀ {as : List MV} {ws : List Value}, srel Z top as ws → (lay as).length = (lg_sl ws).length ∧ ∀ (i : Nat) (v : MV), (lay as)[i]? = some v → v = vJ ∨ ∃ w, (lg_sl ws)[i]? = some (.val w) ∧ vrel Z top v w
  | [], [], _ => ⟨rfl, fun i v h => by simp [lay] at h⟩
  | [], _ :: _, h => h.elim
  | _ :: _, [], h => h.elim
  | a :: as, w :: ws, h => by
    obtain ⟨e1, e2⟩ := lay_rel h.2
    by_cases c : isLg (some a) = true
    · have c2 := vlong h.1 c
      have l1 : lay (a :: as) = a :: vJ :: lay as := by simp [lay, c]
      have l2 : lg_sl (w :: ws) = .val w :: .second :: lg_sl ws := by simp [lg_sl, c2]
      rw [l1, l2]
      refine ⟨by simp [e1], fun i v hv => ?_⟩
      match i, hv with
      | 0, hv => cases hv; exact Or.inr ⟨w, rfl, h.1⟩
      | 1, hv => cases hv; exact Or.inl rfl
      | i + 2, hv => exact e2 i v hv
    · have c1 : isLg (some a) = false := by simpa using c
      have c2 := vcat h.1 c1
      have l1 : lay (a :: as) = a :: lay as := by simp [lay, c1]
      have l2 : lg_sl (w :: ws) = .val w :: lg_sl ws := by simp [lg_sl, c2]
      rw [l1, l2]
      refine ⟨by simp [e1], fun i v hv => ?_⟩
      match i, hv with
      | 0, hv => cases hv; exact Or.inr ⟨w, rfl, h.1⟩
      | i + 1, hv => exact e2 i v hv
theorem ent_rel {Z : EP} {top m : Nat} {as : List MV} {ws : List Value} (h : srel Z top as ws) (hl : (lay as).length ≤ zml m) : lrel Z top (zml m) (ent m as) ((lg_sl ws ++ List.replicate (zml m - (lg_sl ws).length) Slot.unset).toArray) := by
  obtain ⟨e1, e2⟩ := lay_rel h
  have h2 := lv_entry ws (n := zml m) (by omega)
  refine ⟨h2.1, h2.2.1, by simp [ent]; omega, fun i v hv => ?_⟩
  unfold ent at hv
  by_cases c : i < (lay as).length
  · rw [List.getElem?_append_left c] at hv
    rcases e2 i v hv with q | ⟨w, q1, q2⟩
    · exact Or.inl q
    · refine Or.inr ⟨w, ?_, q2⟩
      rw [List.getElem?_toArray, List.getElem?_append_left (by omega)]
      exact q1
  · rw [List.getElem?_append_right (by omega), List.getElem?_replicate] at hv
    split at hv
    · cases hv; exact Or.inl rfl
    · cases hv
/-- a call's start and ends -/
def Pz (Z : EP) (as : List MV) (M : MH) : Array Value → State → Prop := fun a U => (∃ ws : List Value, a = ws.toArray ∧ srel Z M.2.2.1 as ws) ∧ HRel Z M U.heap ∧ Ev Z U U.heap ∧ Z.1 ≤ U.heap.size
def orel (Z : EP) (top : Nat) (v : Option MV) (w : Option Value) : Prop := match v with
  | none => w = none
  | some v => ∃ x, w = some x ∧ vrel Z top v x
def Qz (Z : EP) (v : Option MV) (M' : MH) : Array Value → State → Outcome → State → Prop := fun _ st o t => (∃ w, o = .returned w ∧ orel Z M'.2.2.1 v w) ∧ HRel Z M' t.heap ∧ va_F (zA Z) st t
def xN (M : MH) : MH := (M.1, M.2.1, M.2.2.1, M.2.2.2.1 + 1, M.2.2.2.2)
def Xz (Z : EP) (k : Nat) (M' : MH) : String → State → State → Prop := fun E st t => E = zex k ∧ HRel Z (xN M') t.heap ∧ va_F (zA Z) st t
def rmz (m : Nat) (r : Res) (M M' : MH) : Room := { frames := zdp m, cells := cst M' + xof r - cst M, slots := sst M' + 6 * xof r - sst M, locals := 40 * zdp m }
def wz (m : Nat) : List Cond := zcw m :: gW
def CallX (m : Nat) (as : List MV) (M : MH) (r : Res) (M' : MH) : Prop := ∀ (l : Launch) (Z : EP), l.stackTraces = false → match r with
  | .inl v => Met l (zyn m) (wz m) (rmz m r M M') (Pz Z as M) (Qz Z v M') (cst M' + 0 - cst M) (sst M' + 0 - sst M) (zA Z)
  | .inr k => vx_Met l (zyn m) (wz m) (rmz m r M M') (Pz Z as M) (fun _ _ _ _ => False) (Xz Z k M') (cst M' + 1 - cst M) (sst M' + 6 - sst M) (zA Z)
def Call (m : Nat) (as : List MV) (M : MH) (Q : Res → MH → Prop) : Prop := ∃ (r : Res) (M' : MH), Q r M' ∧ mle M M' ∧ CallX m as M r M'
theorem blindz {Z : EP} {as : List MV} {M : MH} : FrameBlind (Pz Z as M) := by
  intro a U g mk h
  obtain ⟨h1, h2, h3, h4⟩ := h
  exact ⟨h1, h2, Ev.same (u := U) rfl h3, h4⟩
def ckM (m : Nat) (as : List MV) : Bool := Nat.blt m 147 && (ztb m).isEmpty && Nat.ble (lay as).length (zml m)
theorem zmk_at {m : Nat} (hm : m < 147) : zmk m = true := List.all_eq_true.mp zmkA m (List.mem_range.mpr hm)
theorem zmk_plain {m : Nat} (hm : m < 147) : plainName (zyn m).cls = true := by
  have h := zmk_at hm
  unfold zmk at h
  simp only [Bool.and_eq_true] at h
  exact h.1.1.1.2
/-- the ends of a body that returns -/
theorem endz {m : Nat} {Z : EP} {p : Program} {l : Launch} {e : Env} {R : Room} {s : State} {mid : MethodId} {args : Array Value} {below : List Frame} {meth : Method} {c : Code} {v : Option MV} {M' : MH} (C : Cx m Z p l e R s mid args below meth c) : EndW m Z p l e R s mid args below meth c (MQ below (Qz Z v M') args s R.cells R.slots (zA Z)) (.inl v) M' := by
  intro H locs cells slots pc lr sr st he hs hlr hH hS b1 b2 _
  refine W.widen b1 b2 ?_
  cases v with
  | none =>
    obtain ⟨rfl, hr, a, b, d, z, tb, hc⟩ := he
    rw [srel_nil hs]
    exact W.vret C.1 C.2.1 (C.2.2.2.2.2.1.trans hr) (fun t ht hW => ⟨⟨none, rfl, rfl⟩, by rw [ht]; exact hH, hS.F ht⟩) hS.2.2 ((zdc hc).1 : decode (zby m) pc = .ok (.return_, 1)) C.2.2.2.2.2.2.1
  | some v =>
    obtain ⟨rfl, hv⟩ := he
    obtain ⟨w, ws, rfl, hw, hn⟩ := srel_cons hs
    rw [srel_nil hn]
    rcases hv with ⟨z, rfl, hr, a, b, d, z', tb, hc⟩ | ⟨z, rfl, hr, a, b, d, z', tb, hc⟩ | ⟨q, rfl, ⟨n, hr⟩, a, b, d, z', tb, hc⟩
    · obtain ⟨rfl, hz⟩ := hw
      rcases hr with hr | ⟨hr, h01⟩
      · exact W.iret C.1 C.2.1 (C.2.2.2.2.2.1.trans hr) (fun t ht hW => ⟨⟨_, rfl, _, rfl, rfl, hz⟩, by rw [ht]; exact hH, hS.F ht⟩) hS.2.2 ((zdc hc).1 : decode (zby m) pc = .ok (.ireturn, 1)) C.2.2.2.2.2.2.1
      · exact W.zret C.1 C.2.1 (C.2.2.2.2.2.1.trans hr) (by rcases h01 with rfl | rfl <;> decide) (fun t ht hW => ⟨⟨_, rfl, _, rfl, rfl, hz⟩, by rw [ht]; exact hH, hS.F ht⟩) hS.2.2 ((zdc hc).1 : decode (zby m) pc = .ok (.ireturn, 1)) C.2.2.2.2.2.2.1
    · obtain ⟨rfl, hz⟩ := hw
      exact W.lret C.1 C.2.1 (C.2.2.2.2.2.1.trans hr) (fun t ht hW => ⟨⟨_, rfl, _, rfl, rfl, hz⟩, by rw [ht]; exact hH, hS.F ht⟩) hS.2.2 ((zdc hc).1 : decode (zby m) pc = .ok (.lreturn, 1)) C.2.2.2.2.2.2.1
    · obtain ⟨rfl, hz⟩ := hw
      exact W.aret C.1 C.2.1 (C.2.2.2.2.2.1.trans hr) (Or.inl ⟨n, rfl⟩) (by cases q with
        | none => exact Or.inl rfl
        | some x => exact Or.inr ⟨_, rfl⟩) (fun t ht hW => ⟨⟨_, rfl, _, rfl, rfl, hz⟩, by rw [ht]; exact hH, hS.F ht⟩) hS.2.2 ((zdc hc).1 : decode (zby m) pc = .ok (.areturn, 1)) C.2.2.2.2.2.2.1
/-- what a body stands on -/
theorem Cx_of {m : Nat} {Z : EP} {p : Program} {l : Launch} {e : Env} {s : State} {mid : MethodId} {args : Array Value} {below : List Frame} {meth : Method} {c : Code} {s₁ : State} {r : Res} {M M' : MH} (hm : m < 147) (hl : l.stackTraces = false) (B : BodyLoose p l (zyn m) (headSpec (wz m) (rmz m r M M')) (zby m) (zml m) (zrt m) e s mid args below meth c s₁) (hml : c.maxLocals = zml m) (hE : Ev Z s s.heap) (hB : Z.1 ≤ s.heap.size) : Cx m Z p l e (headSpec (wz m) (rmz m r M M')).room s mid args below meth c := by
  have hts := atoms_spec (ws := wz m) B.pre
  refine ⟨B.exec, B.bytes, hml, findClass_of_methodNamed B.named, fun w hw => hts w (List.mem_cons_of_mem _ hw), B.returns, B.notSynchronized, fun h => (name_of_methodNamed B.named B.method).1.trans h, ?_, Nat.le_refl _, Nat.le_refl _, hl, hE, hB⟩
  have h0 := hts _ List.mem_cons_self
  unfold zcw at h0
  split at h0
  · rename_i hh
    have h1 := B.noHandlers h0
    have h2 : c.exceptionTable.toList = [] := by
      rw [Array.isEmpty_iff] at h1
      rw [h1]
    rw [h2, List.isEmpty_iff.mp hh]
    rfl
  · obtain ⟨m9, meth9, c9, hn9, h1, h2, -, -, h6, -⟩ := Cond.codeWith_spec h0
    cases Option.some.inj (hn9.symm.trans B.named)
    cases Option.some.inj (h1.symm.trans B.method)
    cases Option.some.inj (h2.symm.trans (Stand.of_body B).code)
    exact h6
/-- a method that returns, out of a run of its body -/
theorem CallX_ret {m : Nat} {as ls : List MV} {M M' : MH} {v : Option MV} (hm : m < 147) (hk : (lay as).length ≤ zml m) (hls : ent m as = ls) (hm' : mle M M') (hX : RunX m 0 ls [] M (.inl v) M') : CallX m as M (.inl v) M' := by
  intro l Z hl
  have h1 := mle_c hm'
  have h2 := mle_s hm'
  by_cases ht : (ztb m).isEmpty = true
  · refine Met.ofW (cc := zby m) (maxL := zml m) (ret := zrt m) (ws' := gW) (zmk_plain hm) (by unfold wz zcw; rw [if_pos ht]) ?_
    intro p e s mid args below meth c s₁ B hml hP
    obtain ⟨⟨ws, rfl, hs⟩, hH, hE, hB⟩ := hP
    rw [lg_entry_eq]
    have C := Cx_of (Z := Z) hm hl B hml hE hB
    refine hX Z p l e _ s mid _ below meth c _ C s.heap [] 0 0 _ [] (hls ▸ ent_rel hs hk) trivial hH va_S.rf ?_ ?_ (endz C)
    · show 0 + cst M' + 0 ≤ (cst M' + 0 - cst M) + cst M
      omega
    · show 0 + sst M' + 6 * 0 ≤ (sst M' + 6 * 0 - sst M) + sst M
      omega
  · refine va_MetW (cc := zby m) (maxL := zml m) (ret := zrt m) (hh := ztb m) (ws' := gW) (zmk_plain hm) (by unfold wz zcw; rw [if_neg ht]) ?_
    intro p e s mid args below meth c s₁ B hml hP
    obtain ⟨⟨ws, rfl, hs⟩, hH, hE, hB⟩ := hP
    rw [lg_entry_eq]
    have C := Cx_of (Z := Z) hm hl B hml hE hB
    refine hX Z p l e _ s mid _ below meth c _ C s.heap [] 0 0 _ [] (hls ▸ ent_rel hs hk) trivial hH va_S.rf ?_ ?_ (endz C)
    · show 0 + cst M' + 0 ≤ (cst M' + 0 - cst M) + cst M
      omega
    · show 0 + sst M' + 6 * 0 ≤ (sst M' + 6 * 0 - sst M) + sst M
      omega
