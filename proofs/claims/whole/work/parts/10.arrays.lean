/-! arrays, new cells, the script, switches, texts -/
theorem zarr {m : Nat} {Z : EP} {p : Program} {l : Launch} {e : Env} {R : Room} {s : State} {mid : MethodId} {args : Array Value} {below : List Frame} {meth : Method} {c : Code} (C : Cx m Z p l e R s mid args below meth c) (t : Nat) (ht : t < 5) : ∃ ty, ArrOfT s (Z.2.2.1 t) ty ∧ va_RA s (Z.2.2.1 t) ty ∧ (t = 0 → ty = .int) ∧ (t = 1 → ty = .byte) ∧ (t = 2 → ty = .boolean) ∧ (t = 3 → ty = .long) ∧ (t = 4 → ty = .object "RepairScan$Found") := by
  obtain ⟨ty, h, h2⟩ := ztys_at Z ht
  exact ⟨ty, ((zK C).2 t _ h).1, ((zK C).2 t _ h).2, h2⟩
theorem arr_in {i : Int} {cA : ClassId} {n : Nat} {f : Nat → Value} (hi : r32 i) (h0 : 0 ≤ i) (h1 : i < n) : ¬ (Int32.ofInt i < 0 ∨ (arrV cA n f).slots.size ≤ (Int32.ofInt i).toNatClampNeg) := by
  rw [arrV_size]
  exact in32 hi h0 h1
theorem arr_rd {i : Int} {cA : ClassId} {n : Nat} {f : Nat → Value} (hi : r32 i) (h0 : 0 ≤ i) (h1 : i < n) : (arrV cA n f).slots[(Int32.ofInt i).toNatClampNeg]? = some (f i.toNat) := by
  rw [i32clamp hi]
  exact arrV_read _ _ (by omega)
theorem celR_arr {Z : EP} {M : MH} {H : Heap} {q t : Nat} (hk : K0 q = t + 21) (h : arrR Z M H q t) : celR Z M H q := by
  unfold celR
  rw [hk, if_neg (by omega)]
  exact h
theorem updV_avI {M : MH} {q t i B : Nat} {x : Int} {w : Value} (hw : w = av B t x (M.2.1 q i)) : updV (fun j => av B t (M.1 q j) (M.2.1 q j)) i w = fun j => av B t ((sI M q i x).1 q j) ((sI M q i x).2.1 q j) := by
  funext j
  unfold updV sI
  by_cases e : j = i
  · subst e
    simp [hw]
  · simp [e]
theorem updV_avR {M : MH} {q i B : Nat} {r : Option Nat} : updV (fun j => av B 4 (M.1 q j) (M.2.1 q j)) i (zrv B r) = fun j => av B 4 ((sR M q i r).1 q j) ((sR M q i r).2.1 q j) := by
  funext j
  unfold updV sR
  by_cases e : j = i
  · subst e
    simp [av]
  · simp [e]
theorem R_iald {m pc pc' : Nat} {ls st : List MV} {M : MH} {Q : Res → MH → Prop} {a b d : Nat} {z : Int} {tb : List (Int × Nat)} {q : Nat} {i : Int} (hc : cod m pc = some (58, a, b, d, z, tb)) (hp : pc + 1 = pc') (hk : K0 q = 0 + 21) (h0 : 0 ≤ i) (h1 : i < L0 q) (h : Run m pc' ls (vI (M.1 q i.toNat) :: st) M Q) : Run m pc ls (vI i :: vR (some q) :: st) M Q := by
  subst hp
  have hd : decode (zby m) pc = .ok (.iaload, 1) := (zdc hc).1
  refine R_pure (fun Z p l e R s mid args below meth cc Qs C H locs cells slots lr sr hl hs hH hS b1 b2 k => ?_) h
  obtain ⟨w1, ws1, rfl, ⟨rfl, g1⟩, hs1⟩ := srel_cons hs
  obtain ⟨w2, ws2, rfl, ⟨rfl, g2⟩, hs2⟩ := srel_cons hs1
  obtain ⟨e1, e2⟩ := arr_of hH (g2 q rfl) hk
  obtain ⟨ty, a1, a2, y0, y1, y2, y3, y4⟩ := zarr C 0 (by decide)
  cases y0 rfl
  have hr := e2 i.toNat (by omega)
  refine W.iald C.1 C.2.1 e1 (a1 _ _) (fun q => by cases q) (arr_in g1 h0 h1) (arr_rd g1 h0 h1) rfl rfl hd ?_
  exact k lr _ hl ⟨⟨rfl, hr⟩, hs2⟩
theorem R_bald {m pc pc' : Nat} {ls st : List MV} {M : MH} {Q : Res → MH → Prop} {a b d : Nat} {z : Int} {tb : List (Int × Nat)} {q : Nat} {i : Int} (hc : cod m pc = some (60, a, b, d, z, tb)) (hp : pc + 1 = pc') (hk : K0 q = 1 + 21) (h0 : 0 ≤ i) (h1 : i < L0 q) (h : Run m pc' ls (vI (M.1 q i.toNat) :: st) M Q) : Run m pc ls (vI i :: vR (some q) :: st) M Q := by
  subst hp
  have hd : decode (zby m) pc = .ok (.baload, 1) := (zdc hc).1
  refine R_pure (fun Z p l e R s mid args below meth cc Qs C H locs cells slots lr sr hl hs hH hS b1 b2 k => ?_) h
  obtain ⟨w1, ws1, rfl, ⟨rfl, g1⟩, hs1⟩ := srel_cons hs
  obtain ⟨w2, ws2, rfl, ⟨rfl, g2⟩, hs2⟩ := srel_cons hs1
  obtain ⟨e1, e2⟩ := arr_of hH (g2 q rfl) hk
  obtain ⟨ty, a1, a2, y0, y1, y2, y3, y4⟩ := zarr C 1 (by decide)
  cases y1 rfl
  have hr := e2 i.toNat (by omega)
  refine W.bald C.1 C.2.1 e1 (a1 _ _) (fun q => by cases q) (arr_in g1 h0 h1) (arr_rd g1 h0 h1) rfl rfl hd ?_
  exact k lr _ hl ⟨⟨rfl, by have h9 : -128 ≤ M.1 q i.toNat ∧ M.1 q i.toNat < 128 := hr; constructor <;> omega⟩, hs2⟩
theorem R_zald {m pc pc' : Nat} {ls st : List MV} {M : MH} {Q : Res → MH → Prop} {a b d : Nat} {z : Int} {tb : List (Int × Nat)} {q : Nat} {i : Int} (hc : cod m pc = some (60, a, b, d, z, tb)) (hp : pc + 1 = pc') (hk : K0 q = 2 + 21) (h0 : 0 ≤ i) (h1 : i < L0 q) (h : Run m pc' ls (vI (M.1 q i.toNat) :: st) M Q) : Run m pc ls (vI i :: vR (some q) :: st) M Q := by
  subst hp
  have hd : decode (zby m) pc = .ok (.baload, 1) := (zdc hc).1
  refine R_pure (fun Z p l e R s mid args below meth cc Qs C H locs cells slots lr sr hl hs hH hS b1 b2 k => ?_) h
  obtain ⟨w1, ws1, rfl, ⟨rfl, g1⟩, hs1⟩ := srel_cons hs
  obtain ⟨w2, ws2, rfl, ⟨rfl, g2⟩, hs2⟩ := srel_cons hs1
  obtain ⟨e1, e2⟩ := arr_of hH (g2 q rfl) hk
  obtain ⟨ty, a1, a2, y0, y1, y2, y3, y4⟩ := zarr C 2 (by decide)
  cases y2 rfl
  have hr := e2 i.toNat (by omega)
  refine W.zald C.1 C.2.1 e1 (a1 _ _) (fun q => by cases q) (arr_in g1 h0 h1) (arr_rd g1 h0 h1) rfl rfl hd ?_
  exact k lr _ hl ⟨⟨rfl, by have h9 : M.1 q i.toNat = 0 ∨ M.1 q i.toNat = 1 := hr; constructor <;> omega⟩, hs2⟩
theorem R_lald {m pc pc' : Nat} {ls st : List MV} {M : MH} {Q : Res → MH → Prop} {a b d : Nat} {z : Int} {tb : List (Int × Nat)} {q : Nat} {i : Int} (hc : cod m pc = some (62, a, b, d, z, tb)) (hp : pc + 1 = pc') (hk : K0 q = 3 + 21) (h0 : 0 ≤ i) (h1 : i < L0 q) (h : Run m pc' ls (vL (M.1 q i.toNat) :: st) M Q) : Run m pc ls (vI i :: vR (some q) :: st) M Q := by
  subst hp
  have hd : decode (zby m) pc = .ok (.laload, 1) := (zdc hc).1
  refine R_pure (fun Z p l e R s mid args below meth cc Qs C H locs cells slots lr sr hl hs hH hS b1 b2 k => ?_) h
  obtain ⟨w1, ws1, rfl, ⟨rfl, g1⟩, hs1⟩ := srel_cons hs
  obtain ⟨w2, ws2, rfl, ⟨rfl, g2⟩, hs2⟩ := srel_cons hs1
  obtain ⟨e1, e2⟩ := arr_of hH (g2 q rfl) hk
  obtain ⟨ty, a1, a2, y0, y1, y2, y3, y4⟩ := zarr C 3 (by decide)
  cases y3 rfl
  have hr := e2 i.toNat (by omega)
  refine W.lald C.1 C.2.1 e1 (a1 _ _) (fun q => by cases q) (arr_in g1 h0 h1) (arr_rd g1 h0 h1) rfl rfl hd ?_
  exact k lr _ hl ⟨⟨rfl, hr⟩, hs2⟩
theorem R_aald {m pc pc' : Nat} {ls st : List MV} {M : MH} {Q : Res → MH → Prop} {a b d : Nat} {z : Int} {tb : List (Int × Nat)} {q : Nat} {i : Int} (hc : cod m pc = some (64, a, b, d, z, tb)) (hp : pc + 1 = pc') (hk : K0 q = 4 + 21) (h0 : 0 ≤ i) (h1 : i < L0 q) (h : Run m pc' ls (vR (M.2.1 q i.toNat) :: st) M Q) : Run m pc ls (vI i :: vR (some q) :: st) M Q := by
  subst hp
  have hd : decode (zby m) pc = .ok (.aaload, 1) := (zdc hc).1
  refine R_pure (fun Z p l e R s mid args below meth cc Qs C H locs cells slots lr sr hl hs hH hS b1 b2 k => ?_) h
  obtain ⟨w1, ws1, rfl, ⟨rfl, g1⟩, hs1⟩ := srel_cons hs
  obtain ⟨w2, ws2, rfl, ⟨rfl, g2⟩, hs2⟩ := srel_cons hs1
  obtain ⟨e1, e2⟩ := arr_of hH (g2 q rfl) hk
  obtain ⟨ty, a1, a2, y0, y1, y2, y3, y4⟩ := zarr C 4 (by decide)
  cases y4 rfl
  have hr := e2 i.toNat (by omega)
  refine W.aald C.1 C.2.1 e1 (a1 _ _) rfl (fun q => by cases q) (arr_in g1 h0 h1) (arr_rd g1 h0 h1) rfl rfl hd ?_
  exact k lr _ hl ⟨⟨rfl, hr⟩, hs2⟩
theorem R_iast {m pc pc' : Nat} {ls st : List MV} {M : MH} {Q : Res → MH → Prop} {a b d : Nat} {z : Int} {tb : List (Int × Nat)} {q : Nat} {i x : Int} (hc : cod m pc = some (59, a, b, d, z, tb)) (hp : pc + 1 = pc') (hk : K0 q = 0 + 21) (h0 : 0 ≤ i) (h1 : i < L0 q) (h : Run m pc' ls st (sI M q i.toNat x) Q) : Run m pc ls (vI x :: vI i :: vR (some q) :: st) M Q := by
  subst hp
  have hd : decode (zby m) pc = .ok (.iastore, 1) := (zdc hc).1
  refine R_heap (M2 := sI M q i.toNat x) rfl (fun Z p l e R s mid args below meth cc Qs C H locs cells slots lr sr hl hs hH hS b1 b2 k => ?_) h
  obtain ⟨w0, ws0, rfl, ⟨rfl, g0⟩, hs0⟩ := srel_cons hs
  obtain ⟨w1, ws1, rfl, ⟨rfl, g1⟩, hs1⟩ := srel_cons hs0
  obtain ⟨w2, ws2, rfl, ⟨rfl, g2⟩, hs2⟩ := srel_cons hs1
  obtain ⟨e1, e2⟩ := arr_of hH (g2 q rfl) hk
  obtain ⟨ty, a1, a2, y0, y1, y2, y3, y4⟩ := zarr C 0 (by decide)
  cases y0 rfl
  refine W.iast C.1 C.2.1 e1 (a1 _ _) (fun q => by cases q) (arr_in g1 h0 h1) rfl rfl hd fun H1 q1 q2 q3 => ?_
  refine k H1 _ lr _ hl hs2 (HRel_put (q := q) hH rfl (fun a' hne k' => ?_) (fun a' hne k' => ?_) q2 q3 (celR_arr hk ⟨?_, fun j hj => ?_⟩)) (hS.put q2 q3 (show Z.1 ≤ Z.1 + q by omega))
  · simp [sI, hne]
  · rfl
  · rw [q1, i32clamp g1, arrV_store, updV_avI (x := x)]
    rfl
  · by_cases e : j = i.toNat
    · subst e
      simp only [sI, and_self, if_true]
      exact g0
    · have := e2 j hj
      simpa [sI, e] using this
theorem R_bast {m pc pc' : Nat} {ls st : List MV} {M : MH} {Q : Res → MH → Prop} {a b d : Nat} {z : Int} {tb : List (Int × Nat)} {q : Nat} {i x : Int} (hc : cod m pc = some (61, a, b, d, z, tb)) (hp : pc + 1 = pc') (hk : K0 q = 1 + 21) (h0 : 0 ≤ i) (h1 : i < L0 q) (h : Run m pc' ls st (sI M q i.toNat ((x + 128) % 256 - 128)) Q) : Run m pc ls (vI x :: vI i :: vR (some q) :: st) M Q := by
  subst hp
  have hd : decode (zby m) pc = .ok (.bastore, 1) := (zdc hc).1
  refine R_heap (M2 := sI M q i.toNat ((x + 128) % 256 - 128)) rfl (fun Z p l e R s mid args below meth cc Qs C H locs cells slots lr sr hl hs hH hS b1 b2 k => ?_) h
  obtain ⟨w0, ws0, rfl, ⟨rfl, g0⟩, hs0⟩ := srel_cons hs
  obtain ⟨w1, ws1, rfl, ⟨rfl, g1⟩, hs1⟩ := srel_cons hs0
  obtain ⟨w2, ws2, rfl, ⟨rfl, g2⟩, hs2⟩ := srel_cons hs1
  obtain ⟨e1, e2⟩ := arr_of hH (g2 q rfl) hk
  obtain ⟨ty, a1, a2, y0, y1, y2, y3, y4⟩ := zarr C 1 (by decide)
  cases y1 rfl
  refine W.bast C.1 C.2.1 e1 (a1 _ _) (fun q => by cases q) (arr_in g1 h0 h1) rfl rfl hd fun H1 q1 q2 q3 => ?_
  refine k H1 _ lr _ hl hs2 (HRel_put (q := q) hH rfl (fun a' hne k' => ?_) (fun a' hne k' => ?_) q2 q3 (celR_arr hk ⟨?_, fun j hj => ?_⟩)) (hS.put q2 q3 (show Z.1 ≤ Z.1 + q by omega))
  · simp [sI, hne]
  · rfl
  · rw [q1, i32clamp g1, arrV_store, updV_avI (x := ((x + 128) % 256 - 128))]
    show narrow .byte (.int (Int32.ofInt x)) = .int (Int32.ofInt ((x + 128) % 256 - 128))
    show Value.int ((Int32.ofInt x).toInt8.toInt32) = _
    rw [eq32 (x := (Int32.ofInt x).toInt8.toInt32) (z := (x + 128) % 256 - 128) (by rw [Int8.toInt_toInt32, Int32.toInt_toInt8, i32t g0, Int.bmod_def]; omega)]
  · by_cases e : j = i.toNat
    · subst e
      simp only [sI, and_self, if_true]
      show -128 ≤ (x + 128) % 256 - 128 ∧ (x + 128) % 256 - 128 < 128; omega
    · have := e2 j hj
      simpa [sI, e] using this
theorem R_zast {m pc pc' : Nat} {ls st : List MV} {M : MH} {Q : Res → MH → Prop} {a b d : Nat} {z : Int} {tb : List (Int × Nat)} {q : Nat} {i x : Int} (hc : cod m pc = some (61, a, b, d, z, tb)) (hp : pc + 1 = pc') (hk : K0 q = 2 + 21) (h0 : 0 ≤ i) (h1 : i < L0 q) (hx : x = 0 ∨ x = 1) (h : Run m pc' ls st (sI M q i.toNat x) Q) : Run m pc ls (vI x :: vI i :: vR (some q) :: st) M Q := by
  subst hp
  have hd : decode (zby m) pc = .ok (.bastore, 1) := (zdc hc).1
  refine R_heap (M2 := sI M q i.toNat x) rfl (fun Z p l e R s mid args below meth cc Qs C H locs cells slots lr sr hl hs hH hS b1 b2 k => ?_) h
  obtain ⟨w0, ws0, rfl, ⟨rfl, g0⟩, hs0⟩ := srel_cons hs
  obtain ⟨w1, ws1, rfl, ⟨rfl, g1⟩, hs1⟩ := srel_cons hs0
  obtain ⟨w2, ws2, rfl, ⟨rfl, g2⟩, hs2⟩ := srel_cons hs1
  obtain ⟨e1, e2⟩ := arr_of hH (g2 q rfl) hk
  obtain ⟨ty, a1, a2, y0, y1, y2, y3, y4⟩ := zarr C 2 (by decide)
  cases y2 rfl
  refine W.zast C.1 C.2.1 e1 (a1 _ _) (fun q => by cases q) (arr_in g1 h0 h1) rfl rfl hd fun H1 q1 q2 q3 => ?_
  refine k H1 _ lr _ hl hs2 (HRel_put (q := q) hH rfl (fun a' hne k' => ?_) (fun a' hne k' => ?_) q2 q3 (celR_arr hk ⟨?_, fun j hj => ?_⟩)) (hS.put q2 q3 (show Z.1 ≤ Z.1 + q by omega))
  · simp [sI, hne]
  · rfl
  · rw [q1, i32clamp g1, arrV_store, updV_avI (x := x)]
    rcases hx with rfl | rfl <;> rfl
  · by_cases e : j = i.toNat
    · subst e
      simp only [sI, and_self, if_true]
      exact hx
    · have := e2 j hj
      simpa [sI, e] using this
theorem R_last {m pc pc' : Nat} {ls st : List MV} {M : MH} {Q : Res → MH → Prop} {a b d : Nat} {z : Int} {tb : List (Int × Nat)} {q : Nat} {i x : Int} (hc : cod m pc = some (63, a, b, d, z, tb)) (hp : pc + 1 = pc') (hk : K0 q = 3 + 21) (h0 : 0 ≤ i) (h1 : i < L0 q) (h : Run m pc' ls st (sI M q i.toNat x) Q) : Run m pc ls (vL x :: vI i :: vR (some q) :: st) M Q := by
  subst hp
  have hd : decode (zby m) pc = .ok (.lastore, 1) := (zdc hc).1
  refine R_heap (M2 := sI M q i.toNat x) rfl (fun Z p l e R s mid args below meth cc Qs C H locs cells slots lr sr hl hs hH hS b1 b2 k => ?_) h
  obtain ⟨w0, ws0, rfl, ⟨rfl, g0⟩, hs0⟩ := srel_cons hs
  obtain ⟨w1, ws1, rfl, ⟨rfl, g1⟩, hs1⟩ := srel_cons hs0
  obtain ⟨w2, ws2, rfl, ⟨rfl, g2⟩, hs2⟩ := srel_cons hs1
  obtain ⟨e1, e2⟩ := arr_of hH (g2 q rfl) hk
  obtain ⟨ty, a1, a2, y0, y1, y2, y3, y4⟩ := zarr C 3 (by decide)
  cases y3 rfl
  refine W.last C.1 C.2.1 e1 (a1 _ _) (fun q => by cases q) (arr_in g1 h0 h1) rfl rfl hd fun H1 q1 q2 q3 => ?_
  refine k H1 _ lr _ hl hs2 (HRel_put (q := q) hH rfl (fun a' hne k' => ?_) (fun a' hne k' => ?_) q2 q3 (celR_arr hk ⟨?_, fun j hj => ?_⟩)) (hS.put q2 q3 (show Z.1 ≤ Z.1 + q by omega))
  · simp [sI, hne]
  · rfl
  · rw [q1, i32clamp g1, arrV_store, updV_avI (x := x)]
    rfl
  · by_cases e : j = i.toNat
    · subst e
      simp only [sI, and_self, if_true]
      exact g0
    · have := e2 j hj
      simpa [sI, e] using this
theorem R_aast {m pc pc' : Nat} {ls st : List MV} {M : MH} {Q : Res → MH → Prop} {a b d : Nat} {z : Int} {tb : List (Int × Nat)} {q v : Nat} {i : Int} (hc : cod m pc = some (65, a, b, d, z, tb)) (hp : pc + 1 = pc') (hk : K0 q = 4 + 21) (h0 : 0 ≤ i) (h1 : i < L0 q) (hv : K0 v = 3) (h : Run m pc' ls st (sR M q i.toNat (some v)) Q) : Run m pc ls (vR (some v) :: vI i :: vR (some q) :: st) M Q := by
  subst hp
  have hd : decode (zby m) pc = .ok (.aastore, 1) := (zdc hc).1
  refine R_heap (M2 := sR M q i.toNat (some v)) rfl (fun Z p l e R s mid args below meth cc Qs C H locs cells slots lr sr hl hs hH hS b1 b2 k => ?_) h
  obtain ⟨w0, ws0, rfl, ⟨rfl, g0⟩, hs0⟩ := srel_cons hs
  obtain ⟨w1, ws1, rfl, ⟨rfl, g1⟩, hs1⟩ := srel_cons hs0
  obtain ⟨w2, ws2, rfl, ⟨rfl, g2⟩, hs2⟩ := srel_cons hs1
  obtain ⟨e1, e2⟩ := arr_of hH (g2 q rfl) hk
  obtain ⟨ty, a1, a2, y0, y1, y2, y3, y4⟩ := zarr C 4 (by decide)
  cases y4 rfl
  obtain ⟨⟨cellV, v1, v2, v3, -⟩, -⟩ := obj_of (b := 2) hH (g0 v rfl) hv (by decide)
  have hcls : ClassAt s (zcn 2) (Z.2.1.1 2) := ((zK C).1 2 _ (zcl_at (by decide))).2
  obtain ⟨kA, comp, k1, k2, k3, -⟩ := a2
  have hcomp : comp = Z.2.1.1 2 := Option.some.inj (k3.symm.trans hcls.1)
  subst hcomp
  obtain ⟨kC, hkC, -⟩ := hcls.2
  refine W.aast C.1 C.2.1 e1 (fun q h => by cases h) (fun h => by cases h) k1 k2 rfl hkC ⟨fun q => by rw [i32neg g1] at q; omega, by rw [arrV_size, i32clamp g1]; omega⟩ v1 (fun q h => by rw [v3] at h; cases h) (by rw [v2]; exact hkC) (by rw [v2]; exact va_assign hcls) rfl rfl hd fun H1 q1 q2 q3 => ?_
  refine k H1 _ lr _ hl hs2 (HRel_put (q := q) hH rfl (fun a' hne k' => ?_) (fun a' hne k' => ?_) q2 q3 (celR_arr hk ⟨?_, fun j hj => ?_⟩)) (hS.put q2 q3 (show Z.1 ≤ Z.1 + q by omega))
  · rfl
  · simp [sR, hne]
  · rw [q1, i32clamp g1, arrV_store]
    rw [← updV_avR (B := Z.1) (r := some v)]
    rfl
  · by_cases e : j = i.toNat
    · subst e
      simp only [sR, and_self, if_true]
      exact g0
    · have := e2 j hj
      simpa [sR, e] using this
theorem R_alen {m pc pc' : Nat} {ls st : List MV} {M : MH} {Q : Res → MH → Prop} {a b d : Nat} {z : Int} {tb : List (Int × Nat)} {q : Nat} (hc : cod m pc = some (66, a, b, d, z, tb)) (hp : pc + 1 = pc') (t : Nat) (hk : K0 q = t + 21) (ht : t < 5) (h : Run m pc' ls (vI (L0 q) :: st) M Q) : Run m pc ls (vR (some q) :: st) M Q := by
  subst hp
  have hd : decode (zby m) pc = .ok (.arraylength, 1) := (zdc hc).1
  refine R_pure (fun Z p l e R s mid args below meth cc Qs C H locs cells slots lr sr hl hs hH hS b1 b2 k => ?_) h
  obtain ⟨w2, ws2, rfl, ⟨rfl, g2⟩, hs2⟩ := srel_cons hs
  obtain ⟨e1, e2⟩ := arr_of hH (g2 q rfl) hk
  obtain ⟨ty, a1, a2, -⟩ := zarr C t ht
  refine W.alen (n := Int32.ofInt (L0 q)) C.1 C.2.1 e1 (a1 _ _) (by rw [arrV_size]; rfl) rfl rfl hd ?_
  refine k lr _ hl ⟨⟨rfl, ?_⟩, hs2⟩
  have hL : ∀ a, L0 a < 10000 := by
    intro a
    unfold L0
    rw [List.getD_eq_getElem?_getD]
    by_cases ha : a < zlL.length
    · have h9 : zlL.all (fun x => decide (x < 10000)) = true := by decide +kernel
      rw [List.getElem?_eq_getElem ha]
      exact of_decide_eq_true (List.all_eq_true.mp h9 _ (List.getElem_mem ha))
    · rw [List.getElem?_eq_none (by omega)]
      decide
  have := hL q
  constructor <;> omega
theorem R_slen {m pc pc' : Nat} {ls st : List MV} {M : MH} {Q : Res → MH → Prop} {a b d : Nat} {z : Int} {tb : List (Int × Nat)} (hc : cod m pc = some (66, a, b, d, z, tb)) (hp : pc + 1 = pc') (h : Run m pc' ls (vI M.2.2.2.2.1 :: st) M Q) : Run m pc ls (vS 100 :: st) M Q := by
  subst hp
  have hd : decode (zby m) pc = .ok (.arraylength, 1) := (zdc hc).1
  refine R_pure (fun Z p l e R s mid args below meth cc Qs C H locs cells slots lr sr hl hs hH hS b1 b2 k => ?_) h
  obtain ⟨w2, ws2, rfl, hw, hs2⟩ := srel_cons hs
  have hw : ws2 = ws2 ∧ w2 = .ref Z.2.2.2.2.2.1 := ⟨rfl, by rcases hw with ⟨h, -⟩ | ⟨-, h⟩; exact absurd h (by decide); exact h⟩
  obtain ⟨-, rfl⟩ := hw
  obtain ⟨-, -, -, -, -, -, -, -, -, hX, hlt, hA, -⟩ := zEv C
  obtain ⟨-, -, -, h4, h5, -⟩ := hH
  refine va_slen C.1 C.2.1 hX hlt hA hS hd ?_
  rw [← h4]
  exact k lr _ hl ⟨⟨rfl, by constructor <;> omega⟩, hs2⟩
theorem R_sald {m pc pc' : Nat} {ls st : List MV} {M : MH} {Q : Res → MH → Prop} {a b d : Nat} {z : Int} {tb : List (Int × Nat)} {i : Int} (hc : cod m pc = some (58, a, b, d, z, tb)) (hp : pc + 1 = pc') (h0 : 0 ≤ i) (h1 : i < M.2.2.2.2.1) (h : Run m pc' ls (vI (M.2.2.2.2.2 i.toNat) :: st) M Q) : Run m pc ls (vI i :: vS 100 :: st) M Q := by
  subst hp
  have hd : decode (zby m) pc = .ok (.iaload, 1) := (zdc hc).1
  refine R_pure (fun Z p l e R s mid args below meth cc Qs C H locs cells slots lr sr hl hs hH hS b1 b2 k => ?_) h
  obtain ⟨w1, ws1, rfl, ⟨rfl, g1⟩, hs1⟩ := srel_cons hs
  obtain ⟨w2, ws2, rfl, hw, hs2⟩ := srel_cons hs1
  have hw : ws2 = ws2 ∧ w2 = .ref Z.2.2.2.2.2.1 := ⟨rfl, by rcases hw with ⟨h, -⟩ | ⟨-, h⟩; exact absurd h (by decide); exact h⟩
  obtain ⟨-, rfl⟩ := hw
  obtain ⟨-, -, -, -, -, -, -, -, -, hX, hlt, hA, -⟩ := zEv C
  obtain ⟨-, -, -, h4, h5, h6⟩ := hH
  obtain ⟨q1, q2⟩ := h6 i.toNat (by omega)
  refine va_sld C.1 C.2.1 hX hlt hA hS (i := Int32.ofInt i) (by rw [← h4]; exact in32 g1 h0 h1) hd ?_
  rw [i32clamp g1, q1]
  exact k lr _ hl ⟨⟨rfl, q2⟩, hs2⟩
/-- a new cell -/
def aN (M : MH) : MH := (fun b j => if b = M.2.2.1 then 0 else M.1 b j, fun b j => if b = M.2.2.1 then none else M.2.1 b j, M.2.2.1 + 1, M.2.2.2)
theorem srel_mono {Z : EP} {t1 t2 : Nat} (ht : t1 ≤ t2) : ∀ {st : List MV} {sr : List Value}, srel Z t1 st sr → srel Z t2 st sr
  | [], [], _ => trivial
  | [], _ :: _, h => h.elim
  | _ :: _, [], h => h.elim
  | v :: vs, w :: ws, h => by
    refine ⟨?_, srel_mono ht h.2⟩
    match v, h.1 with
    | .inl z, q => exact q
    | .inr (.inl z), q => exact q
    | .inr (.inr (.inl r)), q => exact ⟨q.1, fun x hx => Nat.lt_of_lt_of_le (q.2 x hx) ht⟩
    | .inr (.inr (.inr (.inl k))), q => exact q
    | .inr (.inr (.inr (.inr _))), q => exact q
theorem vrel_mono {Z : EP} {t1 t2 : Nat} (ht : t1 ≤ t2) {v : MV} {w : Value} (h : vrel Z t1 v w) : vrel Z t2 v w := (srel_mono (st := [v]) (sr := [w]) ht ⟨h, trivial⟩).1
theorem lrel_mono {Z : EP} {t1 t2 n : Nat} (ht : t1 ≤ t2) {ls : List MV} {lr : Array Slot} (h : lrel Z t1 n ls lr) : lrel Z t2 n ls lr :=
  ⟨h.1, h.2.1, h.2.2.1, fun i v hi => (h.2.2.2 i v hi).elim Or.inl fun ⟨w, h1, h2⟩ => Or.inr ⟨w, h1, vrel_mono ht h2⟩⟩
theorem HRel_new {Z : EP} {M : MH} {H H2 : Heap} (h : HRel Z M H) (hx : M.2.2.2.1 = 0) (hz : H2.size = H.size + 1) (ho : ∀ x : Nat, x < H.size → H2[x]? = H[x]?) (hc : celR Z (aN M) H2 M.2.2.1) : HRel Z (aN M) H2 := by
  obtain ⟨h1, h2, h3, h4, h5, h6⟩ := h
  have e0 := h1 hx
  refine ⟨fun _ => by show H2.size = Z.1 + (M.2.2.1 + 1); omega, by show Z.1 + (M.2.2.1 + 1) ≤ H2.size; omega, fun a ha => ?_, h4, h5, h6⟩
  have ha : a < M.2.2.1 + 1 := ha
  by_cases e : a = M.2.2.1
  · rw [e]; exact hc
  · refine celR_same (h3 a (by omega)) (fun k => ?_) (fun k => ?_) (by show M.2.2.1 ≤ M.2.2.1 + 1; omega) (ho _ (by omega))
    · simp [aN, e]
    · simp [aN, e]
theorem R_alloc {m pc pc' : Nat} {ls st st' : List MV} {M : MH} {Q : Res → MH → Prop} (hx : M.2.2.2.1 = 0)
    (step : ∀ (Z : EP) (p : Program) (l : Launch) (e : Env) (R : Room) (s : State) (mid : MethodId) (args : Array Value) (below : List Frame) (meth : Method) (c : Code) (Qs : State → Prop), Cx m Z p l e R s mid args below meth c →
      ∀ (H : Heap) (locs : List Loc) (cells slots : Nat) (lr : Array Slot) (sr : List Value), lrel Z M.2.2.1 (zml m) ls lr → srel Z M.2.2.1 st sr → HRel Z M H → H.size = Z.1 + M.2.2.1 → cells + 1 ≤ R.cells → slots + zsz M.2.2.1 ≤ R.slots →
        (∀ (H' : Heap) (sr' : List Value), srel Z (M.2.2.1 + 1) st' sr' → H'.size = H.size + 1 → (∀ x : Nat, x < H.size → H'[x]? = H[x]?) → celR Z (aN M) H' M.2.2.1 → W p l e R s mid args below meth c H' locs (cells + 1) (slots + zsz M.2.2.1) Qs (F0 mid pc' lr sr')) →
        W p l e R s mid args below meth c H locs cells slots Qs (F0 mid pc lr sr))
    (h : Run m pc' ls st' (aN M) Q) : Run m pc ls st M Q := by
  obtain ⟨r, M', hQ, hm, hX⟩ := h
  have h1 := mle_c hm
  have h2 := mle_s hm
  have e1 : cst (aN M) = cst M + 1 := by show M.2.2.1 + 1 + M.2.2.2.1 = M.2.2.1 + M.2.2.2.1 + 1; omega
  have e2 : sst (aN M) = sst M + zsz M.2.2.1 := by show zss M.2.2.1 + zsz M.2.2.1 + 6 * M.2.2.2.1 = zss M.2.2.1 + 6 * M.2.2.2.1 + zsz M.2.2.1; omega
  refine ⟨r, M', hQ, ⟨by have := hm.1; have h9 : (aN M).2.2.1 = M.2.2.1 + 1 := rfl; omega, hm.2⟩, ?_⟩
  intro Z p l e R s mid args below meth c Qs C H locs cells slots lr sr hl hs hH hS b1 b2 hE
  refine step Z p l e R s mid args below meth c Qs C H locs cells slots lr sr hl hs hH (hH.1 hx) (by omega) (by omega) fun H' sr' hs' hz ho hc => ?_
  refine hX Z p l e R s mid args below meth c Qs C H' locs (cells + 1) (slots + zsz M.2.2.1) lr sr' (lrel_mono (Nat.le_succ _) hl) hs' (HRel_new hH hx hz ho hc) ⟨by have := hS.1; omega, fun x q1 q2 => ?_, hS.2.2⟩ (by omega) (by omega) hE
  rw [ho x (Nat.lt_of_lt_of_le q1 hS.1)]
  exact hS.2.1 x q1 q2
theorem R_new {m pc pc' : Nat} {ls st : List MV} {M : MH} {Q : Res → MH → Prop} {a b d : Nat} {z : Int} {tb : List (Int × Nat)} (hc : cod m pc = some (69, a, b, d, z, tb)) (hp : pc + 3 = pc') (hx : M.2.2.2.1 = 0) (hk : K0 M.2.2.1 = b + 1) (h : Run m pc' ls (vR (some M.2.2.1) :: st) (aN M) Q) : Run m pc ls st M Q := by
  subst hp
  have hd : decode (zby m) pc = .ok (.new a, 3) := (zdc hc).1
  have hw := Bool.and_eq_true_iff.mp (show (inW (66 + z.toNat) (.classLink (zyn m).cls a (zcn b)) && decide (b < 10)) = true from (zdc hc).2.1)
  have hb : b < 10 := of_decide_eq_true hw.2
  have hcl := zclk_at hb
  unfold zclk at hcl
  simp only [Bool.and_eq_true] at hcl
  have hsz : zsz M.2.2.1 = znF b := by
    unfold zsz
    rw [hk, if_pos (by omega)]
    rfl
  refine R_alloc hx (fun Z p l e R s mid args below meth cc Qs C H locs cells slots lr sr hl hs hH hz b1 b2 k => ?_) h
  obtain ⟨hS', hfc, kC', hkC', hkind⟩ := (zK C).1 b _ (zcl_at hb)
  rw [hsz] at b2 k
  refine W.newcK C.1 C.2.1 C.2.2.2.1 (C.2.2.2.2.1 _ (inW_ok hw.1)) (C.2.2.2.2.1 _ (inW_ok hcl.1.2)) (C.2.2.2.2.1 _ (inW_ok hcl.2)) rfl hd b1 b2 hfc rfl fun H1 kC hkC e1 z1 o1 => ?_
  refine k H1 _ ⟨⟨?_, fun q hq => ?_⟩, srel_mono (Nat.le_succ _) hs⟩ z1 o1 ?_
  · show Value.ref H.size = Value.ref (Z.1 + M.2.2.1)
    rw [hz]
  · cases hq; omega
  · unfold celR
    rw [hk, if_pos (by omega)]
    refine ⟨t_OB.to (u_born (zty b) C.2.2.2.2.1 (zin_at hb) ((zK C).1 b _ (zcl_at hb)) hkC (by rw [← hz]; exact e1) (fun k hk => (zty_at hb hk).1)) (fun j hj => ?_), fun j hj => ?_⟩
    · have h9 := (zty_at hb hj).2
      simp only [aN, if_true]
      rw [Nat.add_sub_cancel]
      generalize zty b j = ty at h9 ⊢
      cases ty with
      | int =>
        have e : zft b j = 0 := by simpa [ztc] using h9
        simp [fv, e, defaultValue]
      | boolean =>
        have e : zft b j = 1 := by simpa [ztc] using h9
        simp [fv, e, defaultValue]
      | object _ =>
        have e : zft b j = 4 := by simpa [ztc] using h9
        simp [fv, e, defaultValue, zrv]
      | array _ =>
        have e : zft b j = 4 := by simpa [ztc] using h9
        simp [fv, e, defaultValue, zrv]
      | _ => simp [ztc] at h9
    · simp only [aN, if_true]
      unfold fok
      split
      · intro q hq; cases hq
      · split
        · exact Or.inl rfl
        · exact r32_0
theorem R_newarr {m pc pc' : Nat} {ls st : List MV} {M : MH} {Q : Res → MH → Prop} {a b d : Nat} {z : Int} {tb : List (Int × Nat)} {n : Int} (hc : cod m pc = some (67, a, b, d, z, tb)) (hp : pc + 2 = pc') (hx : M.2.2.2.1 = 0) (ha : a < 4) (hk : K0 M.2.2.1 = a + 21) (hn : n = L0 M.2.2.1) (hb : L0 M.2.2.1 < 100000) (h : Run m pc' ls (vR (some M.2.2.1) :: st) (aN M) Q) : Run m pc ls (vI n :: st) M Q := by
  subst hp
  subst hn
  have hd : decode (zby m) pc = .ok (.newarray (zat a), 2) := (zdc hc).1
  have hsz : zsz M.2.2.1 = L0 M.2.2.1 := by
    unfold zsz
    rw [if_neg (by omega)]
  refine R_alloc hx (fun Z p l e R s mid args below meth cc Qs C H locs cells slots lr sr hl hs hH hz b1 b2 k => ?_) h
  obtain ⟨w1, ws1, rfl, ⟨rfl, g1⟩, hs1⟩ := srel_cons hs
  rw [hsz] at b2 k
  have hac : Cond.arrayClass (newarray.typeOf (zat a)) ∈ gW := by
    rcases (show a = 0 ∨ a = 1 ∨ a = 2 ∨ a = 3 by omega) with rfl | rfl | rfl | rfl
    · exact zw_ac_int
    · exact zw_ac_byte
    · exact zw_ac_boolean
    · exact zw_ac_long
  have hcb : componentBytes (newarray.typeOf (zat a)) ≤ 8 := by
    rcases (show a = 0 ∨ a = 1 ∨ a = 2 ∨ a = 3 by omega) with rfl | rfl | rfl | rfl <;> decide
  have hby : L0 M.2.2.1 * componentBytes (newarray.typeOf (zat a)) ≤ 536870912 := Nat.le_trans (Nat.mul_le_mul (Nat.le_of_lt hb) hcb) (by decide)
  refine va_newaK C.1 C.2.1 (C.2.2.2.2.1 _ hac) rfl hd rfl (N := L0 M.2.2.1) (fun q => by rw [i32neg g1] at q; omega) (by rw [i32clamp g1]; omega) hby b1 b2 rfl fun H1 cA e1 z1 o1 hAr hNm => ?_
  refine k H1 _ ⟨⟨?_, fun q hq => ?_⟩, srel_mono (Nat.le_succ _) hs1⟩ z1 o1 ?_
  · show Value.ref H.size = Value.ref (Z.1 + M.2.2.1)
    rw [hz]
  · cases hq; omega
  · refine celR_arr hk ⟨?_, fun j hj => ?_⟩
    · rw [← hz, e1]
      obtain ⟨ty, a1, a2, y0, y1, y2, y3, y4⟩ := zarr C a (by omega)
      have hty : newarray.typeOf (zat a) = ty := by
        rcases (show a = 0 ∨ a = 1 ∨ a = 2 ∨ a = 3 by omega) with rfl | rfl | rfl | rfl
        · rw [y0 rfl]; rfl
        · rw [y1 rfl]; rfl
        · rw [y2 rfl]; rfl
        · rw [y3 rfl]; rfl
      have hca : cA = Z.2.2.1 a := by
        rw [hty] at hNm
        rcases (show a = 0 ∨ a = 1 ∨ a = 2 ∨ a = 3 by omega) with rfl | rfl | rfl | rfl
        · cases y0 rfl; exact Option.some.inj (hNm.symm.trans a2)
        · cases y1 rfl; exact Option.some.inj (hNm.symm.trans a2)
        · cases y2 rfl; exact Option.some.inj (hNm.symm.trans a2)
        · cases y3 rfl; exact Option.some.inj (hNm.symm.trans a2)
      rw [hca]
      congr 1
      congr 1
      funext j
      simp only [aN, if_true]
      rcases (show a = 0 ∨ a = 1 ∨ a = 2 ∨ a = 3 by omega) with rfl | rfl | rfl | rfl <;> rfl
    · simp only [aN, if_true]
      rcases (show a = 0 ∨ a = 1 ∨ a = 2 ∨ a = 3 by omega) with rfl | rfl | rfl | rfl
      · exact r32_0
      · exact ⟨by decide, by decide⟩
      · exact Or.inl rfl
      · exact ⟨by decide, by decide⟩
theorem R_anew {m pc pc' : Nat} {ls st : List MV} {M : MH} {Q : Res → MH → Prop} {a b d : Nat} {z : Int} {tb : List (Int × Nat)} {n : Int} (hc : cod m pc = some (68, a, b, d, z, tb)) (hp : pc + 3 = pc') (hx : M.2.2.2.1 = 0) (hk : K0 M.2.2.1 = 4 + 21) (hn : n = L0 M.2.2.1) (hb : L0 M.2.2.1 < 100000) (h : Run m pc' ls (vR (some M.2.2.1) :: st) (aN M) Q) : Run m pc ls (vI n :: st) M Q := by
  subst hp
  subst hn
  have hd : decode (zby m) pc = .ok (.anewarray a, 3) := (zdc hc).1
  have hw : inW (66 + b) (.classLink (zyn m).cls a "RepairScan$Found") = true := (zdc hc).2.1
  have hsz : zsz M.2.2.1 = L0 M.2.2.1 := by
    unfold zsz
    rw [if_neg (by omega)]
  refine R_alloc hx (fun Z p l e R s mid args below meth cc Qs C H locs cells slots lr sr hl hs hH hz b1 b2 k => ?_) h
  obtain ⟨w1, ws1, rfl, ⟨rfl, g1⟩, hs1⟩ := srel_cons hs
  rw [hsz] at b2 k
  have hcl : (Int32.ofInt (L0 M.2.2.1 : Nat)).toNatClampNeg = L0 M.2.2.1 := by rw [i32clamp g1]; omega
  refine W.anew C.1 C.2.1 C.2.2.2.1 (C.2.2.2.2.1 _ (inW_ok hw)) (va_AO.use (zEv C).2.2.2.2.2.2.2.1) rfl hd rfl (fun q => by rw [i32neg g1] at q; omega) (by rw [hcl]; omega) b1 (by rw [hcl]; exact b2) fun cA kA comp r1 r2 r3 r4 => ?_
  rw [hcl]
  refine k _ _ ⟨⟨?_, fun q hq => ?_⟩, srel_mono (Nat.le_succ _) hs1⟩ (by simp) (fun x hx => by rw [Array.getElem?_push_lt hx, Array.getElem?_eq_getElem hx]) ?_
  · show Value.ref H.size = Value.ref (Z.1 + M.2.2.1)
    rw [hz]
  · cases hq; omega
  · obtain ⟨ty, a1, a2, y0, y1, y2, y3, y4⟩ := zarr C 4 (by decide)
    cases y4 rfl
    obtain ⟨kA', comp', k1, k2, k3, k4⟩ := a2
    have hca : cA = Z.2.2.1 4 := Option.some.inj (r1.symm.trans k4)
    refine celR_arr hk ⟨?_, fun j hj => ?_⟩
    · rw [← hz, hca]
      simp only [aN, if_true, Array.getElem?_push_size]
      congr 1
      unfold arrV
      congr 1
      apply Array.ext
      · simp
      · intro i q1 q2
        simp [av, zrv]
    · simp only [aN, if_true]
      intro q hq
      cases hq
def swT (a : Nat) (tb : List (Int × Nat)) (x : Int) : Nat := (tb.lookup x).getD a
theorem sw_lk {tb : List (Int × Nat)} {x : Int} {t : Nat} (h : tb.lookup x = some t) : ∃ k : Nat, tb[k]? = some (x, t) := by
  induction tb with
  | nil => simp at h
  | cons q l ih =>
    obtain ⟨u, v⟩ := q
    rw [List.lookup_cons] at h
    split at h
    · rename_i e
      have e1 : x = u := by simpa using e
      cases h
      exact ⟨0, by rw [e1]; rfl⟩
    · obtain ⟨k, hk⟩ := ih h
      exact ⟨k + 1, hk⟩
theorem sw_no {tb : List (Int × Nat)} {x : Int} (h : tb.lookup x = none) : ∀ q ∈ tb, q.1 ≠ x := by
  induction tb with
  | nil => intro q hq; cases hq
  | cons q l ih =>
    obtain ⟨u, v⟩ := q
    rw [List.lookup_cons] at h
    split at h
    · cases h
    · rename_i e
      intro q hq
      rcases List.mem_cons.mp hq with rfl | hq
      · intro e2
        have : x = u := e2.symm
        subst this
        simp at e
      · exact ih h q hq
theorem R_tsw {m pc pc' : Nat} {ls st : List MV} {M : MH} {Q : Res → MH → Prop} {a b d : Nat} {z : Int} {tb : List (Int × Nat)} {x : Int} (hc : cod m pc = some (51, a, b, d, z, tb)) (hp : swT a tb x = pc') (h : Run m pc' ls st M Q) : Run m pc ls (vI x :: st) M Q := by
  subst hp
  have hd : decode (zby m) pc = .ok (.tableswitch ((a : Int) - pc) z (z + (tb.length - 1 : Nat)) (tb.map fun q => (q.2 : Int) - pc).toArray, b) := (zdc hc).1
  have hb := Bool.and_eq_true_iff.mp (show (decide (tb.length ≠ 0) && (List.range tb.length).all (fun k => decide ((tb[k]?).map (·.1) = some (z + k)))) = true from (zdc hc).2.2.1)
  have hne : tb.length ≠ 0 := of_decide_eq_true hb.1
  have hall : ∀ k, k < tb.length → (tb[k]?).map (·.1) = some (z + k) := fun k hk => of_decide_eq_true (List.all_eq_true.mp hb.2 k (List.mem_range.mpr hk))
  refine R_pure (fun Z p l e R s mid args below meth cc Qs C H locs cells slots lr sr hl hs hH hS b1 b2 k => ?_) h
  obtain ⟨w1, ws1, rfl, ⟨rfl, g1⟩, hs1⟩ := srel_cons hs
  have k := k lr _ hl hs1
  unfold swT at k
  cases hlk : tb.lookup x with
  | some t =>
    rw [hlk] at k
    obtain ⟨j, hj⟩ := sw_lk hlk
    have hjl : j < tb.length := (List.getElem?_eq_some_iff.mp hj).1
    have hx : x = z + j := by
      have h9 := hall j hjl
      rw [hj] at h9
      exact Option.some.inj h9
    refine lv_tableIn C.1 C.2.1 hd (by rw [i32t g1]; omega) (by rw [i32t g1]; omega) (off := (t : Int) - pc) ?_ (tgt := t) (by omega) k
    rw [i32t g1, show (x - z).toNat = j by omega, List.getElem?_toArray, List.getElem?_map, hj]
    rfl
  | none =>
    rw [hlk] at k
    refine lv_tableOut C.1 C.2.1 hd ?_ (tgt := a) (by omega) k
    rw [i32t g1]
    by_cases q1 : x < z
    · exact Or.inl q1
    · refine Or.inr ?_
      by_cases q2 : z + ((tb.length - 1 : Nat) : Int) < x
      · exact q2
      · exfalso
        have hj : (x - z).toNat < tb.length := by omega
        have h9 := hall _ hj
        rw [List.getElem?_eq_getElem hj] at h9
        have h8 := Option.some.inj h9
        exact sw_no hlk _ (List.getElem_mem hj) (by have h7 : (tb[(x - z).toNat]).1 = z + ((x - z).toNat : Int) := h8; rw [h7]; omega)
theorem R_lsw {m pc pc' : Nat} {ls st : List MV} {M : MH} {Q : Res → MH → Prop} {a b d : Nat} {z : Int} {tb : List (Int × Nat)} {x : Int} (hc : cod m pc = some (52, a, b, d, z, tb)) (hp : swT a tb x = pc') (h : Run m pc' ls st M Q) : Run m pc ls (vI x :: st) M Q := by
  subst hp
  have hd : decode (zby m) pc = .ok (.lookupswitch ((a : Int) - pc) (tb.map fun q => (q.1, (q.2 : Int) - pc)).toArray, b) := (zdc hc).1
  have hb : (tb.zip (tb.drop 1)).all (fun q => decide (q.1.1 < q.2.1)) = true := (zdc hc).2.2.1
  refine R_pure (fun Z p l e R s mid args below meth cc Qs C H locs cells slots lr sr hl hs hH hS b1 b2 k => ?_) h
  obtain ⟨w1, ws1, rfl, ⟨rfl, g1⟩, hs1⟩ := srel_cons hs
  have k := k lr _ hl hs1
  have hoff : ∀ t : List (Int × Nat), Op.lookupswitch.offset (t.map fun q => (q.1, (q.2 : Int) - pc)) ((a : Int) - pc) x = ((swT a t x : Nat) : Int) - pc := by
    intro t
    induction t with
    | nil => rfl
    | cons q r ih =>
      obtain ⟨u, v⟩ := q
      by_cases e : x = u
      · subst e
        simp [Op.lookupswitch.offset, swT, List.lookup_cons]
      · have e2 : (x == u) = false := by simpa using e
        have e3 : ¬ u = x := fun q => e q.symm
        simp [swT, List.lookup_cons, e2] at ih ⊢
        simp [Op.lookupswitch.offset, e, e3]
        exact ih
  refine lv_lookup C.1 C.2.1 hd ?_ (off := ((swT a tb x : Nat) : Int) - pc) (by rw [i32t g1]; exact hoff tb) (by omega) k
  rw [← List.map_drop, List.zip_map, List.all_map]
  rw [← hb]
  congr 1
theorem R_ldcS {m pc pc' : Nat} {ls st : List MV} {M : MH} {Q : Res → MH → Prop} {a b d : Nat} {z : Int} {tb : List (Int × Nat)} (hc : cod m pc = some (70, a, b, d, z, tb)) (hp : pc + 2 = pc') (h : Run m pc' ls (vS b :: st) M Q) : Run m pc ls st M Q := by
  subst hp
  have hd : decode (zby m) pc = .ok (.ldc a, 2) := (zdc hc).1
  obtain ⟨q1, q2, q3⟩ : (zso b).1 = (zyn m).cls ∧ (zso b).2.1 = a ∧ b < 25 := of_decide_eq_true (show decide _ = true from (zdc hc).2.1)
  refine R_pure (fun Z p l e R s mid args below meth cc Qs C H locs cells slots lr sr hl hs hH hS b1 b2 k => ?_) h
  have hZ := (zEv C).2.2.1 b q3
  rw [q1, q2] at hZ
  exact va_ldcS C.1 C.2.1 C.2.2.2.1 hZ hd (k lr _ hl ⟨Or.inl ⟨q3, rfl⟩, hs⟩)
