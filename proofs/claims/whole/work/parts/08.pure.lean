theorem eq32 {x : Int32} {z : Int} (h : x.toInt = z) : x = Int32.ofInt z := by
  rw [← h]; exact (Int32.ofInt_toInt x).symm
theorem eq64 {x : Int64} {z : Int} (h : x.toInt = z) : x = Int64.ofInt z := by
  rw [← h]; exact (Int64.ofInt_toInt x).symm
theorem bm32 {z : Int} (h : r32 z) : z.bmod (2 ^ 32) = z := by
  obtain ⟨h1, h2⟩ := h
  rw [Int.bmod_eq_of_le] <;> omega
theorem bm64 {z : Int} (h : r64 z) : z.bmod (2 ^ 64) = z := by
  obtain ⟨h1, h2⟩ := h
  rw [Int.bmod_eq_of_le] <;> omega
theorem i8w {z : Int} (h : -128 ≤ z ∧ z < 128) : (Int8.ofInt z).toInt32 = Int32.ofInt z := eq32 (by rw [Int8.toInt_toInt32, Int8.toInt_ofInt_of_le] <;> omega)
theorem i16w {z : Int} (h : -32768 ≤ z ∧ z < 32768) : (Int16.ofInt z).toInt32 = Int32.ofInt z := eq32 (by rw [Int16.toInt_toInt32, Int16.toInt_ofInt_of_le] <;> omega)
theorem i32add {x y : Int} : Int32.ofInt x + Int32.ofInt y = Int32.ofInt (x + y) := by
  apply Int32.toInt_inj.mp
  simp
theorem i32sub {x y : Int} : Int32.ofInt x - Int32.ofInt y = Int32.ofInt (x - y) := by
  apply Int32.toInt_inj.mp
  simp
theorem i32mul {x y : Int} : Int32.ofInt x * Int32.ofInt y = Int32.ofInt (x * y) := by
  apply Int32.toInt_inj.mp
  simp
theorem i64sub {x y : Int} : Int64.ofInt x - Int64.ofInt y = Int64.ofInt (x - y) := by
  apply Int64.toInt_inj.mp
  simp
theorem i64mul {x y : Int} : Int64.ofInt x * Int64.ofInt y = Int64.ofInt (x * y) := by
  apply Int64.toInt_inj.mp
  simp
theorem i32div {x y : Int} (hx : r32 x) (hy : r32 y) (h : r32 (x.tdiv y)) : Int32.ofInt x / Int32.ofInt y = Int32.ofInt (x.tdiv y) := eq32 (by rw [Int32.toInt_div, i32t hx, i32t hy, bm32 h])
theorem i64div {x y : Int} (hx : r64 x) (hy : r64 y) (h : r64 (x.tdiv y)) : Int64.ofInt x / Int64.ofInt y = Int64.ofInt (x.tdiv y) := eq64 (by rw [Int64.toInt_div, i64t hx, i64t hy, bm64 h])
theorem i32and {x : Int} (k : Nat) {y : Int32} (hk : k ≤ 16) (hy : y.toBitVec.toNat = 2 ^ k - 1) : Int32.ofInt x &&& y = Int32.ofInt (x % ((2 ^ k : Nat) : Int)) := by
  rw [pk_and _ k hy]
  have e1 : (Int32.ofInt x).toBitVec = BitVec.ofInt 32 x := rfl
  rw [e1, BitVec.toNat_ofInt]
  have h2 : ((2 ^ 32 : Nat) : Int) = ((2 ^ k : Nat) : Int) * ((2 ^ (32 - k) : Nat) : Int) := by
    rw [← Int.natCast_mul, ← Nat.pow_add, show k + (32 - k) = 32 by omega]
  have h3 : (((x % ((2 ^ 32 : Nat) : Int)).toNat % 2 ^ k : Nat) : Int) = x % ((2 ^ k : Nat) : Int) := by
    rw [Int.natCast_emod, Int.toNat_of_nonneg (Int.emod_nonneg _ (by decide)), Int.emod_emod_of_dvd _ ⟨_, h2⟩]
  show Int32.ofNat _ = _
  rw [← h3]
  rfl
theorem i64and {x : Int} : Int64.ofInt x &&& Int64.ofInt 255 = Int64.ofInt (x % 256) := by
  apply eq64
  have e1 : (Int64.ofInt x &&& Int64.ofInt 255).toBitVec = BitVec.ofInt 64 x &&& 255#64 := rfl
  have e2 : (Int64.ofInt x &&& Int64.ofInt 255).toInt = (BitVec.ofInt 64 x &&& 255#64).toInt := by rw [← e1]; rfl
  have e3 : (BitVec.ofInt 64 x &&& 255#64).toNat = (x % 256).toNat := by
    rw [BitVec.toNat_and, BitVec.toNat_ofInt, show (255#64).toNat = 2 ^ 8 - 1 from rfl, Nat.and_two_pow_sub_one_eq_mod]
    omega
  rw [e2, BitVec.toInt_eq_toNat_of_lt (by rw [e3]; omega), e3]
  omega
theorem i64shr {x : Int} {y : Int} (hx : r64 x) (h0 : 0 ≤ y) (h1 : y < 64) : Int64.ofInt x >>> ((Int32.ofInt y).toInt64 &&& 63) = Int64.ofInt (x >>> y.toNat) := by
  obtain ⟨n, rfl⟩ : ∃ n : Nat, y = n := ⟨y.toNat, by omega⟩
  have hn : n < 64 := by omega
  have key : ∀ k, k < 64 → (((Int32.ofInt (k : Nat)).toInt64 &&& 63).toBitVec.smod 64).toNat = k := by decide +kernel
  apply eq64
  have e1 : (Int64.ofInt x >>> ((Int32.ofInt (n : Int)).toInt64 &&& 63)).toInt = ((Int64.ofInt x).toBitVec.sshiftRight' (((Int32.ofInt (n : Int)).toInt64 &&& 63).toBitVec.smod 64)).toInt := rfl
  rw [e1]
  show ((Int64.ofInt x).toBitVec.sshiftRight (((Int32.ofInt (n : Int)).toInt64 &&& 63).toBitVec.smod 64).toNat).toInt = _
  rw [key n hn, BitVec.toInt_sshiftRight]
  show (Int64.ofInt x).toInt >>> n = _
  rw [i64t hx]
  simp

theorem R_iconst {m pc pc' : Nat} {ls st : List MV} {M : MH} {Q : Res → MH → Prop} {a b d : Nat} {z : Int} {tb : List (Int × Nat)} (hc : cod m pc = some (1, a, b, d, z, tb)) (hp : pc + 1 = pc') (h : Run m pc' ls (vI z :: st) M Q) : Run m pc ls st M Q := by
  subst hp
  have hd : decode (zby m) pc = .ok (.iconst z, 1) := (zdc hc).1
  have hb : -128 ≤ z ∧ z < 128 := of_decide_eq_true (show decide _ = true from (zdc hc).2.2.1)
  refine R_pure (fun Z p l e R s mid args below meth cc Qs C H locs cells slots lr sr hl hs hH hS b1 b2 k => ?_) h
  exact lv_iconst C.1 C.2.1 hd rfl (k lr _ hl ⟨⟨rfl, by constructor <;> omega⟩, hs⟩)
theorem R_bipush {m pc pc' : Nat} {ls st : List MV} {M : MH} {Q : Res → MH → Prop} {a b d : Nat} {z : Int} {tb : List (Int × Nat)} (hc : cod m pc = some (2, a, b, d, z, tb)) (hp : pc + 2 = pc') (h : Run m pc' ls (vI z :: st) M Q) : Run m pc ls st M Q := by
  subst hp
  have hd : decode (zby m) pc = .ok (.bipush z, 2) := (zdc hc).1
  have hb : -128 ≤ z ∧ z < 128 := of_decide_eq_true (show decide _ = true from (zdc hc).2.2.1)
  refine R_pure (fun Z p l e R s mid args below meth cc Qs C H locs cells slots lr sr hl hs hH hS b1 b2 k => ?_) h
  exact lv_bipush C.1 C.2.1 hd (i8w hb) (k lr _ hl ⟨⟨rfl, by constructor <;> omega⟩, hs⟩)
theorem R_sipush {m pc pc' : Nat} {ls st : List MV} {M : MH} {Q : Res → MH → Prop} {a b d : Nat} {z : Int} {tb : List (Int × Nat)} (hc : cod m pc = some (3, a, b, d, z, tb)) (hp : pc + 3 = pc') (h : Run m pc' ls (vI z :: st) M Q) : Run m pc ls st M Q := by
  subst hp
  have hd : decode (zby m) pc = .ok (.sipush z, 3) := (zdc hc).1
  have hb : -32768 ≤ z ∧ z < 32768 := of_decide_eq_true (show decide _ = true from (zdc hc).2.2.1)
  refine R_pure (fun Z p l e R s mid args below meth cc Qs C H locs cells slots lr sr hl hs hH hS b1 b2 k => ?_) h
  exact lv_sipush C.1 C.2.1 hd (i16w hb) (k lr _ hl ⟨⟨rfl, by constructor <;> omega⟩, hs⟩)
theorem R_lconst {m pc pc' : Nat} {ls st : List MV} {M : MH} {Q : Res → MH → Prop} {a b d : Nat} {z : Int} {tb : List (Int × Nat)} (hc : cod m pc = some (4, a, b, d, z, tb)) (hp : pc + 1 = pc') (h : Run m pc' ls (vL z :: st) M Q) : Run m pc ls st M Q := by
  subst hp
  have hd : decode (zby m) pc = .ok (.lconst (if a = 0 then 0 else 1), 1) := (zdc hc).1
  have hb : a < 2 ∧ z = a := of_decide_eq_true (show decide _ = true from (zdc hc).2.2.1)
  refine R_pure (fun Z p l e R s mid args below meth cc Qs C H locs cells slots lr sr hl hs hH hS b1 b2 k => ?_) h
  obtain ⟨ha, hz⟩ := hb
  subst hz
  refine lv_lconst (v := Int64.ofInt a) C.1 C.2.1 hd ?_ (k lr _ hl ⟨⟨rfl, by constructor <;> omega⟩, hs⟩)
  rcases (show a = 0 ∨ a = 1 by omega) with rfl | rfl <;> rfl
theorem R_ldc2 {m pc pc' : Nat} {ls st : List MV} {M : MH} {Q : Res → MH → Prop} {a b d : Nat} {z : Int} {tb : List (Int × Nat)} (hc : cod m pc = some (5, a, b, d, z, tb)) (hp : pc + 3 = pc') (h : Run m pc' ls (vL z :: st) M Q) : Run m pc ls st M Q := by
  subst hp
  have hd : decode (zby m) pc = .ok (.ldc2_w a, 3) := (zdc hc).1
  refine R_pure (fun Z p l e R s mid args below meth cc Qs C H locs cells slots lr sr hl hs hH hS b1 b2 k => ?_) h
  have hw : inW (66 + b) (.constantLong (zyn m).cls a (Int64.ofInt z)) = true ∧ decide (-9223372036854775808 ≤ z ∧ z < 9223372036854775808) = true := Bool.and_eq_true_iff.mp (show (_ && _) = true from (zdc hc).2.1)
  have hw2 : -9223372036854775808 ≤ z ∧ z < 9223372036854775808 := of_decide_eq_true hw.2
  exact lv_ldc2 C.1 C.2.1 C.2.2.2.1 (C.2.2.2.2.1 _ (inW_ok hw.1)) hd (k lr _ hl ⟨⟨rfl, hw2⟩, hs⟩)
theorem R_iload_n {m pc pc' : Nat} {ls st : List MV} {M : MH} {Q : Res → MH → Prop} {a b d : Nat} {z : Int} {tb : List (Int × Nat)} (hc : cod m pc = some (6, a, b, d, z, tb)) (hp : pc + 1 = pc') {x : Int} (hx : ls[a]? = some (vI x)) (h : Run m pc' ls (vI x :: st) M Q) : Run m pc ls st M Q := by
  subst hp
  have hd : decode (zby m) pc = .ok (.iload_n (zFin a), 1) := (zdc hc).1
  have hb : a < 4 := of_decide_eq_true (show decide _ = true from (zdc hc).2.2.1)
  refine R_pure (fun Z p l e R s mid args below meth cc Qs C H locs cells slots lr sr hl hs hH hS b1 b2 k => ?_) h
  obtain ⟨w, e1, rfl, e2⟩ := lget hl hx (by intro q; cases q)
  exact lv_iload_n C.1 C.2.1 hd (by simp [zFin, hb]) e1 (k lr _ hl ⟨⟨rfl, e2⟩, hs⟩)
theorem R_iload {m pc pc' : Nat} {ls st : List MV} {M : MH} {Q : Res → MH → Prop} {a b d : Nat} {z : Int} {tb : List (Int × Nat)} (hc : cod m pc = some (7, a, b, d, z, tb)) (hp : pc + 2 = pc') {x : Int} (hx : ls[a]? = some (vI x)) (h : Run m pc' ls (vI x :: st) M Q) : Run m pc ls st M Q := by
  subst hp
  have hd : decode (zby m) pc = .ok (.iload a, 2) := (zdc hc).1
  refine R_pure (fun Z p l e R s mid args below meth cc Qs C H locs cells slots lr sr hl hs hH hS b1 b2 k => ?_) h
  obtain ⟨w, e1, rfl, e2⟩ := lget hl hx (by intro q; cases q)
  exact lv_iload C.1 C.2.1 hd e1 (k lr _ hl ⟨⟨rfl, e2⟩, hs⟩)
theorem R_lload_n {m pc pc' : Nat} {ls st : List MV} {M : MH} {Q : Res → MH → Prop} {a b d : Nat} {z : Int} {tb : List (Int × Nat)} (hc : cod m pc = some (10, a, b, d, z, tb)) (hp : pc + 1 = pc') {x : Int} (hx : ls[a]? = some (vL x)) (h : Run m pc' ls (vL x :: st) M Q) : Run m pc ls st M Q := by
  subst hp
  have hd : decode (zby m) pc = .ok (.lload_n (zFin a), 1) := (zdc hc).1
  have hb : a < 4 := of_decide_eq_true (show decide _ = true from (zdc hc).2.2.1)
  refine R_pure (fun Z p l e R s mid args below meth cc Qs C H locs cells slots lr sr hl hs hH hS b1 b2 k => ?_) h
  obtain ⟨w, e1, rfl, e2⟩ := lget hl hx (by intro q; cases q)
  exact lv_lload_n C.1 C.2.1 hd (by simp [zFin, hb]) e1 (k lr _ hl ⟨⟨rfl, e2⟩, hs⟩)
theorem R_lload {m pc pc' : Nat} {ls st : List MV} {M : MH} {Q : Res → MH → Prop} {a b d : Nat} {z : Int} {tb : List (Int × Nat)} (hc : cod m pc = some (11, a, b, d, z, tb)) (hp : pc + 2 = pc') {x : Int} (hx : ls[a]? = some (vL x)) (h : Run m pc' ls (vL x :: st) M Q) : Run m pc ls st M Q := by
  subst hp
  have hd : decode (zby m) pc = .ok (.lload a, 2) := (zdc hc).1
  refine R_pure (fun Z p l e R s mid args below meth cc Qs C H locs cells slots lr sr hl hs hH hS b1 b2 k => ?_) h
  obtain ⟨w, e1, rfl, e2⟩ := lget hl hx (by intro q; cases q)
  exact lv_lload C.1 C.2.1 hd e1 (k lr _ hl ⟨⟨rfl, e2⟩, hs⟩)
theorem R_aload_n {m pc pc' : Nat} {ls st : List MV} {M : MH} {Q : Res → MH → Prop} {a b d : Nat} {z : Int} {tb : List (Int × Nat)} (hc : cod m pc = some (8, a, b, d, z, tb)) (hp : pc + 1 = pc') {r : Option Nat} (hx : ls[a]? = some (vR r)) (h : Run m pc' ls (vR r :: st) M Q) : Run m pc ls st M Q := by
  subst hp
  have hd : decode (zby m) pc = .ok (.aload_n (zFin a), 1) := (zdc hc).1
  have hb : a < 4 := of_decide_eq_true (show decide _ = true from (zdc hc).2.2.1)
  refine R_pure (fun Z p l e R s mid args below meth cc Qs C H locs cells slots lr sr hl hs hH hS b1 b2 k => ?_) h
  obtain ⟨w, e1, rfl, e2⟩ := lget hl hx (by intro q; cases q)
  cases r with
  | none => exact lv_aload_nN C.1 C.2.1 hd (by simp [zFin, hb]) e1 (k lr _ hl ⟨⟨rfl, e2⟩, hs⟩)
  | some x => exact lv_aload_n C.1 C.2.1 hd (by simp [zFin, hb]) e1 (k lr _ hl ⟨⟨rfl, e2⟩, hs⟩)
theorem R_aload_nS {m pc pc' : Nat} {ls st : List MV} {M : MH} {Q : Res → MH → Prop} {a b d : Nat} {z : Int} {tb : List (Int × Nat)} (hc : cod m pc = some (8, a, b, d, z, tb)) (hp : pc + 1 = pc') {x : Nat} (hx : ls[a]? = some (vS x)) (h : Run m pc' ls (vS x :: st) M Q) : Run m pc ls st M Q := by
  subst hp
  have hd : decode (zby m) pc = .ok (.aload_n (zFin a), 1) := (zdc hc).1
  have hb : a < 4 := of_decide_eq_true (show decide _ = true from (zdc hc).2.2.1)
  refine R_pure (fun Z p l e R s mid args below meth cc Qs C H locs cells slots lr sr hl hs hH hS b1 b2 k => ?_) h
  obtain ⟨w, e1, e2⟩ := lget hl hx (by intro q; cases q)
  rcases e2 with ⟨q1, rfl⟩ | ⟨q1, rfl⟩
  · exact lv_aload_n C.1 C.2.1 hd (by simp [zFin, hb]) e1 (k lr _ hl ⟨Or.inl ⟨q1, rfl⟩, hs⟩)
  · exact lv_aload_n C.1 C.2.1 hd (by simp [zFin, hb]) e1 (k lr _ hl ⟨Or.inr ⟨q1, rfl⟩, hs⟩)
theorem R_aload {m pc pc' : Nat} {ls st : List MV} {M : MH} {Q : Res → MH → Prop} {a b d : Nat} {z : Int} {tb : List (Int × Nat)} (hc : cod m pc = some (9, a, b, d, z, tb)) (hp : pc + 2 = pc') {r : Option Nat} (hx : ls[a]? = some (vR r)) (h : Run m pc' ls (vR r :: st) M Q) : Run m pc ls st M Q := by
  subst hp
  have hd : decode (zby m) pc = .ok (.aload a, 2) := (zdc hc).1
  refine R_pure (fun Z p l e R s mid args below meth cc Qs C H locs cells slots lr sr hl hs hH hS b1 b2 k => ?_) h
  obtain ⟨w, e1, rfl, e2⟩ := lget hl hx (by intro q; cases q)
  cases r with
  | none => exact lv_aloadN C.1 C.2.1 hd e1 (k lr _ hl ⟨⟨rfl, e2⟩, hs⟩)
  | some x => exact lv_aload C.1 C.2.1 hd e1 (k lr _ hl ⟨⟨rfl, e2⟩, hs⟩)
theorem R_aloadS {m pc pc' : Nat} {ls st : List MV} {M : MH} {Q : Res → MH → Prop} {a b d : Nat} {z : Int} {tb : List (Int × Nat)} (hc : cod m pc = some (9, a, b, d, z, tb)) (hp : pc + 2 = pc') {x : Nat} (hx : ls[a]? = some (vS x)) (h : Run m pc' ls (vS x :: st) M Q) : Run m pc ls st M Q := by
  subst hp
  have hd : decode (zby m) pc = .ok (.aload a, 2) := (zdc hc).1
  refine R_pure (fun Z p l e R s mid args below meth cc Qs C H locs cells slots lr sr hl hs hH hS b1 b2 k => ?_) h
  obtain ⟨w, e1, e2⟩ := lget hl hx (by intro q; cases q)
  rcases e2 with ⟨q1, rfl⟩ | ⟨q1, rfl⟩
  · exact lv_aload C.1 C.2.1 hd e1 (k lr _ hl ⟨Or.inl ⟨q1, rfl⟩, hs⟩)
  · exact lv_aload C.1 C.2.1 hd e1 (k lr _ hl ⟨Or.inr ⟨q1, rfl⟩, hs⟩)
theorem R_istore_n {m pc pc' : Nat} {ls st : List MV} {M : MH} {Q : Res → MH → Prop} {a b d : Nat} {z : Int} {tb : List (Int × Nat)} (hc : cod m pc = some (12, a, b, d, z, tb)) (hp : pc + 1 = pc') {x : Int} {ls' : List MV} (hx : stL1 ls a (vI x) = some ls') (h : Run m pc' ls' st M Q) : Run m pc ls (vI x :: st) M Q := by
  subst hp
  have hd : decode (zby m) pc = .ok (.istore_n (zFin a), 1) := (zdc hc).1
  have hb : a < 4 := of_decide_eq_true (show decide _ = true from (zdc hc).2.2.1)
  refine R_pure (fun Z p l e R s mid args below meth cc Qs C H locs cells slots lr sr hl hs hH hS b1 b2 k => ?_) h
  obtain ⟨w1, ws1, rfl, ⟨rfl, g1⟩, hs1⟩ := srel_cons hs
  have hs := hs1
  have hi : a < zml m := by have := (stL1_spec hx).1; have := hl.2.2.1; omega
  exact lv_istore_n C.1 C.2.1 hd (by simp [zFin, hb]) (lvAll_has hl) hi rfl (fun lr' h' => k lr' _ (lst1 hl hx (fun _ => ⟨rfl, g1⟩) h') hs)
theorem R_istore {m pc pc' : Nat} {ls st : List MV} {M : MH} {Q : Res → MH → Prop} {a b d : Nat} {z : Int} {tb : List (Int × Nat)} (hc : cod m pc = some (13, a, b, d, z, tb)) (hp : pc + 2 = pc') {x : Int} {ls' : List MV} (hx : stL1 ls a (vI x) = some ls') (h : Run m pc' ls' st M Q) : Run m pc ls (vI x :: st) M Q := by
  subst hp
  have hd : decode (zby m) pc = .ok (.istore a, 2) := (zdc hc).1
  refine R_pure (fun Z p l e R s mid args below meth cc Qs C H locs cells slots lr sr hl hs hH hS b1 b2 k => ?_) h
  obtain ⟨w1, ws1, rfl, ⟨rfl, g1⟩, hs1⟩ := srel_cons hs
  have hs := hs1
  have hi : a < zml m := by have := (stL1_spec hx).1; have := hl.2.2.1; omega
  exact lv_istore C.1 C.2.1 hd (lvAll_has hl) hi rfl (fun lr' h' => k lr' _ (lst1 hl hx (fun _ => ⟨rfl, g1⟩) h') hs)
theorem R_astore_n {m pc pc' : Nat} {ls st : List MV} {M : MH} {Q : Res → MH → Prop} {a b d : Nat} {z : Int} {tb : List (Int × Nat)} (hc : cod m pc = some (14, a, b, d, z, tb)) (hp : pc + 1 = pc') {r : Option Nat} {ls' : List MV} (hx : stL1 ls a (vR r) = some ls') (h : Run m pc' ls' st M Q) : Run m pc ls (vR r :: st) M Q := by
  subst hp
  have hd : decode (zby m) pc = .ok (.astore_n (zFin a), 1) := (zdc hc).1
  have hb : a < 4 := of_decide_eq_true (show decide _ = true from (zdc hc).2.2.1)
  refine R_pure (fun Z p l e R s mid args below meth cc Qs C H locs cells slots lr sr hl hs hH hS b1 b2 k => ?_) h
  obtain ⟨w1, ws1, rfl, ⟨rfl, g1⟩, hs1⟩ := srel_cons hs
  have hs := hs1
  have hi : a < zml m := by have := (stL1_spec hx).1; have := hl.2.2.1; omega
  cases r with
  | none => exact lv_astore_nN C.1 C.2.1 hd (by simp [zFin, hb]) (lvAll_has hl) hi rfl (fun lr' h' => k lr' _ (lst1 hl hx (fun _ => ⟨rfl, g1⟩) h') hs1)
  | some x => exact lv_astore_n C.1 C.2.1 hd (by simp [zFin, hb]) (lvAll_has hl) hi rfl (fun lr' h' => k lr' _ (lst1 hl hx (fun _ => ⟨rfl, g1⟩) h') hs1)
theorem R_astore_nJ {m pc pc' : Nat} {ls st : List MV} {M : MH} {Q : Res → MH → Prop} {a b d : Nat} {z : Int} {tb : List (Int × Nat)} (hc : cod m pc = some (14, a, b, d, z, tb)) (hp : pc + 1 = pc') {ls' : List MV} (hx : stL1 ls a vJ = some ls') (h : Run m pc' ls' st M Q) : Run m pc ls (vJ :: st) M Q := by
  subst hp
  have hd : decode (zby m) pc = .ok (.astore_n (zFin a), 1) := (zdc hc).1
  have hb : a < 4 := of_decide_eq_true (show decide _ = true from (zdc hc).2.2.1)
  refine R_pure (fun Z p l e R s mid args below meth cc Qs C H locs cells slots lr sr hl hs hH hS b1 b2 k => ?_) h
  obtain ⟨w1, ws1, rfl, ⟨x, rfl⟩, hs1⟩ := srel_cons hs
  have hs := hs1
  have hi : a < zml m := by have := (stL1_spec hx).1; have := hl.2.2.1; omega
  exact lv_astore_n C.1 C.2.1 hd (by simp [zFin, hb]) (lvAll_has hl) hi rfl (fun lr' h' => k lr' _ (lst1 hl hx (fun q => absurd rfl q) h') hs)
theorem R_astore {m pc pc' : Nat} {ls st : List MV} {M : MH} {Q : Res → MH → Prop} {a b d : Nat} {z : Int} {tb : List (Int × Nat)} (hc : cod m pc = some (15, a, b, d, z, tb)) (hp : pc + 2 = pc') {r : Option Nat} {ls' : List MV} (hx : stL1 ls a (vR r) = some ls') (h : Run m pc' ls' st M Q) : Run m pc ls (vR r :: st) M Q := by
  subst hp
  have hd : decode (zby m) pc = .ok (.astore a, 2) := (zdc hc).1
  refine R_pure (fun Z p l e R s mid args below meth cc Qs C H locs cells slots lr sr hl hs hH hS b1 b2 k => ?_) h
  obtain ⟨w1, ws1, rfl, ⟨rfl, g1⟩, hs1⟩ := srel_cons hs
  have hs := hs1
  have hi : a < zml m := by have := (stL1_spec hx).1; have := hl.2.2.1; omega
  cases r with
  | none => exact lv_astoreN C.1 C.2.1 hd (lvAll_has hl) hi rfl (fun lr' h' => k lr' _ (lst1 hl hx (fun _ => ⟨rfl, g1⟩) h') hs1)
  | some x => exact lv_astore C.1 C.2.1 hd (lvAll_has hl) hi rfl (fun lr' h' => k lr' _ (lst1 hl hx (fun _ => ⟨rfl, g1⟩) h') hs1)
theorem R_astoreJ {m pc pc' : Nat} {ls st : List MV} {M : MH} {Q : Res → MH → Prop} {a b d : Nat} {z : Int} {tb : List (Int × Nat)} (hc : cod m pc = some (15, a, b, d, z, tb)) (hp : pc + 2 = pc') {ls' : List MV} (hx : stL1 ls a vJ = some ls') (h : Run m pc' ls' st M Q) : Run m pc ls (vJ :: st) M Q := by
  subst hp
  have hd : decode (zby m) pc = .ok (.astore a, 2) := (zdc hc).1
  refine R_pure (fun Z p l e R s mid args below meth cc Qs C H locs cells slots lr sr hl hs hH hS b1 b2 k => ?_) h
  obtain ⟨w1, ws1, rfl, ⟨x, rfl⟩, hs1⟩ := srel_cons hs
  have hs := hs1
  have hi : a < zml m := by have := (stL1_spec hx).1; have := hl.2.2.1; omega
  exact lv_astore C.1 C.2.1 hd (lvAll_has hl) hi rfl (fun lr' h' => k lr' _ (lst1 hl hx (fun q => absurd rfl q) h') hs)
theorem R_lstore_n {m pc pc' : Nat} {ls st : List MV} {M : MH} {Q : Res → MH → Prop} {a b d : Nat} {z : Int} {tb : List (Int × Nat)} (hc : cod m pc = some (16, a, b, d, z, tb)) (hp : pc + 1 = pc') {x : Int} {ls' : List MV} (hx : stL2 ls a (vL x) = some ls') (h : Run m pc' ls' st M Q) : Run m pc ls (vL x :: st) M Q := by
  subst hp
  have hd : decode (zby m) pc = .ok (.lstore_n (zFin a), 1) := (zdc hc).1
  have hb : a < 4 := of_decide_eq_true (show decide _ = true from (zdc hc).2.2.1)
  refine R_pure (fun Z p l e R s mid args below meth cc Qs C H locs cells slots lr sr hl hs hH hS b1 b2 k => ?_) h
  obtain ⟨w1, ws1, rfl, ⟨rfl, g1⟩, hs1⟩ := srel_cons hs
  have hs := hs1
  have hi : a + 1 < zml m := by have := (stL2_spec hx).1; have := hl.2.2.1; omega
  exact lv_lstore_n C.1 C.2.1 hd (by simp [zFin, hb]) (lvAll_has hl) hi rfl (fun lr' h' => k lr' _ (lst2 hl hx ⟨rfl, g1⟩ h') hs)
theorem R_lstore {m pc pc' : Nat} {ls st : List MV} {M : MH} {Q : Res → MH → Prop} {a b d : Nat} {z : Int} {tb : List (Int × Nat)} (hc : cod m pc = some (17, a, b, d, z, tb)) (hp : pc + 2 = pc') {x : Int} {ls' : List MV} (hx : stL2 ls a (vL x) = some ls') (h : Run m pc' ls' st M Q) : Run m pc ls (vL x :: st) M Q := by
  subst hp
  have hd : decode (zby m) pc = .ok (.lstore a, 2) := (zdc hc).1
  refine R_pure (fun Z p l e R s mid args below meth cc Qs C H locs cells slots lr sr hl hs hH hS b1 b2 k => ?_) h
  obtain ⟨w1, ws1, rfl, ⟨rfl, g1⟩, hs1⟩ := srel_cons hs
  have hs := hs1
  have hi : a + 1 < zml m := by have := (stL2_spec hx).1; have := hl.2.2.1; omega
  exact lv_lstore C.1 C.2.1 hd (lvAll_has hl) hi rfl (fun lr' h' => k lr' _ (lst2 hl hx ⟨rfl, g1⟩ h') hs)
theorem R_iinc {m pc pc' : Nat} {ls st : List MV} {M : MH} {Q : Res → MH → Prop} {a b d : Nat} {z : Int} {tb : List (Int × Nat)} (hc : cod m pc = some (18, a, b, d, z, tb)) (hp : pc + 3 = pc') {x : Int} {ls' : List MV} (hx : ls[a]? = some (vI x)) (hr : r32 (x + z)) (hy : stL1 ls a (vI (x + z)) = some ls') (h : Run m pc' ls' st M Q) : Run m pc ls st M Q := by
  subst hp
  have hd : decode (zby m) pc = .ok (.iinc a z, 3) := (zdc hc).1
  refine R_pure (fun Z p l e R s mid args below meth cc Qs C H locs cells slots lr sr hl hs hH hS b1 b2 k => ?_) h
  obtain ⟨w, e1, rfl, e2⟩ := lget hl hx (by intro q; cases q)
  have hi : a < zml m := by have := (stL1_spec hy).1; have := hl.2.2.1; omega
  obtain ⟨j, hj⟩ := List.mem_iff_getElem?.mp (lvAll_mem hi e1)
  exact lv_iinc C.1 C.2.1 hd (lvAll_has hl) hj (v := Int32.ofInt (x + z)) i32add hi rfl (fun lr' h' => k lr' _ (lst1 hl hy (fun _ => ⟨rfl, hr⟩) h') hs)
theorem R_iadd {m pc pc' : Nat} {ls st : List MV} {M : MH} {Q : Res → MH → Prop} {a b d : Nat} {z : Int} {tb : List (Int × Nat)} (hc : cod m pc = some (19, a, b, d, z, tb)) (hp : pc + 1 = pc') {x y : Int} (hr : r32 (x + y)) (h : Run m pc' ls (vI (x + y) :: st) M Q) : Run m pc ls (vI y :: vI x :: st) M Q := by
  subst hp
  have hd : decode (zby m) pc = .ok (.iadd, 1) := (zdc hc).1
  refine R_pure (fun Z p l e R s mid args below meth cc Qs C H locs cells slots lr sr hl hs hH hS b1 b2 k => ?_) h
  obtain ⟨w1, ws1, rfl, ⟨rfl, g1⟩, hs1⟩ := srel_cons hs
  have hs := hs1
  obtain ⟨w2, ws2, rfl, ⟨rfl, g2⟩, hs2⟩ := srel_cons hs
  have hs := hs2
  exact lv_iadd C.1 C.2.1 hd (k lr _ hl ⟨⟨by rw [i32add], hr⟩, hs⟩)
theorem R_isub {m pc pc' : Nat} {ls st : List MV} {M : MH} {Q : Res → MH → Prop} {a b d : Nat} {z : Int} {tb : List (Int × Nat)} (hc : cod m pc = some (20, a, b, d, z, tb)) (hp : pc + 1 = pc') {x y : Int} (hr : r32 (x - y)) (h : Run m pc' ls (vI (x - y) :: st) M Q) : Run m pc ls (vI y :: vI x :: st) M Q := by
  subst hp
  have hd : decode (zby m) pc = .ok (.isub, 1) := (zdc hc).1
  refine R_pure (fun Z p l e R s mid args below meth cc Qs C H locs cells slots lr sr hl hs hH hS b1 b2 k => ?_) h
  obtain ⟨w1, ws1, rfl, ⟨rfl, g1⟩, hs1⟩ := srel_cons hs
  have hs := hs1
  obtain ⟨w2, ws2, rfl, ⟨rfl, g2⟩, hs2⟩ := srel_cons hs
  have hs := hs2
  exact lv_isub C.1 C.2.1 hd (k lr _ hl ⟨⟨by rw [i32sub], hr⟩, hs⟩)
theorem R_imul {m pc pc' : Nat} {ls st : List MV} {M : MH} {Q : Res → MH → Prop} {a b d : Nat} {z : Int} {tb : List (Int × Nat)} (hc : cod m pc = some (21, a, b, d, z, tb)) (hp : pc + 1 = pc') {x y : Int} (hr : r32 (x * y)) (h : Run m pc' ls (vI (x * y) :: st) M Q) : Run m pc ls (vI y :: vI x :: st) M Q := by
  subst hp
  have hd : decode (zby m) pc = .ok (.imul, 1) := (zdc hc).1
  refine R_pure (fun Z p l e R s mid args below meth cc Qs C H locs cells slots lr sr hl hs hH hS b1 b2 k => ?_) h
  obtain ⟨w1, ws1, rfl, ⟨rfl, g1⟩, hs1⟩ := srel_cons hs
  have hs := hs1
  obtain ⟨w2, ws2, rfl, ⟨rfl, g2⟩, hs2⟩ := srel_cons hs
  have hs := hs2
  exact lv_imul C.1 C.2.1 hd (k lr _ hl ⟨⟨by rw [i32mul], hr⟩, hs⟩)
theorem R_idiv {m pc pc' : Nat} {ls st : List MV} {M : MH} {Q : Res → MH → Prop} {a b d : Nat} {z : Int} {tb : List (Int × Nat)} (hc : cod m pc = some (22, a, b, d, z, tb)) (hp : pc + 1 = pc') {x y : Int} (hy : y ≠ 0) (hr : r32 (x.tdiv y)) (h : Run m pc' ls (vI (x.tdiv y) :: st) M Q) : Run m pc ls (vI y :: vI x :: st) M Q := by
  subst hp
  have hd : decode (zby m) pc = .ok (.idiv, 1) := (zdc hc).1
  refine R_pure (fun Z p l e R s mid args below meth cc Qs C H locs cells slots lr sr hl hs hH hS b1 b2 k => ?_) h
  obtain ⟨w1, ws1, rfl, ⟨rfl, g1⟩, hs1⟩ := srel_cons hs
  have hs := hs1
  obtain ⟨w2, ws2, rfl, ⟨rfl, g2⟩, hs2⟩ := srel_cons hs
  have hs := hs2
  exact lv_idiv C.1 C.2.1 hd (fun q => hy ((i32z g1).mp q)) (k lr _ hl ⟨⟨by rw [i32div g2 g1 hr], hr⟩, hs⟩)
theorem R_irem {m pc pc' : Nat} {ls st : List MV} {M : MH} {Q : Res → MH → Prop} {a b d : Nat} {z : Int} {tb : List (Int × Nat)} (hc : cod m pc = some (23, a, b, d, z, tb)) (hp : pc + 1 = pc') {x y : Int} (hy : y ≠ 0) (hr : r32 (x.tdiv y)) (hr2 : r32 (x.tmod y)) (h : Run m pc' ls (vI (x.tmod y) :: st) M Q) : Run m pc ls (vI y :: vI x :: st) M Q := by
  subst hp
  have hd : decode (zby m) pc = .ok (.irem, 1) := (zdc hc).1
  refine R_pure (fun Z p l e R s mid args below meth cc Qs C H locs cells slots lr sr hl hs hH hS b1 b2 k => ?_) h
  obtain ⟨w1, ws1, rfl, ⟨rfl, g1⟩, hs1⟩ := srel_cons hs
  have hs := hs1
  obtain ⟨w2, ws2, rfl, ⟨rfl, g2⟩, hs2⟩ := srel_cons hs
  have hs := hs2
  exact lv_irem C.1 C.2.1 hd (fun q => hy ((i32z g1).mp q)) (k lr _ hl ⟨⟨by rw [i32div g2 g1 hr, i32mul, i32sub, Int.tmod_def, Int.mul_comm], hr2⟩, hs⟩)
theorem R_iand255 {m pc pc' : Nat} {ls st : List MV} {M : MH} {Q : Res → MH → Prop} {a b d : Nat} {z : Int} {tb : List (Int × Nat)} (hc : cod m pc = some (24, a, b, d, z, tb)) (hp : pc + 1 = pc') {x : Int} (h : Run m pc' ls (vI (x % 256) :: st) M Q) : Run m pc ls (vI 255 :: vI x :: st) M Q := by
  subst hp
  have hd : decode (zby m) pc = .ok (.iand, 1) := (zdc hc).1
  refine R_pure (fun Z p l e R s mid args below meth cc Qs C H locs cells slots lr sr hl hs hH hS b1 b2 k => ?_) h
  obtain ⟨w1, ws1, rfl, ⟨rfl, g1⟩, hs1⟩ := srel_cons hs
  have hs := hs1
  obtain ⟨w2, ws2, rfl, ⟨rfl, g2⟩, hs2⟩ := srel_cons hs
  have hs := hs2
  refine lv_iand C.1 C.2.1 hd (k lr _ hl ⟨⟨?_, by constructor <;> omega⟩, hs⟩)
  rw [i32and 8 (by decide) rfl]
  rfl
theorem R_iand15 {m pc pc' : Nat} {ls st : List MV} {M : MH} {Q : Res → MH → Prop} {a b d : Nat} {z : Int} {tb : List (Int × Nat)} (hc : cod m pc = some (24, a, b, d, z, tb)) (hp : pc + 1 = pc') {x : Int} (h : Run m pc' ls (vI (x % 16) :: st) M Q) : Run m pc ls (vI 15 :: vI x :: st) M Q := by
  subst hp
  have hd : decode (zby m) pc = .ok (.iand, 1) := (zdc hc).1
  refine R_pure (fun Z p l e R s mid args below meth cc Qs C H locs cells slots lr sr hl hs hH hS b1 b2 k => ?_) h
  obtain ⟨w1, ws1, rfl, ⟨rfl, g1⟩, hs1⟩ := srel_cons hs
  have hs := hs1
  obtain ⟨w2, ws2, rfl, ⟨rfl, g2⟩, hs2⟩ := srel_cons hs
  have hs := hs2
  refine lv_iand C.1 C.2.1 hd (k lr _ hl ⟨⟨?_, by constructor <;> omega⟩, hs⟩)
  rw [i32and 4 (by decide) rfl]
  rfl
theorem R_i2l {m pc pc' : Nat} {ls st : List MV} {M : MH} {Q : Res → MH → Prop} {a b d : Nat} {z : Int} {tb : List (Int × Nat)} (hc : cod m pc = some (25, a, b, d, z, tb)) (hp : pc + 1 = pc') {x : Int} (h : Run m pc' ls (vL x :: st) M Q) : Run m pc ls (vI x :: st) M Q := by
  subst hp
  have hd : decode (zby m) pc = .ok (.i2l, 1) := (zdc hc).1
  refine R_pure (fun Z p l e R s mid args below meth cc Qs C H locs cells slots lr sr hl hs hH hS b1 b2 k => ?_) h
  obtain ⟨w1, ws1, rfl, ⟨rfl, g1⟩, hs1⟩ := srel_cons hs
  have hs := hs1
  exact lv_i2l C.1 C.2.1 hd (eq64 (by rw [Int32.toInt_toInt64, i32t g1])) (k lr _ hl ⟨⟨rfl, by obtain ⟨q1, q2⟩ := g1; constructor <;> omega⟩, hs⟩)
theorem R_l2i {m pc pc' : Nat} {ls st : List MV} {M : MH} {Q : Res → MH → Prop} {a b d : Nat} {z : Int} {tb : List (Int × Nat)} (hc : cod m pc = some (26, a, b, d, z, tb)) (hp : pc + 1 = pc') {x : Int} (hr : r32 x) (h : Run m pc' ls (vI x :: st) M Q) : Run m pc ls (vL x :: st) M Q := by
  subst hp
  have hd : decode (zby m) pc = .ok (.l2i, 1) := (zdc hc).1
  refine R_pure (fun Z p l e R s mid args below meth cc Qs C H locs cells slots lr sr hl hs hH hS b1 b2 k => ?_) h
  obtain ⟨w1, ws1, rfl, ⟨rfl, g1⟩, hs1⟩ := srel_cons hs
  have hs := hs1
  exact lv_l2i C.1 C.2.1 hd (eq32 (by rw [Int64.toInt_toInt32, i64t g1, bm32 hr])) (k lr _ hl ⟨⟨rfl, hr⟩, hs⟩)
theorem R_i2b {m pc pc' : Nat} {ls st : List MV} {M : MH} {Q : Res → MH → Prop} {a b d : Nat} {z : Int} {tb : List (Int × Nat)} (hc : cod m pc = some (27, a, b, d, z, tb)) (hp : pc + 1 = pc') {x : Int} (h : Run m pc' ls (vI ((x + 128) % 256 - 128) :: st) M Q) : Run m pc ls (vI x :: st) M Q := by
  subst hp
  have hd : decode (zby m) pc = .ok (.i2b, 1) := (zdc hc).1
  refine R_pure (fun Z p l e R s mid args below meth cc Qs C H locs cells slots lr sr hl hs hH hS b1 b2 k => ?_) h
  obtain ⟨w1, ws1, rfl, ⟨rfl, g1⟩, hs1⟩ := srel_cons hs
  have hs := hs1
  exact lv_i2b C.1 C.2.1 hd (eq32 (by rw [Int8.toInt_toInt32, Int32.toInt_toInt8, i32t g1, Int.bmod_def]; omega)) (k lr _ hl ⟨⟨rfl, by constructor <;> omega⟩, hs⟩)
theorem R_lcmp {m pc pc' : Nat} {ls st : List MV} {M : MH} {Q : Res → MH → Prop} {a b d : Nat} {z : Int} {tb : List (Int × Nat)} (hc : cod m pc = some (28, a, b, d, z, tb)) (hp : pc + 1 = pc') {x y : Int} (h : Run m pc' ls (vI (if y < x then 1 else if x = y then 0 else -1) :: st) M Q) : Run m pc ls (vL y :: vL x :: st) M Q := by
  subst hp
  have hd : decode (zby m) pc = .ok (.lcmp, 1) := (zdc hc).1
  refine R_pure (fun Z p l e R s mid args below meth cc Qs C H locs cells slots lr sr hl hs hH hS b1 b2 k => ?_) h
  obtain ⟨w1, ws1, rfl, ⟨rfl, g1⟩, hs1⟩ := srel_cons hs
  have hs := hs1
  obtain ⟨w2, ws2, rfl, ⟨rfl, g2⟩, hs2⟩ := srel_cons hs
  have hs := hs2
  refine W.lcmp C.1 C.2.1 hd (k lr _ hl ⟨⟨?_, by constructor <;> (split <;> (try split) <;> decide)⟩, hs⟩)
  unfold lg_cmp
  have q1 := i64lt g1 g2
  have q2 := i64eq g2 g1
  by_cases c1 : y < x
  · rw [if_pos (q1.mpr c1), if_pos c1]; rfl
  · rw [if_neg (fun q => c1 (q1.mp q)), if_neg c1]
    by_cases c2 : x = y
    · rw [if_pos (q2.mpr c2), if_pos c2]; rfl
    · rw [if_neg (fun q => c2 (q2.mp q)), if_neg c2]; rfl
theorem R_ldiv {m pc pc' : Nat} {ls st : List MV} {M : MH} {Q : Res → MH → Prop} {a b d : Nat} {z : Int} {tb : List (Int × Nat)} (hc : cod m pc = some (29, a, b, d, z, tb)) (hp : pc + 1 = pc') {x y : Int} (hy : y ≠ 0) (hr : r64 (x.tdiv y)) (h : Run m pc' ls (vL (x.tdiv y) :: st) M Q) : Run m pc ls (vL y :: vL x :: st) M Q := by
  subst hp
  have hd : decode (zby m) pc = .ok (.ldiv, 1) := (zdc hc).1
  refine R_pure (fun Z p l e R s mid args below meth cc Qs C H locs cells slots lr sr hl hs hH hS b1 b2 k => ?_) h
  obtain ⟨w1, ws1, rfl, ⟨rfl, g1⟩, hs1⟩ := srel_cons hs
  have hs := hs1
  obtain ⟨w2, ws2, rfl, ⟨rfl, g2⟩, hs2⟩ := srel_cons hs
  have hs := hs2
  exact lv_ldiv C.1 C.2.1 hd (fun q => hy ((i64eq g1 (by constructor <;> decide : r64 0)).mp q)) (k lr _ hl ⟨⟨by rw [i64div g2 g1 hr], hr⟩, hs⟩)
theorem R_lrem {m pc pc' : Nat} {ls st : List MV} {M : MH} {Q : Res → MH → Prop} {a b d : Nat} {z : Int} {tb : List (Int × Nat)} (hc : cod m pc = some (30, a, b, d, z, tb)) (hp : pc + 1 = pc') {x y : Int} (hy : y ≠ 0) (hr : r64 (x.tdiv y)) (hr2 : r64 (x.tmod y)) (h : Run m pc' ls (vL (x.tmod y) :: st) M Q) : Run m pc ls (vL y :: vL x :: st) M Q := by
  subst hp
  have hd : decode (zby m) pc = .ok (.lrem, 1) := (zdc hc).1
  refine R_pure (fun Z p l e R s mid args below meth cc Qs C H locs cells slots lr sr hl hs hH hS b1 b2 k => ?_) h
  obtain ⟨w1, ws1, rfl, ⟨rfl, g1⟩, hs1⟩ := srel_cons hs
  have hs := hs1
  obtain ⟨w2, ws2, rfl, ⟨rfl, g2⟩, hs2⟩ := srel_cons hs
  have hs := hs2
  exact lv_lrem C.1 C.2.1 hd (fun q => hy ((i64eq g1 (by constructor <;> decide : r64 0)).mp q)) (k lr _ hl ⟨⟨by rw [i64div g2 g1 hr, i64mul, i64sub, Int.tmod_def, Int.mul_comm], hr2⟩, hs⟩)
theorem R_lshr {m pc pc' : Nat} {ls st : List MV} {M : MH} {Q : Res → MH → Prop} {a b d : Nat} {z : Int} {tb : List (Int × Nat)} (hc : cod m pc = some (31, a, b, d, z, tb)) (hp : pc + 1 = pc') {x y : Int} (hy : 0 ≤ y ∧ y < 64) (hr : r64 (x >>> y.toNat)) (h : Run m pc' ls (vL (x >>> y.toNat) :: st) M Q) : Run m pc ls (vI y :: vL x :: st) M Q := by
  subst hp
  have hd : decode (zby m) pc = .ok (.lshr, 1) := (zdc hc).1
  refine R_pure (fun Z p l e R s mid args below meth cc Qs C H locs cells slots lr sr hl hs hH hS b1 b2 k => ?_) h
  obtain ⟨w1, ws1, rfl, ⟨rfl, g1⟩, hs1⟩ := srel_cons hs
  have hs := hs1
  obtain ⟨w2, ws2, rfl, ⟨rfl, g2⟩, hs2⟩ := srel_cons hs
  have hs := hs2
  exact lv_lshr C.1 C.2.1 hd (i64shr g2 hy.1 hy.2) (k lr _ hl ⟨⟨rfl, hr⟩, hs⟩)
theorem R_land255 {m pc pc' : Nat} {ls st : List MV} {M : MH} {Q : Res → MH → Prop} {a b d : Nat} {z : Int} {tb : List (Int × Nat)} (hc : cod m pc = some (32, a, b, d, z, tb)) (hp : pc + 1 = pc') {x : Int} (h : Run m pc' ls (vL (x % 256) :: st) M Q) : Run m pc ls (vL 255 :: vL x :: st) M Q := by
  subst hp
  have hd : decode (zby m) pc = .ok (.land, 1) := (zdc hc).1
  refine R_pure (fun Z p l e R s mid args below meth cc Qs C H locs cells slots lr sr hl hs hH hS b1 b2 k => ?_) h
  obtain ⟨w1, ws1, rfl, ⟨rfl, g1⟩, hs1⟩ := srel_cons hs
  have hs := hs1
  obtain ⟨w2, ws2, rfl, ⟨rfl, g2⟩, hs2⟩ := srel_cons hs
  have hs := hs2
  exact lv_land C.1 C.2.1 hd (k lr _ hl ⟨⟨by rw [i64and], by constructor <;> omega⟩, hs⟩)
theorem vcat {Z : EP} {top : Nat} {v : MV} {w : Value} (h : vrel Z top v w) (hv : isLg (some v) = false) : w.category = 1 := by
  rcases lv_cat w with q | q
  · exact q
  · rw [vrel_lg h q] at hv
    cases hv
theorem R_dup {m pc pc' : Nat} {ls st : List MV} {M : MH} {Q : Res → MH → Prop} {a b d : Nat} {z : Int} {tb : List (Int × Nat)} (hc : cod m pc = some (33, a, b, d, z, tb)) (hp : pc + 1 = pc') {v : MV} (hv : isLg (some v) = false) (h : Run m pc' ls (v :: v :: st) M Q) : Run m pc ls (v :: st) M Q := by
  subst hp
  have hd : decode (zby m) pc = .ok (.dup, 1) := (zdc hc).1
  refine R_pure (fun Z p l e R s mid args below meth cc Qs C H locs cells slots lr sr hl hs hH hS b1 b2 k => ?_) h
  obtain ⟨w1, ws1, rfl, g1, hs1⟩ := srel_cons hs
  have hs := hs1
  exact lv_dup C.1 C.2.1 hd (vcat g1 hv) (k lr _ hl ⟨g1, g1, hs⟩)
theorem R_dup2 {m pc pc' : Nat} {ls st : List MV} {M : MH} {Q : Res → MH → Prop} {a b d : Nat} {z : Int} {tb : List (Int × Nat)} (hc : cod m pc = some (34, a, b, d, z, tb)) (hp : pc + 1 = pc') {v u : MV} (hv : isLg (some v) = false) (hu : isLg (some u) = false) (h : Run m pc' ls (v :: u :: v :: u :: st) M Q) : Run m pc ls (v :: u :: st) M Q := by
  subst hp
  have hd : decode (zby m) pc = .ok (.dup2, 1) := (zdc hc).1
  refine R_pure (fun Z p l e R s mid args below meth cc Qs C H locs cells slots lr sr hl hs hH hS b1 b2 k => ?_) h
  obtain ⟨w1, ws1, rfl, g1, hs1⟩ := srel_cons hs
  obtain ⟨w2, ws2, rfl, g2, hs2⟩ := srel_cons hs1
  have hs := hs2
  exact lv_dup2_11 C.1 C.2.1 hd (vcat g1 hv) (vcat g2 hu) (k lr _ hl ⟨g1, g2, g1, g2, hs⟩)
theorem R_pop {m pc pc' : Nat} {ls st : List MV} {M : MH} {Q : Res → MH → Prop} {a b d : Nat} {z : Int} {tb : List (Int × Nat)} (hc : cod m pc = some (35, a, b, d, z, tb)) (hp : pc + 1 = pc') {v : MV} (hv : isLg (some v) = false) (h : Run m pc' ls st M Q) : Run m pc ls (v :: st) M Q := by
  subst hp
  have hd : decode (zby m) pc = .ok (.pop, 1) := (zdc hc).1
  refine R_pure (fun Z p l e R s mid args below meth cc Qs C H locs cells slots lr sr hl hs hH hS b1 b2 k => ?_) h
  obtain ⟨w1, ws1, rfl, g1, hs1⟩ := srel_cons hs
  have hs := hs1
  exact lv_pop C.1 C.2.1 hd (vcat g1 hv) (k lr _ hl hs)
theorem i32ze {x : Int} (g : r32 x) : Int32.ofInt x = 0 ↔ x = 0 := i32z g
theorem i32zn {x : Int} (g : r32 x) : (¬ Int32.ofInt x = 0) ↔ ¬ x = 0 := not_congr (i32z g)
theorem i32zl {x : Int} (g : r32 x) : Int32.ofInt x < 0 ↔ x < 0 := i32neg g
theorem i32zg {x : Int} (g : r32 x) : 0 ≤ Int32.ofInt x ↔ 0 ≤ x := i32le r32_0 g
theorem i32zp {x : Int} (g : r32 x) : 0 < Int32.ofInt x ↔ 0 < x := i32lt r32_0 g
theorem i32zm {x : Int} (g : r32 x) : Int32.ofInt x ≤ 0 ↔ x ≤ 0 := i32le g r32_0
theorem R_ifeq {m pc pc' : Nat} {ls st : List MV} {M : MH} {Q : Res → MH → Prop} {a b d : Nat} {z : Int} {tb : List (Int × Nat)} {x : Int} (hc : cod m pc = some (36, a, b, d, z, tb)) (hp : pc + 3 = pc') (ht : (x = 0) → Run m a ls st M Q) (hf : ¬ (x = 0) → Run m pc' ls st M Q) : Run m pc ls (vI x :: st) M Q := by
  subst hp
  have hd : decode (zby m) pc = .ok (.ifCond .eq z, 3) := (zdc hc).1
  have hb : (pc : Int) + z = a := of_decide_eq_true (show decide _ = true from (zdc hc).2.2.1)
  by_cases hh : (x = 0)
  · refine R_pure (fun Z p l e R s mid args below meth cc Qs C H locs cells slots lr sr hl hs hH hS b1 b2 k => ?_) (ht hh)
    obtain ⟨w1, ws1, rfl, ⟨rfl, g1⟩, hs1⟩ := srel_cons hs
    have hs := hs1
    exact lv_if_eq C.1 C.2.1 hd hb (fun _ => k lr _ hl hs) (fun q => by first | exact absurd ((i32ze g1).mpr hh) q | exact absurd q ((i32ze g1).mpr hh))
  · refine R_pure (fun Z p l e R s mid args below meth cc Qs C H locs cells slots lr sr hl hs hH hS b1 b2 k => ?_) (hf hh)
    obtain ⟨w1, ws1, rfl, ⟨rfl, g1⟩, hs1⟩ := srel_cons hs
    have hs := hs1
    exact lv_if_eq C.1 C.2.1 hd hb (fun q => absurd ((i32ze g1).mp q) hh) (fun _ => k lr _ hl hs)
theorem R_ifne {m pc pc' : Nat} {ls st : List MV} {M : MH} {Q : Res → MH → Prop} {a b d : Nat} {z : Int} {tb : List (Int × Nat)} {x : Int} (hc : cod m pc = some (37, a, b, d, z, tb)) (hp : pc + 3 = pc') (ht : (¬ x = 0) → Run m a ls st M Q) (hf : ¬ (¬ x = 0) → Run m pc' ls st M Q) : Run m pc ls (vI x :: st) M Q := by
  subst hp
  have hd : decode (zby m) pc = .ok (.ifCond .ne z, 3) := (zdc hc).1
  have hb : (pc : Int) + z = a := of_decide_eq_true (show decide _ = true from (zdc hc).2.2.1)
  by_cases hh : (¬ x = 0)
  · refine R_pure (fun Z p l e R s mid args below meth cc Qs C H locs cells slots lr sr hl hs hH hS b1 b2 k => ?_) (ht hh)
    obtain ⟨w1, ws1, rfl, ⟨rfl, g1⟩, hs1⟩ := srel_cons hs
    have hs := hs1
    exact lv_if_ne C.1 C.2.1 hd hb (fun _ => k lr _ hl hs) (fun q => by first | exact absurd ((i32zn g1).mpr hh) q | exact absurd q ((i32zn g1).mpr hh))
  · refine R_pure (fun Z p l e R s mid args below meth cc Qs C H locs cells slots lr sr hl hs hH hS b1 b2 k => ?_) (hf hh)
    obtain ⟨w1, ws1, rfl, ⟨rfl, g1⟩, hs1⟩ := srel_cons hs
    have hs := hs1
    exact lv_if_ne C.1 C.2.1 hd hb (fun q => absurd ((i32zn g1).mp q) hh) (fun _ => k lr _ hl hs)
theorem R_iflt {m pc pc' : Nat} {ls st : List MV} {M : MH} {Q : Res → MH → Prop} {a b d : Nat} {z : Int} {tb : List (Int × Nat)} {x : Int} (hc : cod m pc = some (38, a, b, d, z, tb)) (hp : pc + 3 = pc') (ht : (x < 0) → Run m a ls st M Q) (hf : ¬ (x < 0) → Run m pc' ls st M Q) : Run m pc ls (vI x :: st) M Q := by
  subst hp
  have hd : decode (zby m) pc = .ok (.ifCond .lt z, 3) := (zdc hc).1
  have hb : (pc : Int) + z = a := of_decide_eq_true (show decide _ = true from (zdc hc).2.2.1)
  by_cases hh : (x < 0)
  · refine R_pure (fun Z p l e R s mid args below meth cc Qs C H locs cells slots lr sr hl hs hH hS b1 b2 k => ?_) (ht hh)
    obtain ⟨w1, ws1, rfl, ⟨rfl, g1⟩, hs1⟩ := srel_cons hs
    have hs := hs1
    exact lv_if_lt C.1 C.2.1 hd hb (fun _ => k lr _ hl hs) (fun q => by first | exact absurd ((i32zl g1).mpr hh) q | exact absurd q ((i32zl g1).mpr hh))
  · refine R_pure (fun Z p l e R s mid args below meth cc Qs C H locs cells slots lr sr hl hs hH hS b1 b2 k => ?_) (hf hh)
    obtain ⟨w1, ws1, rfl, ⟨rfl, g1⟩, hs1⟩ := srel_cons hs
    have hs := hs1
    exact lv_if_lt C.1 C.2.1 hd hb (fun q => absurd ((i32zl g1).mp q) hh) (fun _ => k lr _ hl hs)
theorem R_ifge {m pc pc' : Nat} {ls st : List MV} {M : MH} {Q : Res → MH → Prop} {a b d : Nat} {z : Int} {tb : List (Int × Nat)} {x : Int} (hc : cod m pc = some (39, a, b, d, z, tb)) (hp : pc + 3 = pc') (ht : (0 ≤ x) → Run m a ls st M Q) (hf : ¬ (0 ≤ x) → Run m pc' ls st M Q) : Run m pc ls (vI x :: st) M Q := by
  subst hp
  have hd : decode (zby m) pc = .ok (.ifCond .ge z, 3) := (zdc hc).1
  have hb : (pc : Int) + z = a := of_decide_eq_true (show decide _ = true from (zdc hc).2.2.1)
  by_cases hh : (0 ≤ x)
  · refine R_pure (fun Z p l e R s mid args below meth cc Qs C H locs cells slots lr sr hl hs hH hS b1 b2 k => ?_) (ht hh)
    obtain ⟨w1, ws1, rfl, ⟨rfl, g1⟩, hs1⟩ := srel_cons hs
    have hs := hs1
    exact lv_if_ge C.1 C.2.1 hd hb (fun _ => k lr _ hl hs) (fun q => by first | exact absurd ((i32zg g1).mpr hh) q | exact absurd q ((i32zg g1).mpr hh))
  · refine R_pure (fun Z p l e R s mid args below meth cc Qs C H locs cells slots lr sr hl hs hH hS b1 b2 k => ?_) (hf hh)
    obtain ⟨w1, ws1, rfl, ⟨rfl, g1⟩, hs1⟩ := srel_cons hs
    have hs := hs1
    exact lv_if_ge C.1 C.2.1 hd hb (fun q => absurd ((i32zg g1).mp q) hh) (fun _ => k lr _ hl hs)
theorem R_ifgt {m pc pc' : Nat} {ls st : List MV} {M : MH} {Q : Res → MH → Prop} {a b d : Nat} {z : Int} {tb : List (Int × Nat)} {x : Int} (hc : cod m pc = some (40, a, b, d, z, tb)) (hp : pc + 3 = pc') (ht : (0 < x) → Run m a ls st M Q) (hf : ¬ (0 < x) → Run m pc' ls st M Q) : Run m pc ls (vI x :: st) M Q := by
  subst hp
  have hd : decode (zby m) pc = .ok (.ifCond .gt z, 3) := (zdc hc).1
  have hb : (pc : Int) + z = a := of_decide_eq_true (show decide _ = true from (zdc hc).2.2.1)
  by_cases hh : (0 < x)
  · refine R_pure (fun Z p l e R s mid args below meth cc Qs C H locs cells slots lr sr hl hs hH hS b1 b2 k => ?_) (ht hh)
    obtain ⟨w1, ws1, rfl, ⟨rfl, g1⟩, hs1⟩ := srel_cons hs
    have hs := hs1
    exact lv_if_gt C.1 C.2.1 hd hb (fun _ => k lr _ hl hs) (fun q => by first | exact absurd ((i32zp g1).mpr hh) q | exact absurd q ((i32zp g1).mpr hh))
  · refine R_pure (fun Z p l e R s mid args below meth cc Qs C H locs cells slots lr sr hl hs hH hS b1 b2 k => ?_) (hf hh)
    obtain ⟨w1, ws1, rfl, ⟨rfl, g1⟩, hs1⟩ := srel_cons hs
    have hs := hs1
    exact lv_if_gt C.1 C.2.1 hd hb (fun q => absurd ((i32zp g1).mp q) hh) (fun _ => k lr _ hl hs)
theorem R_ifle {m pc pc' : Nat} {ls st : List MV} {M : MH} {Q : Res → MH → Prop} {a b d : Nat} {z : Int} {tb : List (Int × Nat)} {x : Int} (hc : cod m pc = some (41, a, b, d, z, tb)) (hp : pc + 3 = pc') (ht : (x ≤ 0) → Run m a ls st M Q) (hf : ¬ (x ≤ 0) → Run m pc' ls st M Q) : Run m pc ls (vI x :: st) M Q := by
  subst hp
  have hd : decode (zby m) pc = .ok (.ifCond .le z, 3) := (zdc hc).1
  have hb : (pc : Int) + z = a := of_decide_eq_true (show decide _ = true from (zdc hc).2.2.1)
  by_cases hh : (x ≤ 0)
  · refine R_pure (fun Z p l e R s mid args below meth cc Qs C H locs cells slots lr sr hl hs hH hS b1 b2 k => ?_) (ht hh)
    obtain ⟨w1, ws1, rfl, ⟨rfl, g1⟩, hs1⟩ := srel_cons hs
    have hs := hs1
    exact lv_if_le C.1 C.2.1 hd hb (fun _ => k lr _ hl hs) (fun q => by first | exact absurd ((i32zm g1).mpr hh) q | exact absurd q ((i32zm g1).mpr hh))
  · refine R_pure (fun Z p l e R s mid args below meth cc Qs C H locs cells slots lr sr hl hs hH hS b1 b2 k => ?_) (hf hh)
    obtain ⟨w1, ws1, rfl, ⟨rfl, g1⟩, hs1⟩ := srel_cons hs
    have hs := hs1
    exact lv_if_le C.1 C.2.1 hd hb (fun q => absurd ((i32zm g1).mp q) hh) (fun _ => k lr _ hl hs)
theorem R_iceq {m pc pc' : Nat} {ls st : List MV} {M : MH} {Q : Res → MH → Prop} {a b d : Nat} {z : Int} {tb : List (Int × Nat)} {x y : Int} (hc : cod m pc = some (42, a, b, d, z, tb)) (hp : pc + 3 = pc') (ht : (x = y) → Run m a ls st M Q) (hf : ¬ (x = y) → Run m pc' ls st M Q) : Run m pc ls (vI y :: vI x :: st) M Q := by
  subst hp
  have hd : decode (zby m) pc = .ok (.if_icmp .eq z, 3) := (zdc hc).1
  have hb : (pc : Int) + z = a := of_decide_eq_true (show decide _ = true from (zdc hc).2.2.1)
  by_cases hh : (x = y)
  · refine R_pure (fun Z p l e R s mid args below meth cc Qs C H locs cells slots lr sr hl hs hH hS b1 b2 k => ?_) (ht hh)
    obtain ⟨w1, ws1, rfl, ⟨rfl, g1⟩, hs1⟩ := srel_cons hs
    have hs := hs1
    obtain ⟨w2, ws2, rfl, ⟨rfl, g2⟩, hs2⟩ := srel_cons hs
    have hs := hs2
    exact lv_icmp_eq C.1 C.2.1 hd hb (fun _ => k lr _ hl hs) (fun q => by first | exact absurd ((i32eq g2 g1).mpr hh) q | exact absurd q ((i32eq g2 g1).mpr hh))
  · refine R_pure (fun Z p l e R s mid args below meth cc Qs C H locs cells slots lr sr hl hs hH hS b1 b2 k => ?_) (hf hh)
    obtain ⟨w1, ws1, rfl, ⟨rfl, g1⟩, hs1⟩ := srel_cons hs
    have hs := hs1
    obtain ⟨w2, ws2, rfl, ⟨rfl, g2⟩, hs2⟩ := srel_cons hs
    have hs := hs2
    exact lv_icmp_eq C.1 C.2.1 hd hb (fun q => absurd ((i32eq g2 g1).mp q) hh) (fun _ => k lr _ hl hs)
theorem R_icne {m pc pc' : Nat} {ls st : List MV} {M : MH} {Q : Res → MH → Prop} {a b d : Nat} {z : Int} {tb : List (Int × Nat)} {x y : Int} (hc : cod m pc = some (43, a, b, d, z, tb)) (hp : pc + 3 = pc') (ht : (¬ x = y) → Run m a ls st M Q) (hf : ¬ (¬ x = y) → Run m pc' ls st M Q) : Run m pc ls (vI y :: vI x :: st) M Q := by
  subst hp
  have hd : decode (zby m) pc = .ok (.if_icmp .ne z, 3) := (zdc hc).1
  have hb : (pc : Int) + z = a := of_decide_eq_true (show decide _ = true from (zdc hc).2.2.1)
  by_cases hh : (¬ x = y)
  · refine R_pure (fun Z p l e R s mid args below meth cc Qs C H locs cells slots lr sr hl hs hH hS b1 b2 k => ?_) (ht hh)
    obtain ⟨w1, ws1, rfl, ⟨rfl, g1⟩, hs1⟩ := srel_cons hs
    have hs := hs1
    obtain ⟨w2, ws2, rfl, ⟨rfl, g2⟩, hs2⟩ := srel_cons hs
    have hs := hs2
    exact lv_icmp_ne C.1 C.2.1 hd hb (fun _ => k lr _ hl hs) (fun q => by first | exact absurd ((not_congr (i32eq g2 g1)).mpr hh) q | exact absurd q ((not_congr (i32eq g2 g1)).mpr hh))
  · refine R_pure (fun Z p l e R s mid args below meth cc Qs C H locs cells slots lr sr hl hs hH hS b1 b2 k => ?_) (hf hh)
    obtain ⟨w1, ws1, rfl, ⟨rfl, g1⟩, hs1⟩ := srel_cons hs
    have hs := hs1
    obtain ⟨w2, ws2, rfl, ⟨rfl, g2⟩, hs2⟩ := srel_cons hs
    have hs := hs2
    exact lv_icmp_ne C.1 C.2.1 hd hb (fun q => absurd ((not_congr (i32eq g2 g1)).mp q) hh) (fun _ => k lr _ hl hs)
theorem R_iclt {m pc pc' : Nat} {ls st : List MV} {M : MH} {Q : Res → MH → Prop} {a b d : Nat} {z : Int} {tb : List (Int × Nat)} {x y : Int} (hc : cod m pc = some (44, a, b, d, z, tb)) (hp : pc + 3 = pc') (ht : (x < y) → Run m a ls st M Q) (hf : ¬ (x < y) → Run m pc' ls st M Q) : Run m pc ls (vI y :: vI x :: st) M Q := by
  subst hp
  have hd : decode (zby m) pc = .ok (.if_icmp .lt z, 3) := (zdc hc).1
  have hb : (pc : Int) + z = a := of_decide_eq_true (show decide _ = true from (zdc hc).2.2.1)
  by_cases hh : (x < y)
  · refine R_pure (fun Z p l e R s mid args below meth cc Qs C H locs cells slots lr sr hl hs hH hS b1 b2 k => ?_) (ht hh)
    obtain ⟨w1, ws1, rfl, ⟨rfl, g1⟩, hs1⟩ := srel_cons hs
    have hs := hs1
    obtain ⟨w2, ws2, rfl, ⟨rfl, g2⟩, hs2⟩ := srel_cons hs
    have hs := hs2
    exact lv_icmp_lt C.1 C.2.1 hd hb (fun _ => k lr _ hl hs) (fun q => by first | exact absurd ((i32lt g2 g1).mpr hh) q | exact absurd q ((i32lt g2 g1).mpr hh))
  · refine R_pure (fun Z p l e R s mid args below meth cc Qs C H locs cells slots lr sr hl hs hH hS b1 b2 k => ?_) (hf hh)
    obtain ⟨w1, ws1, rfl, ⟨rfl, g1⟩, hs1⟩ := srel_cons hs
    have hs := hs1
    obtain ⟨w2, ws2, rfl, ⟨rfl, g2⟩, hs2⟩ := srel_cons hs
    have hs := hs2
    exact lv_icmp_lt C.1 C.2.1 hd hb (fun q => absurd ((i32lt g2 g1).mp q) hh) (fun _ => k lr _ hl hs)
theorem R_icge {m pc pc' : Nat} {ls st : List MV} {M : MH} {Q : Res → MH → Prop} {a b d : Nat} {z : Int} {tb : List (Int × Nat)} {x y : Int} (hc : cod m pc = some (45, a, b, d, z, tb)) (hp : pc + 3 = pc') (ht : (y ≤ x) → Run m a ls st M Q) (hf : ¬ (y ≤ x) → Run m pc' ls st M Q) : Run m pc ls (vI y :: vI x :: st) M Q := by
  subst hp
  have hd : decode (zby m) pc = .ok (.if_icmp .ge z, 3) := (zdc hc).1
  have hb : (pc : Int) + z = a := of_decide_eq_true (show decide _ = true from (zdc hc).2.2.1)
  by_cases hh : (y ≤ x)
  · refine R_pure (fun Z p l e R s mid args below meth cc Qs C H locs cells slots lr sr hl hs hH hS b1 b2 k => ?_) (ht hh)
    obtain ⟨w1, ws1, rfl, ⟨rfl, g1⟩, hs1⟩ := srel_cons hs
    have hs := hs1
    obtain ⟨w2, ws2, rfl, ⟨rfl, g2⟩, hs2⟩ := srel_cons hs
    have hs := hs2
    exact lv_icmp_ge C.1 C.2.1 hd hb (fun _ => k lr _ hl hs) (fun q => by first | exact absurd ((i32le g1 g2).mpr hh) q | exact absurd q ((i32le g1 g2).mpr hh))
  · refine R_pure (fun Z p l e R s mid args below meth cc Qs C H locs cells slots lr sr hl hs hH hS b1 b2 k => ?_) (hf hh)
    obtain ⟨w1, ws1, rfl, ⟨rfl, g1⟩, hs1⟩ := srel_cons hs
    have hs := hs1
    obtain ⟨w2, ws2, rfl, ⟨rfl, g2⟩, hs2⟩ := srel_cons hs
    have hs := hs2
    exact lv_icmp_ge C.1 C.2.1 hd hb (fun q => absurd ((i32le g1 g2).mp q) hh) (fun _ => k lr _ hl hs)
theorem R_icgt {m pc pc' : Nat} {ls st : List MV} {M : MH} {Q : Res → MH → Prop} {a b d : Nat} {z : Int} {tb : List (Int × Nat)} {x y : Int} (hc : cod m pc = some (46, a, b, d, z, tb)) (hp : pc + 3 = pc') (ht : (y < x) → Run m a ls st M Q) (hf : ¬ (y < x) → Run m pc' ls st M Q) : Run m pc ls (vI y :: vI x :: st) M Q := by
  subst hp
  have hd : decode (zby m) pc = .ok (.if_icmp .gt z, 3) := (zdc hc).1
  have hb : (pc : Int) + z = a := of_decide_eq_true (show decide _ = true from (zdc hc).2.2.1)
  by_cases hh : (y < x)
  · refine R_pure (fun Z p l e R s mid args below meth cc Qs C H locs cells slots lr sr hl hs hH hS b1 b2 k => ?_) (ht hh)
    obtain ⟨w1, ws1, rfl, ⟨rfl, g1⟩, hs1⟩ := srel_cons hs
    have hs := hs1
    obtain ⟨w2, ws2, rfl, ⟨rfl, g2⟩, hs2⟩ := srel_cons hs
    have hs := hs2
    exact lv_icmp_gt C.1 C.2.1 hd hb (fun _ => k lr _ hl hs) (fun q => by first | exact absurd ((i32lt g1 g2).mpr hh) q | exact absurd q ((i32lt g1 g2).mpr hh))
  · refine R_pure (fun Z p l e R s mid args below meth cc Qs C H locs cells slots lr sr hl hs hH hS b1 b2 k => ?_) (hf hh)
    obtain ⟨w1, ws1, rfl, ⟨rfl, g1⟩, hs1⟩ := srel_cons hs
    have hs := hs1
    obtain ⟨w2, ws2, rfl, ⟨rfl, g2⟩, hs2⟩ := srel_cons hs
    have hs := hs2
    exact lv_icmp_gt C.1 C.2.1 hd hb (fun q => absurd ((i32lt g1 g2).mp q) hh) (fun _ => k lr _ hl hs)
theorem R_icle {m pc pc' : Nat} {ls st : List MV} {M : MH} {Q : Res → MH → Prop} {a b d : Nat} {z : Int} {tb : List (Int × Nat)} {x y : Int} (hc : cod m pc = some (47, a, b, d, z, tb)) (hp : pc + 3 = pc') (ht : (x ≤ y) → Run m a ls st M Q) (hf : ¬ (x ≤ y) → Run m pc' ls st M Q) : Run m pc ls (vI y :: vI x :: st) M Q := by
  subst hp
  have hd : decode (zby m) pc = .ok (.if_icmp .le z, 3) := (zdc hc).1
  have hb : (pc : Int) + z = a := of_decide_eq_true (show decide _ = true from (zdc hc).2.2.1)
  by_cases hh : (x ≤ y)
  · refine R_pure (fun Z p l e R s mid args below meth cc Qs C H locs cells slots lr sr hl hs hH hS b1 b2 k => ?_) (ht hh)
    obtain ⟨w1, ws1, rfl, ⟨rfl, g1⟩, hs1⟩ := srel_cons hs
    have hs := hs1
    obtain ⟨w2, ws2, rfl, ⟨rfl, g2⟩, hs2⟩ := srel_cons hs
    have hs := hs2
    exact lv_icmp_le C.1 C.2.1 hd hb (fun _ => k lr _ hl hs) (fun q => by first | exact absurd ((i32le g2 g1).mpr hh) q | exact absurd q ((i32le g2 g1).mpr hh))
  · refine R_pure (fun Z p l e R s mid args below meth cc Qs C H locs cells slots lr sr hl hs hH hS b1 b2 k => ?_) (hf hh)
    obtain ⟨w1, ws1, rfl, ⟨rfl, g1⟩, hs1⟩ := srel_cons hs
    have hs := hs1
    obtain ⟨w2, ws2, rfl, ⟨rfl, g2⟩, hs2⟩ := srel_cons hs
    have hs := hs2
    exact lv_icmp_le C.1 C.2.1 hd hb (fun q => absurd ((i32le g2 g1).mp q) hh) (fun _ => k lr _ hl hs)
theorem R_ifnull {m pc pc' : Nat} {ls st : List MV} {M : MH} {Q : Res → MH → Prop} {a b d : Nat} {z : Int} {tb : List (Int × Nat)} {r : Option Nat} (hc : cod m pc = some (48, a, b, d, z, tb)) (hp : pc + 3 = pc') (ht : r = none → Run m a ls st M Q) (hf : ∀ q, r = some q → Run m pc' ls st M Q) : Run m pc ls (vR r :: st) M Q := by
  subst hp
  have hd : decode (zby m) pc = .ok (.ifnull z, 3) := (zdc hc).1
  have hb : (pc : Int) + z = a := of_decide_eq_true (show decide _ = true from (zdc hc).2.2.1)
  cases r with
  | none =>
    refine R_pure (fun Z p l e R s mid args below meth cc Qs C H locs cells slots lr sr hl hs hH hS b1 b2 k => ?_) (ht rfl)
    obtain ⟨w1, ws1, rfl, ⟨rfl, g1⟩, hs1⟩ := srel_cons hs
    have hs := hs1
    exact lv_ifnullN C.1 C.2.1 hd hb (k lr _ hl hs)
  | some q =>
    refine R_pure (fun Z p l e R s mid args below meth cc Qs C H locs cells slots lr sr hl hs hH hS b1 b2 k => ?_) (hf q rfl)
    obtain ⟨w1, ws1, rfl, ⟨rfl, g1⟩, hs1⟩ := srel_cons hs
    have hs := hs1
    exact lv_ifnull C.1 C.2.1 hd (k lr _ hl hs)
theorem R_ifnonnull {m pc pc' : Nat} {ls st : List MV} {M : MH} {Q : Res → MH → Prop} {a b d : Nat} {z : Int} {tb : List (Int × Nat)} {r : Option Nat} (hc : cod m pc = some (49, a, b, d, z, tb)) (hp : pc + 3 = pc') (ht : ∀ q, r = some q → Run m a ls st M Q) (hf : r = none → Run m pc' ls st M Q) : Run m pc ls (vR r :: st) M Q := by
  subst hp
  have hd : decode (zby m) pc = .ok (.ifnonnull z, 3) := (zdc hc).1
  have hb : (pc : Int) + z = a := of_decide_eq_true (show decide _ = true from (zdc hc).2.2.1)
  cases r with
  | none =>
    refine R_pure (fun Z p l e R s mid args below meth cc Qs C H locs cells slots lr sr hl hs hH hS b1 b2 k => ?_) (hf rfl)
    obtain ⟨w1, ws1, rfl, ⟨rfl, g1⟩, hs1⟩ := srel_cons hs
    have hs := hs1
    exact lv_ifnonnullN C.1 C.2.1 hd (k lr _ hl hs)
  | some q =>
    refine R_pure (fun Z p l e R s mid args below meth cc Qs C H locs cells slots lr sr hl hs hH hS b1 b2 k => ?_) (ht q rfl)
    obtain ⟨w1, ws1, rfl, ⟨rfl, g1⟩, hs1⟩ := srel_cons hs
    have hs := hs1
    exact lv_ifnonnull C.1 C.2.1 hd hb (k lr _ hl hs)
theorem R_goto {m pc : Nat} {ls st : List MV} {M : MH} {Q : Res → MH → Prop} {a b d : Nat} {z : Int} {tb : List (Int × Nat)} (hc : cod m pc = some (50, a, b, d, z, tb)) (h : Run m a ls st M Q) : Run m pc ls st M Q := by
  have hd : decode (zby m) pc = .ok (.goto z, 3) := (zdc hc).1
  have hb : (pc : Int) + z = a := of_decide_eq_true (show decide _ = true from (zdc hc).2.2.1)
  refine R_pure (fun Z p l e R s mid args below meth cc Qs C H locs cells slots lr sr hl hs hH hS b1 b2 k => ?_) h
  exact lv_goto C.1 C.2.1 hd hb (k lr _ hl hs)
theorem R_null {m pc pc' : Nat} {ls st : List MV} {M : MH} {Q : Res → MH → Prop} {a b d : Nat} {z : Int} {tb : List (Int × Nat)} (hc : cod m pc = some (71, a, b, d, z, tb)) (hp : pc + 1 = pc') (h : Run m pc' ls (vR none :: st) M Q) : Run m pc ls st M Q := by
  subst hp
  have hd : decode (zby m) pc = .ok (.aconst_null, 1) := (zdc hc).1
  refine R_pure (fun Z p l e R s mid args below meth cc Qs C H locs cells slots lr sr hl hs hH hS b1 b2 k => ?_) h
  exact lv_null C.1 C.2.1 hd (k lr _ hl ⟨⟨rfl, fun q h => by cases h⟩, hs⟩)
