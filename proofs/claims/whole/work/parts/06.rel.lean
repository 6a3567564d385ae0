/-! the mini machine's states, and what ties them to the machine's -/
abbrev vI (z : Int) : MV := Sum.inl z
abbrev vL (z : Int) : MV := Sum.inr (Sum.inl z)
abbrev vR (r : Option Nat) : MV := Sum.inr (Sum.inr (Sum.inl r))
abbrev vS (k : Nat) : MV := Sum.inr (Sum.inr (Sum.inr (Sum.inl k)))
abbrev vJ : MV := Sum.inr (Sum.inr (Sum.inr (Sum.inr ())))
/-- numbers of the cells, references of the cells, how many cells, how many exceptions, the script's length, the script -/
abbrev MH : Type := (Nat → Nat → Int) × (Nat → Nat → Option Nat) × Nat × Nat × Nat × (Nat → Int)
def sI (M : MH) (a k : Nat) (z : Int) : MH := (fun b j => if b = a ∧ j = k then z else M.1 b j, M.2)
def sR (M : MH) (a k : Nat) (r : Option Nat) : MH := (M.1, fun b j => if b = a ∧ j = k then r else M.2.1 b j, M.2.2)
/-- base, D, array kinds, strings' objects, strings' rows, script: place, length, ints -/
abbrev EP : Type := Nat × va_G × (Nat → ClassId) × (Nat → Nat) × (Nat → Nat) × Nat × Nat × (Nat → Int32)
def r32 (z : Int) : Prop := -2147483648 ≤ z ∧ z < 2147483648
def r64 (z : Int) : Prop := -9223372036854775808 ≤ z ∧ z < 9223372036854775808
def zrv (B : Nat) : Option Nat → Value
  | none => .null
  | some a => .ref (B + a)
def vrel (Z : EP) (top : Nat) (v : MV) (w : Value) : Prop := match v with
  | .inl z => w = .int (Int32.ofInt z) ∧ r32 z
  | .inr (.inl z) => w = .long (Int64.ofInt z) ∧ r64 z
  | .inr (.inr (.inl r)) => w = zrv Z.1 r ∧ ∀ q, r = some q → q < top
  | .inr (.inr (.inr (.inl k))) => (k < 25 ∧ w = .ref (Z.2.2.2.1 k)) ∨ (k = 100 ∧ w = .ref Z.2.2.2.2.2.1)
  | .inr (.inr (.inr (.inr _))) => ∃ a, w = .ref a
def srel (Z : EP) (top : Nat) : List MV → List Value → Prop
  | [], [] => True
  | v :: vs, w :: ws => vrel Z top v w ∧ srel Z top vs ws
  | _, _ => False
def lrel (Z : EP) (top n : Nat) (ls : List MV) (lr : Array Slot) : Prop :=
  lr.size = n ∧ lv_wf lr ∧ ls.length = n ∧ ∀ (i : Nat) (v : MV), ls[i]? = some v → v = vJ ∨ ∃ w, lr[i]? = some (.val w) ∧ vrel Z top v w
def fv (B t : Nat) (z : Int) (r : Option Nat) : Value := if t = 4 then zrv B r else .int (Int32.ofInt z)
def fok (top t : Nat) (z : Int) (r : Option Nat) : Prop := if t = 4 then (∀ q, r = some q → q < top) else if t = 1 then (z = 0 ∨ z = 1) else r32 z
def av (B t : Nat) (z : Int) (r : Option Nat) : Value := if t = 4 then zrv B r else if t = 3 then .long (Int64.ofInt z) else .int (Int32.ofInt z)
def aok (top t : Nat) (z : Int) (r : Option Nat) : Prop :=
  if t = 4 then (∀ q, r = some q → q < top) else if t = 3 then r64 z else if t = 2 then (z = 0 ∨ z = 1) else if t = 1 then (-128 ≤ z ∧ z < 128) else r32 z
def objR (Z : EP) (M : MH) (H : Heap) (a b : Nat) : Prop :=
  t_OB (Z.1 + a) (Z.2.1.1 b) (znF b) (Z.2.1.2 b) H (fun k => fv Z.1 (zft b k) (M.1 a k) (M.2.1 a k)) ∧ ∀ k, k < znF b → fok M.2.2.1 (zft b k) (M.1 a k) (M.2.1 a k)
def arrR (Z : EP) (M : MH) (H : Heap) (a t : Nat) : Prop :=
  H[Z.1 + a]? = some (arrV (Z.2.2.1 t) (L0 a) (fun j => av Z.1 t (M.1 a j) (M.2.1 a j))) ∧ ∀ j, j < L0 a → aok M.2.2.1 t (M.1 a j) (M.2.1 a j)
def celR (Z : EP) (M : MH) (H : Heap) (a : Nat) : Prop := if K0 a ≤ 10 then objR Z M H a (K0 a - 1) else arrR Z M H a (K0 a - 21)
def HRel (Z : EP) (M : MH) (H : Heap) : Prop :=
  (M.2.2.2.1 = 0 → H.size = Z.1 + M.2.2.1) ∧ Z.1 + M.2.2.1 ≤ H.size ∧ (∀ a, a < M.2.2.1 → celR Z M H a) ∧ M.2.2.2.2.1 = Z.2.2.2.2.2.2.1 ∧ M.2.2.2.2.1 < 2147483648 ∧ ∀ j, j < M.2.2.2.2.1 → Z.2.2.2.2.2.2.2 j = Int32.ofInt (M.2.2.2.2.2 j) ∧ r32 (M.2.2.2.2.2 j)
def zA (Z : EP) : Nat → Prop := fun q => Z.1 ≤ q
def ztys (Z : EP) : List (ClassId × FieldType) := [(Z.2.2.1 0, .int), (Z.2.2.1 1, .byte), (Z.2.2.1 2, .boolean), (Z.2.2.1 3, .long), (Z.2.2.1 4, .object "RepairScan$Found")]
def zso (i : Nat) : String × Nat × String × Nat := zsoL.getD i ("", 0, "", 0)
def zsl : List Nat := zsbL.map List.length
def zsb : List (List Int32) := zsbL.map (List.map Int32.ofNat)
def Ev (Z : EP) (U : State) (H : Heap) : Prop :=
  va_K Z.2.1 zcl (ztys Z) U ∧ vk_S 25 zsl zsb Z.2.2.2.1 Z.2.2.2.2.1 (zA Z) U H ∧ (∀ i, i < 25 → vk_R (zso i).1 (zso i).2.1 (zso i).2.2.1 (Z.2.2.2.1 i) U) ∧
  va_Z "java/lang/String" "COMPACT_STRINGS" "Z" (.int 1) (zA Z) U H ∧ vx_Zq Bundle.tN "UNASSIGNED_STACK" Bundle.steD (zA Z) U H ∧ vx_Zq Bundle.tN "SUPPRESSED_SENTINEL" Bundle.listD (zA Z) U H ∧
  (∀ w ∈ nW, va_Nw w U) ∧ va_AO "RepairScan$Found" U ∧ va_Nc (zex 3) (zex 2) U ∧ va_X Z.2.2.2.2.2.1 Z.2.2.2.2.2.2.1 Z.2.2.2.2.2.2.2 U H ∧ Z.2.2.2.2.2.1 < H.size ∧ ¬ zA Z Z.2.2.2.2.2.1 ∧ va_Zq "jdk/internal/util/Preconditions" "SIOOBE_FORMATTER" "Ljava/util/function/BiFunction;" (zA Z) U H
theorem nest_warm {w : Cond} {s U : State} (hz : zNest w = true) (hW : s.WarmedH U.vm) (h : va_Nw w s) : va_Nw w U := by
  cases w <;> simp [zNest] at hz
  all_goals first
    | exact va_Nw.warmF hW h
    | exact va_Nw.warmM hW h
    | exact va_Nw.warmC hW h
    | exact va_Nw.warmD hW h
theorem Ev.warm {Z : EP} {s U : State} {H : Heap} (hW : s.WarmedH U.vm) (h : Ev Z s H) : Ev Z U H := by
  obtain ⟨h1, h2, h3, h4, h5, h6, h7, h8, h9, h10, h11, h12, h13⟩ := h
  have a := hW.alike
  exact ⟨va_K.moved a h1, h2.moved a, fun i hi => (h3 i hi).warm hW, h4.moved a, h5.moved a, h6.moved a, fun w hw => nest_warm (List.mem_filter.mp hw).2 hW (h7 w hw), h8.moved a, h9.moved a, h10.moved a, h11, h12, h13.moved a⟩
theorem Ev.kept {Z : EP} {U : State} {H H1 : Heap} (h : Ev Z U H) (hz : H.size ≤ H1.size) (hq : ∀ a : Nat, a < H.size → ¬ zA Z a → H1[a]? = H[a]?) : Ev Z U H1 := by
  obtain ⟨h1, h2, h3, h4, h5, h6, h7, h8, h9, h10, h11, h12, h13⟩ := h
  exact ⟨h1, h2.kept hq, h3, h4.kept hq, h5.kept hq, h6.kept hq, h7, h8, h9, h10.kept (hq _ h11 h12), Nat.lt_of_lt_of_le h11 hz, h12, h13.kept hq⟩
theorem Ev.same {Z : EP} {u U : State} {H : Heap} (hv : U.vm = u.vm) (h : Ev Z u H) : Ev Z U H := h.warm (by rw [hv]; exact State.WarmedH.refl u)
/-- the method's frame -/
def Cx (m : Nat) (Z : EP) (p : Program) (l : Launch) (e : Env) (R : Room) (s : State) (mid : MethodId) (args : Array Value) (below : List Frame) (meth : Method) (c : Code) : Prop :=
  p.tables.exec = Jvm.exec ∧ c.code = zby m ∧ c.maxLocals = zml m ∧ s.vm.findClass (zyn m).cls = some mid.cls ∧ (∀ w ∈ gW, w.before args s = true) ∧ meth.sig.returnType = zrt m ∧ meth.locks = false ∧
  ((zyn m).name = "<init>" → meth.name = "<init>") ∧ c.exceptionTable.toList.map (fun x => (x.startPc, x.endPc, x.handlerPc, x.catchType)) = ztb m ∧
  zdp m ≤ R.frames ∧ 40 * zdp m ≤ R.locals ∧ l.stackTraces = false ∧ Ev Z s s.heap ∧ Z.1 ≤ s.heap.size
def cst (M : MH) : Nat := M.2.2.1 + M.2.2.2.1
def sst (M : MH) : Nat := zss M.2.2.1 + 6 * M.2.2.2.1
def mle (M M' : MH) : Prop := M.2.2.1 ≤ M'.2.2.1 ∧ M.2.2.2.1 ≤ M'.2.2.2.1
theorem zss_mono {a b : Nat} (h : a ≤ b) : zss a ≤ zss b := by
  induction b with
  | zero => rw [Nat.le_zero.mp h]; exact Nat.le_refl _
  | succ n ih =>
    rcases Nat.lt_or_ge n a with q | q
    · rw [show a = n + 1 by omega]; exact Nat.le_refl _
    · exact Nat.le_trans (ih q) (Nat.le_add_right _ _)
theorem mle_c {M M' : MH} (h : mle M M') : cst M ≤ cst M' := Nat.add_le_add h.1 h.2
theorem mle_s {M M' : MH} (h : mle M M') : sst M ≤ sst M' := Nat.add_le_add (zss_mono h.1) (Nat.mul_le_mul_left 6 h.2)
theorem mle_trans {A B C : MH} (h : mle A B) (h2 : mle B C) : mle A C := ⟨Nat.le_trans h.1 h2.1, Nat.le_trans h.2 h2.2⟩
theorem mle_refl {A : MH} : mle A A := ⟨Nat.le_refl _, Nat.le_refl _⟩
/-- a method ends: it returned nothing or a value, or it throws -/
abbrev Res : Type := Option MV ⊕ Nat
def zik (k : Nat) : Nat := [41, 44, 58, 87].getD k 0
def zic (k : Nat) : Nat := [43, 46, 60, 89].getD k 0
def endOK (m pc : Nat) (r : Res) (st : List MV) : Prop := match r with
  | .inl none => st = [] ∧ zrt m = none ∧ ∃ a b d z tb, cod m pc = some (86, a, b, d, z, tb)
  | .inl (some v) => st = [v] ∧ ((∃ z, v = vI z ∧ (zrt m = some .int ∨ (zrt m = some .boolean ∧ (z = 0 ∨ z = 1))) ∧ ∃ a b d z tb, cod m pc = some (83, a, b, d, z, tb)) ∨
    (∃ z, v = vL z ∧ zrt m = some .long ∧ ∃ a b d z tb, cod m pc = some (84, a, b, d, z, tb)) ∨ (∃ q, v = vR q ∧ (∃ n, zrt m = some (.object n)) ∧ ∃ a b d z tb, cod m pc = some (85, a, b, d, z, tb)))
  | .inr k => st = [] ∧ k < 4 ∧ (zyn m).cls = "RepairScan" ∧ 8 ≤ zdp m ∧ ztb m = [] ∧ ∃ a c z tb, a = zik k ∧ c = zic k ∧ cod m pc = some (87, a, k, c, z, tb) ∧ (∃ i : MI, cod m (pc + 3) = some i ∧ i.1 = 33) ∧ (∃ b' c' z' tb', cod m (pc + 4) = some (99, c, b', c', z', tb')) ∧ ∃ i : MI, cod m (pc + 7) = some i ∧ i.1 = 98
def EndW (m : Nat) (Z : EP) (p : Program) (l : Launch) (e : Env) (R : Room) (s : State) (mid : MethodId) (args : Array Value) (below : List Frame) (meth : Method) (c : Code) (Q : State → Prop) (r : Res) (M' : MH) : Prop :=
  ∀ (H : Heap) (locs : List Loc) (cells slots pc : Nat) (lr : Array Slot) (sr : List Value) (st : List MV), endOK m pc r st → srel Z M'.2.2.1 st sr → lr.size = zml m → HRel Z M' H → va_S (zA Z) s.heap H locs → cells ≤ R.cells → slots ≤ R.slots → ((∃ k, r = .inr k) → cells + 1 ≤ R.cells ∧ slots + 6 ≤ R.slots) →
    W p l e R s mid args below meth c H locs cells slots Q (F0 mid pc lr sr)
def xof (r : Res) : Nat := match r with
  | .inl _ => 0
  | .inr _ => 1
def RunX (m pc : Nat) (ls st : List MV) (M : MH) (r : Res) (M' : MH) : Prop :=
  ∀ (Z : EP) (p : Program) (l : Launch) (e : Env) (R : Room) (s : State) (mid : MethodId) (args : Array Value) (below : List Frame) (meth : Method) (c : Code) (Q : State → Prop), Cx m Z p l e R s mid args below meth c →
    ∀ (H : Heap) (locs : List Loc) (cells slots : Nat) (lr : Array Slot) (sr : List Value), lrel Z M.2.2.1 (zml m) ls lr → srel Z M.2.2.1 st sr → HRel Z M H → va_S (zA Z) s.heap H locs →
      cells + cst M' + xof r ≤ R.cells + cst M → slots + sst M' + 6 * xof r ≤ R.slots + sst M → EndW m Z p l e R s mid args below meth c Q r M' →
      W p l e R s mid args below meth c H locs cells slots Q (F0 mid pc lr sr)
def Run (m pc : Nat) (ls st : List MV) (M : MH) (Q : Res → MH → Prop) : Prop :=
  ∃ (r : Res) (M' : MH), Q r M' ∧ mle M M' ∧ RunX m pc ls st M r M'
/-- one instruction that leaves the cells alone -/
theorem R_pure {m pc pc' : Nat} {ls ls' st st' : List MV} {M : MH} {Q : Res → MH → Prop}
    (step : ∀ (Z : EP) (p : Program) (l : Launch) (e : Env) (R : Room) (s : State) (mid : MethodId) (args : Array Value) (below : List Frame) (meth : Method) (c : Code) (Qs : State → Prop), Cx m Z p l e R s mid args below meth c →
      ∀ (H : Heap) (locs : List Loc) (cells slots : Nat) (lr : Array Slot) (sr : List Value), lrel Z M.2.2.1 (zml m) ls lr → srel Z M.2.2.1 st sr → HRel Z M H → va_S (zA Z) s.heap H locs → cells ≤ R.cells → slots ≤ R.slots →
        (∀ (lr' : Array Slot) (sr' : List Value), lrel Z M.2.2.1 (zml m) ls' lr' → srel Z M.2.2.1 st' sr' → W p l e R s mid args below meth c H locs cells slots Qs (F0 mid pc' lr' sr')) →
        W p l e R s mid args below meth c H locs cells slots Qs (F0 mid pc lr sr))
    (h : Run m pc' ls' st' M Q) : Run m pc ls st M Q := by
  obtain ⟨r, M', hQ, hm, hX⟩ := h
  have h1 := mle_c hm
  have h2 := mle_s hm
  refine ⟨r, M', hQ, hm, ?_⟩
  intro Z p l e R s mid args below meth c Qs C H locs cells slots lr sr hl hs hH hS b1 b2 hE
  exact step Z p l e R s mid args below meth c Qs C H locs cells slots lr sr hl hs hH hS (by omega) (by omega) fun lr' sr' hl' hs' => hX Z p l e R s mid args below meth c Qs C H locs cells slots lr' sr' hl' hs' hH hS b1 b2 hE
theorem srel_cons {Z : EP} {top : Nat} {v : MV} {vs : List MV} {sr : List Value} (h : srel Z top (v :: vs) sr) : ∃ w ws, sr = w :: ws ∧ vrel Z top v w ∧ srel Z top vs ws := by
  cases sr with
  | nil => exact h.elim
  | cons w ws => exact ⟨w, ws, rfl, h.1, h.2⟩
theorem srel_nil {Z : EP} {top : Nat} {sr : List Value} (h : srel Z top [] sr) : sr = [] := by
  cases sr with
  | nil => rfl
  | cons w ws => exact h.elim
