/-! states after the constructors: numbers I, moving references D, the rest stands still -/
abbrev HI : Type := Nat → Nat → Int
abbrev HD : Type := Nat → Nat → Nat
/-- exceptions so far, the script's length, the script, the references that stand still -/
abbrev En : Type := Nat × Nat × (Nat → Int) × (Nat → Nat → Option Nat)
def uI (I : HI) (a k : Nat) (z : Int) : HI := fun b j => if b = a ∧ j = k then z else I b j
def uD (D : HD) (a k v : Nat) : HD := fun b j => if b = a ∧ j = k then v else D b j
def cI (I : HI) (src sp dst dp n : Nat) : HI := fun b j => if b = dst ∧ dp ≤ j ∧ j < dp + n then I src (sp + (j - dp)) else I b j
theorem uI_eq {I : HI} {a k : Nat} {z : Int} : uI I a k z a k = z := if_pos ⟨rfl, rfl⟩
theorem uI_ne {I : HI} {a k b j : Nat} {z : Int} (h : ¬ (b = a ∧ j = k)) : uI I a k z b j = I b j := if_neg h
theorem uD_eq {D : HD} {a k v : Nat} : uD D a k v a k = v := if_pos ⟨rfl, rfl⟩
theorem uD_ne {D : HD} {a k b j v : Nat} (h : ¬ (b = a ∧ j = k)) : uD D a k v b j = D b j := if_neg h
theorem uI_uI {I : HI} {a k : Nat} {z y : Int} : uI (uI I a k z) a k y = uI I a k y := by
  funext b j
  by_cases h : b = a ∧ j = k
  · obtain ⟨rfl, rfl⟩ := h; rw [uI_eq, uI_eq]
  · rw [uI_ne h, uI_ne h, uI_ne h]
theorem uI_self {I : HI} {a k : Nat} {z : Int} (h : I a k = z) : uI I a k z = I := by
  funext b j
  by_cases h2 : b = a ∧ j = k
  · obtain ⟨rfl, rfl⟩ := h2; rw [uI_eq, h]
  · rw [uI_ne h2]
theorem uI_comm {I : HI} {a k b j : Nat} {z y : Int} (h : ¬ (b = a ∧ j = k)) : uI (uI I a k z) b j y = uI (uI I b j y) a k z := by
  funext c i
  by_cases h1 : c = a ∧ i = k
  · obtain ⟨rfl, rfl⟩ := h1
    rw [uI_eq, uI_ne (fun q => h ⟨q.1.symm, q.2.symm⟩), uI_eq]
  · by_cases h2 : c = b ∧ i = j
    · obtain ⟨rfl, rfl⟩ := h2; rw [uI_eq, uI_ne h1, uI_eq]
    · rw [uI_ne h2, uI_ne h1, uI_ne h1, uI_ne h2]
def dyn (a k : Nat) : Bool := (a == 1 && k == 4) || ((a == 26 || a == 177) && k == 3) || ((a == 8 || a == 159) && k == 10) || ((a == 29 || a == 180) && Nat.blt k 61)
def mk (e : En) (I : HI) (D : HD) : MH := (I, fun a k => if dyn a k = true then some (D a k) else e.2.2.2 a k, 342, e.1, e.2.1, e.2.2.1)
def zrL : List (List Nat) := [[7, 0, 8, 159, 310], [2, 3, 4, 5, 0], [], [], [], [], [], [], [1, 9, 0, 10, 14, 18, 22, 26, 28, 29, 0, 0, 0, 0, 0, 0, 154], [], [11, 12, 13], [], [], [], [15, 16, 17], [], [], [], [19, 20, 21], [], [], [], [23, 24, 25], [], [], [], [1, 10, 14, 0], [], [], [], [31], [], [33], [], [35], [], [37], [], [39], [], [41], [], [43], [], [45], [], [47], [], [49], [], [51], [], [53], [], [55], [], [57], [], [59], [], [61], [], [63], [], [65], [], [67], [], [69], [], [71], [], [73], [], [75], [], [77], [], [79], [], [81], [], [83], [], [85], [], [87], [], [89], [], [91], [], [93], [], [95], [], [97], [], [99], [], [101], [], [103], [], [105], [], [107], [], [109], [], [111], [], [113], [], [115], [], [117], [], [119], [], [121], [], [123], [], [125], [], [127], [], [129], [], [131], [], [133], [], [135], [], [137], [], [139], [], [141], [], [143], [], [145], [], [147], [], [149], [], [151], [], [153], [], [155, 0, 156, 157, 158], [], [], [], [], [1, 160, 0, 161, 165, 169, 173, 177, 179, 180, 0, 0, 0, 0, 0, 0, 305], [], [162, 163, 164], [], [], [], [166, 167, 168], [], [], [], [170, 171, 172], [], [], [], [174, 175, 176], [], [], [], [1, 161, 165, 0], [], [], [], [182], [], [184], [], [186], [], [188], [], [190], [], [192], [], [194], [], [196], [], [198], [], [200], [], [202], [], [204], [], [206], [], [208], [], [210], [], [212], [], [214], [], [216], [], [218], [], [220], [], [222], [], [224], [], [226], [], [228], [], [230], [], [232], [], [234], [], [236], [], [238], [], [240], [], [242], [], [244], [], [246], [], [248], [], [250], [], [252], [], [254], [], [256], [], [258], [], [260], [], [262], [], [264], [], [266], [], [268], [], [270], [], [272], [], [274], [], [276], [], [278], [], [280], [], [282], [], [284], [], [286], [], [288], [], [290], [], [292], [], [294], [], [296], [], [298], [], [300], [], [302], [], [304], [], [306, 0, 307, 308, 309], [], [], [], [], [311], [], [0, 0, 313, 0, 0, 314, 315, 316, 317, 318, 319, 320, 321, 322, 323, 324, 325, 0, 326, 327, 328, 329, 330, 331, 332, 0, 0, 0, 0, 0, 0, 0, 0, 0, 0, 0, 0, 0, 0, 333, 334, 335, 0, 336, 337, 0, 0, 0, 0, 0, 0, 0, 338, 339, 0, 340], [], [], [], [], [], [], [], [], [], [], [], [], [], [], [], [], [], [], [], [], [], [], [], [], [], [], [], [], []]
def srf (a k : Nat) : Nat := (zrL.getD a []).getD k 0
def HS (e : En) : Prop := ∀ a k, dyn a k = false → srf a k ≠ 0 → e.2.2.2 a k = some (srf a k)
def isA (A : Nat) : Prop := A = 8 ∨ A = 159
theorem st_at {e : En} {I : HI} {D : HD} {a k v : Nat} (he : HS e) (h1 : dyn a k = false) (h2 : srf a k = v) (h3 : v ≠ 0) : (mk e I D).2.1 a k = some v := by
  subst h2
  show (if dyn a k = true then some (D a k) else e.2.2.2 a k) = _
  rw [h1]
  exact he a k h1 h3
theorem dy_at {e : En} {I : HI} {D : HD} {a k : Nat} (h1 : dyn a k = true) : (mk e I D).2.1 a k = some (D a k) := by
  show (if dyn a k = true then some (D a k) else e.2.2.2 a k) = _
  rw [h1]; rfl
theorem mk_sI {e : En} {I : HI} {D : HD} {a k : Nat} {z : Int} : sI (mk e I D) a k z = mk e (uI I a k z) D := rfl
theorem mk_sR {e : En} {I : HI} {D : HD} {a k v : Nat} (h : dyn a k = true) : sR (mk e I D) a k (some v) = mk e I (uD D a k v) := by
  have : (fun b j => if b = a ∧ j = k then some v else (mk e I D).2.1 b j) = (mk e I (uD D a k v)).2.1 := by
    funext b j
    show _ = if dyn b j = true then some (uD D a k v b j) else e.2.2.2 b j
    by_cases h2 : b = a ∧ j = k
    · obtain ⟨rfl, rfl⟩ := h2
      rw [if_pos ⟨rfl, rfl⟩, if_pos h, uD_eq]
    · rw [if_neg h2, uD_ne h2]; rfl
  unfold sR
  rw [this]; rfl
theorem K0_lt {q : Nat} (h : K0 q ≠ 0) : q < 342 := by
  rcases Nat.lt_or_ge q 342 with h1 | h1
  · exact h1
  · exfalso; apply h; unfold K0
    rw [List.getD_eq_getElem?_getD, List.getElem?_eq_none (by have : zkL.length = 342 := by decide +kernel
                                                              omega)]; rfl
def ckF (q : Nat) : Bool := K0 q != 3 || (K0 (q + 1) == 1 && srf q 0 == q + 1 && !dyn q 0)
theorem ckF_all : (List.range 342).all ckF = true := by decide +kernel
theorem kF {q : Nat} (h : K0 q = 3) : K0 (q + 1) = 1 ∧ srf q 0 = q + 1 ∧ dyn q 0 = false := by
  have := List.all_eq_true.mp ckF_all q (List.mem_range.mpr (K0_lt (by omega)))
  simpa [ckF, h, and_assoc] using this
def ckMk (q : Nat) : Bool := K0 q != 4 || (K0 (q + 1) == 21 && K0 (q + 2) == 21 && K0 (q + 3) == 21 && srf q 0 == q + 1 && srf q 1 == q + 2 && srf q 2 == q + 3 && !dyn q 0 && !dyn q 1 && !dyn q 2 && L0 (q + 2) == L0 (q + 1) && L0 (q + 3) == L0 (q + 1))
theorem ckMk_all : (List.range 342).all ckMk = true := by decide +kernel
theorem kM {q : Nat} (h : K0 q = 4) : K0 (q + 1) = 21 ∧ K0 (q + 2) = 21 ∧ K0 (q + 3) = 21 ∧ srf q 0 = q + 1 ∧ srf q 1 = q + 2 ∧ srf q 2 = q + 3 ∧ dyn q 0 = false ∧ dyn q 1 = false ∧ dyn q 2 = false ∧ L0 (q + 2) = L0 (q + 1) ∧ L0 (q + 3) = L0 (q + 1) := by
  have := List.all_eq_true.mp ckMk_all q (List.mem_range.mpr (K0_lt (by omega)))
  simpa [ckMk, h, and_assoc] using this
theorem gF0 {e : En} {I : HI} {D : HD} {q : Nat} (he : HS e) (h : K0 q = 3) : (mk e I D).2.1 q 0 = some (q + 1) := st_at he (kF h).2.2 (kF h).2.1 (by omega)
theorem gM0 {e : En} {I : HI} {D : HD} {q : Nat} (he : HS e) (h : K0 q = 4) : (mk e I D).2.1 q 0 = some (q + 1) := st_at he (kM h).2.2.2.2.2.2.1 (kM h).2.2.2.1 (by omega)
theorem gM1 {e : En} {I : HI} {D : HD} {q : Nat} (he : HS e) (h : K0 q = 4) : (mk e I D).2.1 q 1 = some (q + 2) := st_at he (kM h).2.2.2.2.2.2.2.1 (kM h).2.2.2.2.1 (by omega)
theorem gM2 {e : En} {I : HI} {D : HD} {q : Nat} (he : HS e) (h : K0 q = 4) : (mk e I D).2.1 q 2 = some (q + 3) := st_at he (kM h).2.2.2.2.2.2.2.2.1 (kM h).2.2.2.2.2.1 (by omega)
theorem gA {e : En} {I : HI} {D : HD} {A : Nat} (he : HS e) (hA : isA A) (o k v : Nat) (h : (dyn (8 + o) k = false ∧ dyn (159 + o) k = false) ∧ srf (8 + o) k = 8 + v ∧ srf (159 + o) k = 159 + v) : (mk e I D).2.1 (A + o) k = some (A + v) := by
  rcases hA with rfl | rfl
  · exact st_at he h.1.1 h.2.1 (by omega)
  · exact st_at he h.1.2 h.2.2 (by omega)
theorem gA1 {e : En} {I : HI} {D : HD} {A : Nat} (he : HS e) (hA : isA A) (o : Nat) (h : (dyn (8 + o) 0 = false ∧ dyn (159 + o) 0 = false) ∧ srf (8 + o) 0 = 1 ∧ srf (159 + o) 0 = 1) : (mk e I D).2.1 (A + o) 0 = some 1 := by
  rcases hA with rfl | rfl
  · exact st_at he h.1.1 h.2.1 (by omega)
  · exact st_at he h.1.2 h.2.2 (by omega)
theorem kA {A : Nat} (hA : isA A) (o t : Nat) (h : K0 (8 + o) = t ∧ K0 (159 + o) = t) : K0 (A + o) = t := by
  rcases hA with rfl | rfl
  · exact h.1
  · exact h.2
theorem lA {A : Nat} (hA : isA A) (o t : Nat) (h : L0 (8 + o) = t ∧ L0 (159 + o) = t) : L0 (A + o) = t := by
  rcases hA with rfl | rfl
  · exact h.1
  · exact h.2
theorem dA {A : Nat} (hA : isA A) (o k : Nat) (h : dyn (8 + o) k = true ∧ dyn (159 + o) k = true) : dyn (A + o) k = true := by
  rcases hA with rfl | rfl
  · exact h.1
  · exact h.2
theorem dO {A k : Nat} (hA : isA A) (h : k < 61) : dyn (A + 21) k = true := by
  have : Nat.blt k 61 = true := by simpa [Nat.blt_eq] using h
  rcases hA with rfl | rfl <;> simp [dyn, this]
def pI (e : En) (Q : Int → HI → HD → Prop) (r : Res) (M : MH) : Prop := ∃ z I D, r = .inl (some (vI z)) ∧ M = mk e I D ∧ Q z I D
def RI (m pc : Nat) (ls st : List MV) (e : En) (I : HI) (D : HD) (Q : Int → HI → HD → Prop) : Prop := Run m pc ls st (mk e I D) (pI e Q)
def CI (m : Nat) (as : List MV) (e : En) (I : HI) (D : HD) (Q : Int → HI → HD → Prop) : Prop := Call m as (mk e I D) (pI e Q)
def pL (e : En) (Q : Int → HI → HD → Prop) (r : Res) (M : MH) : Prop := ∃ z I D, r = .inl (some (vL z)) ∧ M = mk e I D ∧ Q z I D
def RL (m pc : Nat) (ls st : List MV) (e : En) (I : HI) (D : HD) (Q : Int → HI → HD → Prop) : Prop := Run m pc ls st (mk e I D) (pL e Q)
def CL (m : Nat) (as : List MV) (e : En) (I : HI) (D : HD) (Q : Int → HI → HD → Prop) : Prop := Call m as (mk e I D) (pL e Q)
def pR (e : En) (Q : Option Nat → HI → HD → Prop) (r : Res) (M : MH) : Prop := ∃ z I D, r = .inl (some (vR z)) ∧ M = mk e I D ∧ Q z I D
def RR (m pc : Nat) (ls st : List MV) (e : En) (I : HI) (D : HD) (Q : Option Nat → HI → HD → Prop) : Prop := Run m pc ls st (mk e I D) (pR e Q)
def CR (m : Nat) (as : List MV) (e : En) (I : HI) (D : HD) (Q : Option Nat → HI → HD → Prop) : Prop := Call m as (mk e I D) (pR e Q)
def pV (e : En) (Q : HI → HD → Prop) (r : Res) (M : MH) : Prop := ∃ I D, r = .inl none ∧ M = mk e I D ∧ Q I D
def RV (m pc : Nat) (ls st : List MV) (e : En) (I : HI) (D : HD) (Q : HI → HD → Prop) : Prop := Run m pc ls st (mk e I D) (pV e Q)
def CV (m : Nat) (as : List MV) (e : En) (I : HI) (D : HD) (Q : HI → HD → Prop) : Prop := Call m as (mk e I D) (pV e Q)
def pX (e : En) (Q : Res → HI → HD → Prop) (r : Res) (M : MH) : Prop := ∃ I D, M = mk e I D ∧ Q r I D
def RX (m pc : Nat) (ls st : List MV) (e : En) (I : HI) (D : HD) (Q : Res → HI → HD → Prop) : Prop := Run m pc ls st (mk e I D) (pX e Q)
def CX (m : Nat) (as : List MV) (e : En) (I : HI) (D : HD) (Q : Res → HI → HD → Prop) : Prop := Call m as (mk e I D) (pX e Q)
theorem Call_mono {m : Nat} {as : List MV} {M : MH} {Q Q' : Res → MH → Prop} (h : Call m as M Q) (hq : ∀ r M', Q r M' → Q' r M') : Call m as M Q' := by
  obtain ⟨r, M', h1, h2⟩ := h
  exact ⟨r, M', hq r M' h1, h2⟩
theorem Run_mono {m pc : Nat} {ls st : List MV} {M : MH} {Q Q' : Res → MH → Prop} (h : Run m pc ls st M Q) (hq : ∀ r M', Q r M' → Q' r M') : Run m pc ls st M Q' := by
  obtain ⟨r, M', h1, h2⟩ := h
  exact ⟨r, M', hq r M' h1, h2⟩
/-- to know less of the locals -/
def wkP : List MV → List MV → Prop
  | [], [] => True
  | v :: vs, w :: ws => (w = v ∨ w = vJ) ∧ wkP vs ws
  | _, _ => False
theorem wkP_at {ls ls' : List MV} (h : wkP ls ls') : ls'.length = ls.length ∧ ∀ (i : Nat) (w : MV), ls'[i]? = some w → w = vJ ∨ ls[i]? = some w := by
  induction ls generalizing ls' with
  | nil =>
    cases ls' with
    | nil => exact ⟨rfl, fun i w q => by simp at q⟩
    | cons => exact h.elim
  | cons v vs ih =>
    cases ls' with
    | nil => exact h.elim
    | cons w ws =>
      obtain ⟨a, b⟩ := ih h.2
      refine ⟨by simp [a], fun i u q => ?_⟩
      cases i with
      | zero =>
        simp at q; subst q
        rcases h.1 with rfl | rfl
        · exact Or.inr rfl
        · exact Or.inl rfl
      | succ j => simpa using b j u (by simpa using q)
theorem R_forget {m pc : Nat} {ls ls' st : List MV} {M : MH} {Q : Res → MH → Prop} (hw : wkP ls ls') (h : Run m pc ls' st M Q) : Run m pc ls st M Q := by
  obtain ⟨r, M', hQ, hm, hX⟩ := h
  obtain ⟨w1, w2⟩ := wkP_at hw
  refine ⟨r, M', hQ, hm, ?_⟩
  intro Z p l e R s mid args below meth c Qs C H locs cells slots lr sr hl hs hH hS b1 b2 hE
  refine hX Z p l e R s mid args below meth c Qs C H locs cells slots lr sr ⟨hl.1, hl.2.1, by have := hl.2.2.1; omega, fun i v hv => ?_⟩ hs hH hS b1 b2 hE
  rcases w2 i v hv with q | q
  · exact Or.inl q
  · exact hl.2.2.2 i v q
theorem CI_mono {m : Nat} {as : List MV} {e : En} {I : HI} {D : HD} {Q Q' : Int → HI → HD → Prop} (h : CI m as e I D Q) (hq : ∀ z I D, Q z I D → Q' z I D) : CI m as e I D Q' :=
  Call_mono h fun r M' q => by
    obtain ⟨z, I, D, h1, h2, h3⟩ := q
    exact ⟨z, I, D, h1, h2, hq _ _ _ h3⟩
theorem RI_mono {m pc : Nat} {ls st : List MV} {e : En} {I : HI} {D : HD} {Q Q' : Int → HI → HD → Prop} (h : RI m pc ls st e I D Q) (hq : ∀ z I D, Q z I D → Q' z I D) : RI m pc ls st e I D Q' :=
  Run_mono h fun r M' q => by
    obtain ⟨z, I, D, h1, h2, h3⟩ := q
    exact ⟨z, I, D, h1, h2, hq _ _ _ h3⟩
theorem CL_mono {m : Nat} {as : List MV} {e : En} {I : HI} {D : HD} {Q Q' : Int → HI → HD → Prop} (h : CL m as e I D Q) (hq : ∀ z I D, Q z I D → Q' z I D) : CL m as e I D Q' :=
  Call_mono h fun r M' q => by
    obtain ⟨z, I, D, h1, h2, h3⟩ := q
    exact ⟨z, I, D, h1, h2, hq _ _ _ h3⟩
theorem RL_mono {m pc : Nat} {ls st : List MV} {e : En} {I : HI} {D : HD} {Q Q' : Int → HI → HD → Prop} (h : RL m pc ls st e I D Q) (hq : ∀ z I D, Q z I D → Q' z I D) : RL m pc ls st e I D Q' :=
  Run_mono h fun r M' q => by
    obtain ⟨z, I, D, h1, h2, h3⟩ := q
    exact ⟨z, I, D, h1, h2, hq _ _ _ h3⟩
theorem CR_mono {m : Nat} {as : List MV} {e : En} {I : HI} {D : HD} {Q Q' : Option Nat → HI → HD → Prop} (h : CR m as e I D Q) (hq : ∀ z I D, Q z I D → Q' z I D) : CR m as e I D Q' :=
  Call_mono h fun r M' q => by
    obtain ⟨z, I, D, h1, h2, h3⟩ := q
    exact ⟨z, I, D, h1, h2, hq _ _ _ h3⟩
theorem RR_mono {m pc : Nat} {ls st : List MV} {e : En} {I : HI} {D : HD} {Q Q' : Option Nat → HI → HD → Prop} (h : RR m pc ls st e I D Q) (hq : ∀ z I D, Q z I D → Q' z I D) : RR m pc ls st e I D Q' :=
  Run_mono h fun r M' q => by
    obtain ⟨z, I, D, h1, h2, h3⟩ := q
    exact ⟨z, I, D, h1, h2, hq _ _ _ h3⟩
theorem CV_mono {m : Nat} {as : List MV} {e : En} {I : HI} {D : HD} {Q Q' : HI → HD → Prop} (h : CV m as e I D Q) (hq : ∀ I D, Q I D → Q' I D) : CV m as e I D Q' :=
  Call_mono h fun r M' q => by
    obtain ⟨I, D, h1, h2, h3⟩ := q
    exact ⟨I, D, h1, h2, hq _ _ h3⟩
theorem RV_mono {m pc : Nat} {ls st : List MV} {e : En} {I : HI} {D : HD} {Q Q' : HI → HD → Prop} (h : RV m pc ls st e I D Q) (hq : ∀ I D, Q I D → Q' I D) : RV m pc ls st e I D Q' :=
  Run_mono h fun r M' q => by
    obtain ⟨I, D, h1, h2, h3⟩ := q
    exact ⟨I, D, h1, h2, hq _ _ h3⟩
theorem CX_mono {m : Nat} {as : List MV} {e : En} {I : HI} {D : HD} {Q Q' : Res → HI → HD → Prop} (h : CX m as e I D Q) (hq : ∀ z I D, Q z I D → Q' z I D) : CX m as e I D Q' :=
  Call_mono h fun r M' q => by
    obtain ⟨I, D, h2, h3⟩ := q
    exact ⟨I, D, h2, hq _ _ _ h3⟩
theorem RX_mono {m pc : Nat} {ls st : List MV} {e : En} {I : HI} {D : HD} {Q Q' : Res → HI → HD → Prop} (h : RX m pc ls st e I D Q) (hq : ∀ z I D, Q z I D → Q' z I D) : RX m pc ls st e I D Q' :=
  Run_mono h fun r M' q => by
    obtain ⟨I, D, h2, h3⟩ := q
    exact ⟨I, D, h2, hq _ _ _ h3⟩
theorem K_getI {m pc pc' : Nat} {ls st : List MV} {e : En} {I : HI} {D : HD} {Q : Res → MH → Prop} {a b d : Nat} {z : Int} {tb : List (Int × Nat)} {q : Nat} {x : Int} (hc : cod m pc = some (53, a, b, d, z, tb)) (hp : pc + 3 = pc') (ht : zft b d ≠ 4) (hk : K0 q = b + 1) (hx : I q d = x) (h : Run m pc' ls (vI x :: st) (mk e I D) Q) : Run m pc ls (vR (some q) :: st) (mk e I D) Q :=
  R_getI hc hp ht hk (by subst hx; exact h)
theorem K_getIN {m pc pc' : Nat} {ls st : List MV} {e : En} {I : HI} {D : HD} {Q : Res → MH → Prop} {a b d : Nat} {z : Int} {tb : List (Int × Nat)} {q : Nat} {x : Int} (hc : cod m pc = some (54, a, b, d, z, tb)) (hp : pc + 3 = pc') (ht : zft b d ≠ 4) (hk : K0 q = b + 1) (hx : I q d = x) (h : Run m pc' ls (vI x :: st) (mk e I D) Q) : Run m pc ls (vR (some q) :: st) (mk e I D) Q :=
  R_getIN hc hp ht hk (by subst hx; exact h)
theorem K_getR {m pc pc' : Nat} {ls st : List MV} {e : En} {I : HI} {D : HD} {Q : Res → MH → Prop} {a b d : Nat} {z : Int} {tb : List (Int × Nat)} {q v : Nat} (hc : cod m pc = some (53, a, b, d, z, tb)) (hp : pc + 3 = pc') (ht : zft b d = 4) (hk : K0 q = b + 1) (hx : (mk e I D).2.1 q d = some v) (h : Run m pc' ls (vR (some v) :: st) (mk e I D) Q) : Run m pc ls (vR (some q) :: st) (mk e I D) Q :=
  R_getR hc hp ht hk (by rw [hx]; exact h)
theorem K_getRN {m pc pc' : Nat} {ls st : List MV} {e : En} {I : HI} {D : HD} {Q : Res → MH → Prop} {a b d : Nat} {z : Int} {tb : List (Int × Nat)} {q v : Nat} (hc : cod m pc = some (54, a, b, d, z, tb)) (hp : pc + 3 = pc') (ht : zft b d = 4) (hk : K0 q = b + 1) (hx : (mk e I D).2.1 q d = some v) (h : Run m pc' ls (vR (some v) :: st) (mk e I D) Q) : Run m pc ls (vR (some q) :: st) (mk e I D) Q :=
  R_getRN hc hp ht hk (by rw [hx]; exact h)
theorem K_putI {m pc pc' : Nat} {ls st : List MV} {e : En} {I : HI} {D : HD} {Q : Res → MH → Prop} {a b d : Nat} {z : Int} {tb : List (Int × Nat)} {q : Nat} {x : Int} (hc : cod m pc = some (55, a, b, d, z, tb)) (hp : pc + 3 = pc') (ht : zft b d ≠ 4) (hx : zft b d = 1 → x = 0 ∨ x = 1) (hk : K0 q = b + 1) (h : Run m pc' ls st (mk e (uI I q d x) D) Q) : Run m pc ls (vI x :: vR (some q) :: st) (mk e I D) Q :=
  R_putI hc hp ht hx hk h
theorem K_putIN {m pc pc' : Nat} {ls st : List MV} {e : En} {I : HI} {D : HD} {Q : Res → MH → Prop} {a b d : Nat} {z : Int} {tb : List (Int × Nat)} {q : Nat} {x : Int} (hc : cod m pc = some (56, a, b, d, z, tb)) (hp : pc + 3 = pc') (ht : zft b d ≠ 4) (hx : zft b d = 1 → x = 0 ∨ x = 1) (hk : K0 q = b + 1) (h : Run m pc' ls st (mk e (uI I q d x) D) Q) : Run m pc ls (vI x :: vR (some q) :: st) (mk e I D) Q :=
  R_putIN hc hp ht hx hk h
theorem K_putR {m pc pc' : Nat} {ls st : List MV} {e : En} {I : HI} {D : HD} {Q : Res → MH → Prop} {a b d : Nat} {z : Int} {tb : List (Int × Nat)} {q v : Nat} (hc : cod m pc = some (55, a, b, d, z, tb)) (hp : pc + 3 = pc') (ht : zft b d = 4) (hk : K0 q = b + 1) (hd : dyn q d = true) (h : Run m pc' ls st (mk e I (uD D q d v)) Q) : Run m pc ls (vR (some v) :: vR (some q) :: st) (mk e I D) Q :=
  R_putR hc hp ht hk (by rw [mk_sR hd]; exact h)
theorem K_putRN {m pc pc' : Nat} {ls st : List MV} {e : En} {I : HI} {D : HD} {Q : Res → MH → Prop} {a b d : Nat} {z : Int} {tb : List (Int × Nat)} {q v : Nat} (hc : cod m pc = some (56, a, b, d, z, tb)) (hp : pc + 3 = pc') (ht : zft b d = 4) (hk : K0 q = b + 1) (hd : dyn q d = true) (h : Run m pc' ls st (mk e I (uD D q d v)) Q) : Run m pc ls (vR (some v) :: vR (some q) :: st) (mk e I D) Q :=
  R_putRN hc hp ht hk (by rw [mk_sR hd]; exact h)
theorem K_iald {m pc pc' : Nat} {ls st : List MV} {e : En} {I : HI} {D : HD} {Q : Res → MH → Prop} {a b d : Nat} {z : Int} {tb : List (Int × Nat)} {q : Nat} {i x : Int} (hc : cod m pc = some (58, a, b, d, z, tb)) (hp : pc + 1 = pc') (hk : K0 q = 21) (h0 : 0 ≤ i) (h1 : i < L0 q) (hx : I q i.toNat = x) (h : Run m pc' ls (vI x :: st) (mk e I D) Q) : Run m pc ls (vI i :: vR (some q) :: st) (mk e I D) Q :=
  R_iald hc hp hk h0 h1 (by subst hx; exact h)
theorem K_bald {m pc pc' : Nat} {ls st : List MV} {e : En} {I : HI} {D : HD} {Q : Res → MH → Prop} {a b d : Nat} {z : Int} {tb : List (Int × Nat)} {q : Nat} {i x : Int} (hc : cod m pc = some (60, a, b, d, z, tb)) (hp : pc + 1 = pc') (hk : K0 q = 22) (h0 : 0 ≤ i) (h1 : i < L0 q) (hx : I q i.toNat = x) (h : Run m pc' ls (vI x :: st) (mk e I D) Q) : Run m pc ls (vI i :: vR (some q) :: st) (mk e I D) Q :=
  R_bald hc hp hk h0 h1 (by subst hx; exact h)
theorem K_zald {m pc pc' : Nat} {ls st : List MV} {e : En} {I : HI} {D : HD} {Q : Res → MH → Prop} {a b d : Nat} {z : Int} {tb : List (Int × Nat)} {q : Nat} {i x : Int} (hc : cod m pc = some (60, a, b, d, z, tb)) (hp : pc + 1 = pc') (hk : K0 q = 23) (h0 : 0 ≤ i) (h1 : i < L0 q) (hx : I q i.toNat = x) (h : Run m pc' ls (vI x :: st) (mk e I D) Q) : Run m pc ls (vI i :: vR (some q) :: st) (mk e I D) Q :=
  R_zald hc hp hk h0 h1 (by subst hx; exact h)
theorem K_lald {m pc pc' : Nat} {ls st : List MV} {e : En} {I : HI} {D : HD} {Q : Res → MH → Prop} {a b d : Nat} {z : Int} {tb : List (Int × Nat)} {q : Nat} {i x : Int} (hc : cod m pc = some (62, a, b, d, z, tb)) (hp : pc + 1 = pc') (hk : K0 q = 24) (h0 : 0 ≤ i) (h1 : i < L0 q) (hx : I q i.toNat = x) (h : Run m pc' ls (vL x :: st) (mk e I D) Q) : Run m pc ls (vI i :: vR (some q) :: st) (mk e I D) Q :=
  R_lald hc hp hk h0 h1 (by subst hx; exact h)
theorem K_aald {m pc pc' : Nat} {ls st : List MV} {e : En} {I : HI} {D : HD} {Q : Res → MH → Prop} {a b d : Nat} {z : Int} {tb : List (Int × Nat)} {q : Nat} {i : Int} (hc : cod m pc = some (64, a, b, d, z, tb)) (hp : pc + 1 = pc') (hk : K0 q = 25) (h0 : 0 ≤ i) (h1 : i < L0 q) (hd : dyn q i.toNat = true) (h : Run m pc' ls (vR (some (D q i.toNat)) :: st) (mk e I D) Q) : Run m pc ls (vI i :: vR (some q) :: st) (mk e I D) Q :=
  R_aald hc hp hk h0 h1 (by rw [dy_at hd]; exact h)
theorem K_iast {m pc pc' : Nat} {ls st : List MV} {e : En} {I : HI} {D : HD} {Q : Res → MH → Prop} {a b d : Nat} {z : Int} {tb : List (Int × Nat)} {q : Nat} {i x : Int} (hc : cod m pc = some (59, a, b, d, z, tb)) (hp : pc + 1 = pc') (hk : K0 q = 21) (h0 : 0 ≤ i) (h1 : i < L0 q) (h : Run m pc' ls st (mk e (uI I q i.toNat x) D) Q) : Run m pc ls (vI x :: vI i :: vR (some q) :: st) (mk e I D) Q :=
  R_iast hc hp hk h0 h1 h
theorem K_bast {m pc pc' : Nat} {ls st : List MV} {e : En} {I : HI} {D : HD} {Q : Res → MH → Prop} {a b d : Nat} {z : Int} {tb : List (Int × Nat)} {q : Nat} {i x : Int} (hc : cod m pc = some (61, a, b, d, z, tb)) (hp : pc + 1 = pc') (hk : K0 q = 22) (h0 : 0 ≤ i) (h1 : i < L0 q) (h : Run m pc' ls st (mk e (uI I q i.toNat ((x + 128) % 256 - 128)) D) Q) : Run m pc ls (vI x :: vI i :: vR (some q) :: st) (mk e I D) Q :=
  R_bast hc hp hk h0 h1 h
theorem K_last {m pc pc' : Nat} {ls st : List MV} {e : En} {I : HI} {D : HD} {Q : Res → MH → Prop} {a b d : Nat} {z : Int} {tb : List (Int × Nat)} {q : Nat} {i x : Int} (hc : cod m pc = some (63, a, b, d, z, tb)) (hp : pc + 1 = pc') (hk : K0 q = 24) (h0 : 0 ≤ i) (h1 : i < L0 q) (h : Run m pc' ls st (mk e (uI I q i.toNat x) D) Q) : Run m pc ls (vL x :: vI i :: vR (some q) :: st) (mk e I D) Q :=
  R_last hc hp hk h0 h1 h
theorem K_zast {m pc pc' : Nat} {ls st : List MV} {e : En} {I : HI} {D : HD} {Q : Res → MH → Prop} {a b d : Nat} {z : Int} {tb : List (Int × Nat)} {q : Nat} {i x : Int} (hc : cod m pc = some (61, a, b, d, z, tb)) (hp : pc + 1 = pc') (hk : K0 q = 23) (h0 : 0 ≤ i) (h1 : i < L0 q) (hx : x = 0 ∨ x = 1) (h : Run m pc' ls st (mk e (uI I q i.toNat x) D) Q) : Run m pc ls (vI x :: vI i :: vR (some q) :: st) (mk e I D) Q :=
  R_zast hc hp hk h0 h1 hx h
theorem K_aast {m pc pc' : Nat} {ls st : List MV} {e : En} {I : HI} {D : HD} {Q : Res → MH → Prop} {a b d : Nat} {z : Int} {tb : List (Int × Nat)} {q v : Nat} {i : Int} (hc : cod m pc = some (65, a, b, d, z, tb)) (hp : pc + 1 = pc') (hk : K0 q = 25) (h0 : 0 ≤ i) (h1 : i < L0 q) (hd : dyn q i.toNat = true) (hv : K0 v = 3) (h : Run m pc' ls st (mk e I (uD D q i.toNat v)) Q) : Run m pc ls (vR (some v) :: vI i :: vR (some q) :: st) (mk e I D) Q :=
  R_aast hc hp hk h0 h1 hv (by rw [mk_sR hd]; exact h)
theorem K_alen {m pc pc' : Nat} {ls st : List MV} {e : En} {I : HI} {D : HD} {Q : Res → MH → Prop} {a b d : Nat} {z : Int} {tb : List (Int × Nat)} {q n : Nat} (hc : cod m pc = some (66, a, b, d, z, tb)) (hp : pc + 1 = pc') (t : Nat) (hk : K0 q = t + 21) (ht : t < 5) (hl : L0 q = n) (h : Run m pc' ls (vI (n : Int) :: st) (mk e I D) Q) : Run m pc ls (vR (some q) :: st) (mk e I D) Q :=
  R_alen hc hp t hk ht (by rw [hl]; exact h)
-- copy
theorem K_copy {m pc pc' : Nat} {ls st : List MV} {e : En} {I : HI} {D : HD} {Q : Res → MH → Prop} {a b d : Nat} {z : Int} {tb : List (Int × Nat)} {src dst : Nat} {sp dp n : Int} (hc : cod m pc = some (82, a, b, d, z, tb)) (hp : pc + 3 = pc') (hk1 : K0 src = 1 + 21) (hk2 : K0 dst = 1 + 21) (h0 : 0 ≤ sp) (h1 : 0 ≤ dp) (h2 : 0 ≤ n) (h3 : sp + n ≤ L0 src) (h4 : dp + n ≤ L0 dst) (hdp : 4 ≤ zdp m) (hr : vcs st ≤ 8) (h : Run m pc' ls st (mk e (cI I src sp.toNat dst dp.toNat n.toNat) D) Q) : Run m pc ls (vI n :: vI dp :: vR (some dst) :: vI sp :: vR (some src) :: st) (mk e I D) Q :=
  R_copy hc hp hk1 hk2 h0 h1 h2 h3 h4 hdp hr h
theorem KI_iv {m pc pc' : Nat} {ls stk rest as : List MV} {e : En} {I : HI} {D : HD} {Q : Res → MH → Prop} {a b d : Nat} {z : Int} {tb : List (Int × Nat)} {q : Nat} (hc : cod m pc = some (72, a, b, d, z, tb)) (hp : pc + 3 = pc') (ht : (ztb b).isEmpty = true) (hk : K0 q = zci b + 1) (hn : as.length = zna b) (hr : vcs rest ≤ 8) (hst : stk = as.reverse ++ vR (some q) :: rest) (h : CI b (vR (some q) :: as) e I D (fun z I D => Run m pc' ls (vI z :: rest) (mk e I D) Q)) : Run m pc ls stk (mk e I D) Q :=
  R_iv hc hp ht hk hn hr hst (Call_mono h fun r M1 q => by
    obtain ⟨z, I, D, rfl, rfl, h3⟩ := q
    exact ⟨_, rfl, h3⟩)
theorem KI_st {m pc pc' : Nat} {ls stk rest as : List MV} {e : En} {I : HI} {D : HD} {Q : Res → MH → Prop} {a b d : Nat} {z : Int} {tb : List (Int × Nat)} (hc : cod m pc = some (75, a, b, d, z, tb)) (hp : pc + 3 = pc') (hn : as.length = zna b) (hr : vcs rest ≤ 8) (hst : stk = as.reverse ++ rest) (h : CI b as e I D (fun z I D => Run m pc' ls (vI z :: rest) (mk e I D) Q)) : Run m pc ls stk (mk e I D) Q :=
  R_st hc hp hn hr hst (Call_mono h fun r M1 q => by
    obtain ⟨z, I, D, rfl, rfl, h3⟩ := q
    exact ⟨_, rfl, h3⟩)
theorem KI_stN {m pc pc' : Nat} {ls stk rest as : List MV} {e : En} {I : HI} {D : HD} {Q : Res → MH → Prop} {a b d : Nat} {z : Int} {tb : List (Int × Nat)} (hc : cod m pc = some (76, a, b, d, z, tb)) (hp : pc + 3 = pc') (ht : (ztb b).isEmpty = true) (hn : as.length = zna b) (hr : vcs rest ≤ 8) (hst : stk = as.reverse ++ rest) (h : CI b as e I D (fun z I D => Run m pc' ls (vI z :: rest) (mk e I D) Q)) : Run m pc ls stk (mk e I D) Q :=
  R_stN hc hp ht hn hr hst (Call_mono h fun r M1 q => by
    obtain ⟨z, I, D, rfl, rfl, h3⟩ := q
    exact ⟨_, rfl, h3⟩)
theorem KL_iv {m pc pc' : Nat} {ls stk rest as : List MV} {e : En} {I : HI} {D : HD} {Q : Res → MH → Prop} {a b d : Nat} {z : Int} {tb : List (Int × Nat)} {q : Nat} (hc : cod m pc = some (72, a, b, d, z, tb)) (hp : pc + 3 = pc') (ht : (ztb b).isEmpty = true) (hk : K0 q = zci b + 1) (hn : as.length = zna b) (hr : vcs rest ≤ 8) (hst : stk = as.reverse ++ vR (some q) :: rest) (h : CL b (vR (some q) :: as) e I D (fun z I D => Run m pc' ls (vL z :: rest) (mk e I D) Q)) : Run m pc ls stk (mk e I D) Q :=
  R_iv hc hp ht hk hn hr hst (Call_mono h fun r M1 q => by
    obtain ⟨z, I, D, rfl, rfl, h3⟩ := q
    exact ⟨_, rfl, h3⟩)
theorem KL_st {m pc pc' : Nat} {ls stk rest as : List MV} {e : En} {I : HI} {D : HD} {Q : Res → MH → Prop} {a b d : Nat} {z : Int} {tb : List (Int × Nat)} (hc : cod m pc = some (75, a, b, d, z, tb)) (hp : pc + 3 = pc') (hn : as.length = zna b) (hr : vcs rest ≤ 8) (hst : stk = as.reverse ++ rest) (h : CL b as e I D (fun z I D => Run m pc' ls (vL z :: rest) (mk e I D) Q)) : Run m pc ls stk (mk e I D) Q :=
  R_st hc hp hn hr hst (Call_mono h fun r M1 q => by
    obtain ⟨z, I, D, rfl, rfl, h3⟩ := q
    exact ⟨_, rfl, h3⟩)
theorem KL_stN {m pc pc' : Nat} {ls stk rest as : List MV} {e : En} {I : HI} {D : HD} {Q : Res → MH → Prop} {a b d : Nat} {z : Int} {tb : List (Int × Nat)} (hc : cod m pc = some (76, a, b, d, z, tb)) (hp : pc + 3 = pc') (ht : (ztb b).isEmpty = true) (hn : as.length = zna b) (hr : vcs rest ≤ 8) (hst : stk = as.reverse ++ rest) (h : CL b as e I D (fun z I D => Run m pc' ls (vL z :: rest) (mk e I D) Q)) : Run m pc ls stk (mk e I D) Q :=
  R_stN hc hp ht hn hr hst (Call_mono h fun r M1 q => by
    obtain ⟨z, I, D, rfl, rfl, h3⟩ := q
    exact ⟨_, rfl, h3⟩)
theorem KR_iv {m pc pc' : Nat} {ls stk rest as : List MV} {e : En} {I : HI} {D : HD} {Q : Res → MH → Prop} {a b d : Nat} {z : Int} {tb : List (Int × Nat)} {q : Nat} (hc : cod m pc = some (72, a, b, d, z, tb)) (hp : pc + 3 = pc') (ht : (ztb b).isEmpty = true) (hk : K0 q = zci b + 1) (hn : as.length = zna b) (hr : vcs rest ≤ 8) (hst : stk = as.reverse ++ vR (some q) :: rest) (h : CR b (vR (some q) :: as) e I D (fun z I D => Run m pc' ls (vR z :: rest) (mk e I D) Q)) : Run m pc ls stk (mk e I D) Q :=
  R_iv hc hp ht hk hn hr hst (Call_mono h fun r M1 q => by
    obtain ⟨z, I, D, rfl, rfl, h3⟩ := q
    exact ⟨_, rfl, h3⟩)
theorem KR_st {m pc pc' : Nat} {ls stk rest as : List MV} {e : En} {I : HI} {D : HD} {Q : Res → MH → Prop} {a b d : Nat} {z : Int} {tb : List (Int × Nat)} (hc : cod m pc = some (75, a, b, d, z, tb)) (hp : pc + 3 = pc') (hn : as.length = zna b) (hr : vcs rest ≤ 8) (hst : stk = as.reverse ++ rest) (h : CR b as e I D (fun z I D => Run m pc' ls (vR z :: rest) (mk e I D) Q)) : Run m pc ls stk (mk e I D) Q :=
  R_st hc hp hn hr hst (Call_mono h fun r M1 q => by
    obtain ⟨z, I, D, rfl, rfl, h3⟩ := q
    exact ⟨_, rfl, h3⟩)
theorem KR_stN {m pc pc' : Nat} {ls stk rest as : List MV} {e : En} {I : HI} {D : HD} {Q : Res → MH → Prop} {a b d : Nat} {z : Int} {tb : List (Int × Nat)} (hc : cod m pc = some (76, a, b, d, z, tb)) (hp : pc + 3 = pc') (ht : (ztb b).isEmpty = true) (hn : as.length = zna b) (hr : vcs rest ≤ 8) (hst : stk = as.reverse ++ rest) (h : CR b as e I D (fun z I D => Run m pc' ls (vR z :: rest) (mk e I D) Q)) : Run m pc ls stk (mk e I D) Q :=
  R_stN hc hp ht hn hr hst (Call_mono h fun r M1 q => by
    obtain ⟨z, I, D, rfl, rfl, h3⟩ := q
    exact ⟨_, rfl, h3⟩)
theorem KV_iv {m pc pc' : Nat} {ls stk rest as : List MV} {e : En} {I : HI} {D : HD} {Q : Res → MH → Prop} {a b d : Nat} {z : Int} {tb : List (Int × Nat)} {q : Nat} (hc : cod m pc = some (72, a, b, d, z, tb)) (hp : pc + 3 = pc') (ht : (ztb b).isEmpty = true) (hk : K0 q = zci b + 1) (hn : as.length = zna b) (hr : vcs rest ≤ 8) (hst : stk = as.reverse ++ vR (some q) :: rest) (h : CV b (vR (some q) :: as) e I D (fun I D => Run m pc' ls rest (mk e I D) Q)) : Run m pc ls stk (mk e I D) Q :=
  R_iv hc hp ht hk hn hr hst (Call_mono h fun r M1 q => by
    obtain ⟨I, D, rfl, rfl, h3⟩ := q
    exact ⟨_, rfl, h3⟩)
theorem KV_is {m pc pc' : Nat} {ls stk rest as : List MV} {e : En} {I : HI} {D : HD} {Q : Res → MH → Prop} {a b d : Nat} {z : Int} {tb : List (Int × Nat)} {q : Nat} (hc : cod m pc = some (73, a, b, d, z, tb)) (hp : pc + 3 = pc') (ht : (ztb b).isEmpty = true) (hv : zrt b = none) (hn : as.length = zna b) (hr : vcs rest ≤ 8) (hst : stk = as.reverse ++ vR (some q) :: rest) (h : CV b (vR (some q) :: as) e I D (fun I D => Run m pc' ls rest (mk e I D) Q)) : Run m pc ls stk (mk e I D) Q :=
  R_is hc hp ht hv hn hr hst (Call_mono h fun r M1 q => by
    obtain ⟨I, D, rfl, rfl, h3⟩ := q
    exact ⟨_, rfl, h3⟩)
theorem KV_isN {m pc pc' : Nat} {ls stk rest as : List MV} {e : En} {I : HI} {D : HD} {Q : Res → MH → Prop} {a b d : Nat} {z : Int} {tb : List (Int × Nat)} {q : Nat} (hc : cod m pc = some (74, a, b, d, z, tb)) (hp : pc + 3 = pc') (ht : (ztb b).isEmpty = true) (hv : zrt b = none) (hn : as.length = zna b) (hr : vcs rest ≤ 8) (hst : stk = as.reverse ++ vR (some q) :: rest) (h : CV b (vR (some q) :: as) e I D (fun I D => Run m pc' ls rest (mk e I D) Q)) : Run m pc ls stk (mk e I D) Q :=
  R_isN hc hp ht hv hn hr hst (Call_mono h fun r M1 q => by
    obtain ⟨I, D, rfl, rfl, h3⟩ := q
    exact ⟨_, rfl, h3⟩)
theorem KV_st {m pc pc' : Nat} {ls stk rest as : List MV} {e : En} {I : HI} {D : HD} {Q : Res → MH → Prop} {a b d : Nat} {z : Int} {tb : List (Int × Nat)} (hc : cod m pc = some (75, a, b, d, z, tb)) (hp : pc + 3 = pc') (hn : as.length = zna b) (hr : vcs rest ≤ 8) (hst : stk = as.reverse ++ rest) (h : CV b as e I D (fun I D => Run m pc' ls rest (mk e I D) Q)) : Run m pc ls stk (mk e I D) Q :=
  R_st hc hp hn hr hst (Call_mono h fun r M1 q => by
    obtain ⟨I, D, rfl, rfl, h3⟩ := q
    exact ⟨_, rfl, h3⟩)
theorem KV_stN {m pc pc' : Nat} {ls stk rest as : List MV} {e : En} {I : HI} {D : HD} {Q : Res → MH → Prop} {a b d : Nat} {z : Int} {tb : List (Int × Nat)} (hc : cod m pc = some (76, a, b, d, z, tb)) (hp : pc + 3 = pc') (ht : (ztb b).isEmpty = true) (hn : as.length = zna b) (hr : vcs rest ≤ 8) (hst : stk = as.reverse ++ rest) (h : CV b as e I D (fun I D => Run m pc' ls rest (mk e I D) Q)) : Run m pc ls stk (mk e I D) Q :=
  R_stN hc hp ht hn hr hst (Call_mono h fun r M1 q => by
    obtain ⟨I, D, rfl, rfl, h3⟩ := q
    exact ⟨_, rfl, h3⟩)
