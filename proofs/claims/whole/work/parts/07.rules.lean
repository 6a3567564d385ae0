/-! rules of the mini machine: one instruction each, out of the kit's rows -/
theorem i32t {z : Int} (h : r32 z) : (Int32.ofInt z).toInt = z := by
  obtain ⟨h1, h2⟩ := h
  exact Int32.toInt_ofInt_of_le (by omega) (by omega)
theorem i64t {z : Int} (h : r64 z) : (Int64.ofInt z).toInt = z := by
  obtain ⟨h1, h2⟩ := h
  exact Int64.toInt_ofInt_of_le (by omega) (by omega)
theorem i32lt {x y : Int} (hx : r32 x) (hy : r32 y) : Int32.ofInt x < Int32.ofInt y ↔ x < y := by rw [Int32.lt_iff_toInt_lt, i32t hx, i32t hy]
theorem i32le {x y : Int} (hx : r32 x) (hy : r32 y) : Int32.ofInt x ≤ Int32.ofInt y ↔ x ≤ y := by rw [Int32.le_iff_toInt_le, i32t hx, i32t hy]
theorem i32eq {x y : Int} (hx : r32 x) (hy : r32 y) : Int32.ofInt x = Int32.ofInt y ↔ x = y := by rw [← Int32.toInt_inj, i32t hx, i32t hy]
theorem i64lt {x y : Int} (hx : r64 x) (hy : r64 y) : Int64.ofInt x < Int64.ofInt y ↔ x < y := by rw [Int64.lt_iff_toInt_lt, i64t hx, i64t hy]
theorem i64eq {x y : Int} (hx : r64 x) (hy : r64 y) : Int64.ofInt x = Int64.ofInt y ↔ x = y := by rw [← Int64.toInt_inj, i64t hx, i64t hy]
theorem r32_0 : r32 0 := by constructor <;> decide
theorem i32clamp {z : Int} (h : r32 z) : (Int32.ofInt z).toNatClampNeg = z.toNat := by
  show (Int32.ofInt z).toInt.toNat = z.toNat
  rw [i32t h]
theorem i32neg {z : Int} (h : r32 z) : Int32.ofInt z < 0 ↔ z < 0 := by
  have := i32lt h r32_0
  exact this
theorem i32z {z : Int} (h : r32 z) : Int32.ofInt z = 0 ↔ z = 0 := by
  have := i32eq h r32_0
  exact this
theorem lget {Z : EP} {top n i : Nat} {ls : List MV} {lr : Array Slot} {v : MV} (h : lrel Z top n ls lr) (hi : ls[i]? = some v) (hv : v ≠ vJ) : ∃ w, lr[i]? = some (.val w) ∧ vrel Z top v w := (h.2.2.2 i v hi).resolve_left hv
def lvAll (lr : Array Slot) (n : Nat) : List (Nat × Value) := (List.range n).filterMap (fun j => match (lr[j]? : Option Slot) with
  | some (Slot.val w) => some (j, w)
  | _ => none)
theorem lvAll_has {Z : EP} {top n : Nat} {ls : List MV} {lr : Array Slot} (h : lrel Z top n ls lr) : lv_has lr n (lvAll lr n) := by
  refine ⟨h.1, h.2.1, fun q hq => ?_⟩
  obtain ⟨j, hj, e⟩ := List.mem_filterMap.mp hq
  split at e
  · rename_i w hw
    cases e
    exact hw
  · cases e
theorem lvAll_mem {lr : Array Slot} {n j : Nat} {w : Value} (hj : j < n) (h : lr[j]? = some (.val w)) : (j, w) ∈ lvAll lr n :=
  List.mem_filterMap.mpr ⟨j, List.mem_range.mpr hj, by rw [h]⟩
def isLg : Option MV → Bool
  | some (.inr (.inl _)) => true
  | _ => false
def stL1 (ls : List MV) (i : Nat) (v : MV) : Option (List MV) :=
  if i < ls.length then (match i with
    | 0 => some (ls.set 0 v)
    | j + 1 => if isLg ls[j]? then some ((ls.set j vJ).set (j + 1) v) else some (ls.set (j + 1) v)) else none
def stL2 (ls : List MV) (i : Nat) (v : MV) : Option (List MV) :=
  if i + 1 < ls.length then (match i with
    | 0 => some ((ls.set 0 v).set 1 vJ)
    | j + 1 => if isLg ls[j]? then some (((ls.set j vJ).set (j + 1) v).set (j + 2) vJ) else some ((ls.set (j + 1) v).set (j + 2) vJ)) else none
/-- what a store leaves: for each place its value, the old one, or nothing -/
theorem stL1_spec {ls ls' : List MV} {i : Nat} {v : MV} (h : stL1 ls i v = some ls') : i < ls.length ∧ ls'.length = ls.length ∧ ∀ (j : Nat) (u : MV), ls'[j]? = some u → u = vJ ∨ (j = i ∧ u = v) ∨ (j ≠ i ∧ ls[j]? = some u ∧ ¬ (j + 1 = i ∧ isLg (some u) = true)) := by
  unfold stL1 at h
  split at h
  · rename_i hi
    refine ⟨hi, ?_⟩
    cases i with
    | zero =>
      cases h
      refine ⟨by simp, fun j u hj => ?_⟩
      rw [List.getElem?_set] at hj
      by_cases e : 0 = j
      · subst e
        simp [hi] at hj
        exact Or.inr (Or.inl ⟨rfl, hj.symm⟩)
      · rw [if_neg e] at hj
        exact Or.inr (Or.inr ⟨fun q => e q.symm, hj, fun q => by omega⟩)
    | succ k =>
      dsimp only at h
      split at h
      · rename_i hlg
        cases h
        refine ⟨by simp, fun j u hj => ?_⟩
        rw [List.getElem?_set] at hj
        by_cases e : k + 1 = j
        · subst e
          simp [hi] at hj
          exact Or.inr (Or.inl ⟨rfl, hj.symm⟩)
        · rw [if_neg e, List.getElem?_set] at hj
          by_cases e2 : k = j
          · subst e2
            have : k < ls.length := by omega
            simp [this] at hj
            exact Or.inl hj.symm
          · rw [if_neg e2] at hj
            exact Or.inr (Or.inr ⟨fun q => e q.symm, hj, fun q => by omega⟩)
      · rename_i hlg
        cases h
        refine ⟨by simp, fun j u hj => ?_⟩
        rw [List.getElem?_set] at hj
        by_cases e : k + 1 = j
        · subst e
          simp [hi] at hj
          exact Or.inr (Or.inl ⟨rfl, hj.symm⟩)
        · rw [if_neg e] at hj
          refine Or.inr (Or.inr ⟨fun q => e q.symm, hj, fun q => ?_⟩)
          have : j = k := by omega
          subst this
          rw [hj] at hlg
          exact hlg q.2
  · cases h
theorem stL2_spec {ls ls' : List MV} {i : Nat} {v : MV} (h : stL2 ls i v = some ls') : i + 1 < ls.length ∧ ls'.length = ls.length ∧ ∀ (j : Nat) (u : MV), ls'[j]? = some u → u = vJ ∨ (j = i ∧ u = v) ∨ (j ≠ i ∧ j ≠ i + 1 ∧ ls[j]? = some u ∧ ¬ (j + 1 = i ∧ isLg (some u) = true)) := by
  unfold stL2 at h
  split at h
  · rename_i hi
    refine ⟨hi, ?_⟩
    cases i with
    | zero =>
      cases h
      refine ⟨by simp, fun j u hj => ?_⟩
      rw [List.getElem?_set] at hj
      by_cases e1 : 1 = j
      · subst e1
        simp at hj
        exact Or.inl hj.2.symm
      · rw [if_neg e1, List.getElem?_set] at hj
        by_cases e : 0 = j
        · subst e
          simp at hj
          exact Or.inr (Or.inl ⟨rfl, hj.2.symm⟩)
        · rw [if_neg e] at hj
          exact Or.inr (Or.inr ⟨fun q => e q.symm, fun q => e1 q.symm, hj, fun q => by omega⟩)
    | succ k =>
      dsimp only at h
      split at h
      · rename_i hlg
        cases h
        refine ⟨by simp, fun j u hj => ?_⟩
        rw [List.getElem?_set] at hj
        by_cases e1 : k + 2 = j
        · subst e1
          simp at hj
          exact Or.inl hj.2.symm
        · rw [if_neg e1, List.getElem?_set] at hj
          by_cases e : k + 1 = j
          · subst e
            simp at hj
            exact Or.inr (Or.inl ⟨rfl, hj.2.symm⟩)
          · rw [if_neg e, List.getElem?_set] at hj
            by_cases e2 : k = j
            · subst e2
              simp at hj
              exact Or.inl hj.2.symm
            · rw [if_neg e2] at hj
              exact Or.inr (Or.inr ⟨fun q => e q.symm, fun q => e1 q.symm, hj, fun q => by omega⟩)
      · rename_i hlg
        cases h
        refine ⟨by simp, fun j u hj => ?_⟩
        rw [List.getElem?_set] at hj
        by_cases e1 : k + 2 = j
        · subst e1
          simp at hj
          exact Or.inl hj.2.symm
        · rw [if_neg e1, List.getElem?_set] at hj
          by_cases e : k + 1 = j
          · subst e
            simp at hj
            exact Or.inr (Or.inl ⟨rfl, hj.2.symm⟩)
          · rw [if_neg e] at hj
            refine Or.inr (Or.inr ⟨fun q => e q.symm, fun q => e1 q.symm, hj, fun q => ?_⟩)
            have : j = k := by omega
            subst this
            rw [hj] at hlg
            exact hlg q.2
  · cases h
theorem vrel_lg {Z : EP} {top : Nat} {v : MV} {w : Value} (h : vrel Z top v w) (hc : w.category = 2) : isLg (some v) = true := by
  match v, h with
  | .inl z, h => rw [h.1] at hc; simp [Value.category] at hc
  | .inr (.inl z), _ => rfl
  | .inr (.inr (.inl none)), h => rw [h.1] at hc; simp [zrv, Value.category] at hc
  | .inr (.inr (.inl (some q))), h => rw [h.1] at hc; simp [zrv, Value.category] at hc
  | .inr (.inr (.inr (.inl k))), h => rcases h with ⟨-, h⟩ | ⟨-, h⟩ <;> (rw [h] at hc; simp [Value.category] at hc)
  | .inr (.inr (.inr (.inr _))), h => obtain ⟨a, h⟩ := h; rw [h] at hc; simp [Value.category] at hc
theorem lst1 {Z : EP} {top n i : Nat} {ls ls' : List MV} {lr lr' : Array Slot} {v : MV} {w : Value} (h : lrel Z top n ls lr) (hs : stL1 ls i v = some ls') (hv : v ≠ vJ → vrel Z top v w)
    (h' : lv_has lr' n ((i, w) :: (lvAll lr n).filter (fun q => !(q.1 == i) && !(q.1 + 1 == i && q.2.category == 2)))) : lrel Z top n ls' lr' := by
  obtain ⟨hi, hlen, hg⟩ := stL1_spec hs
  obtain ⟨a1, a2, a3, a4⟩ := h
  refine ⟨h'.1, h'.2.1, by omega, fun j u hj => ?_⟩
  rcases hg j u hj with e | ⟨rfl, rfl⟩ | ⟨hne, hold, hlg⟩
  · exact Or.inl e
  · by_cases e : u = vJ
    · exact Or.inl e
    · exact Or.inr ⟨w, h'.2.2 (j, w) List.mem_cons_self, hv e⟩
  · rcases a4 j u hold with e | ⟨w', e1, e2⟩
    · exact Or.inl e
    · refine Or.inr ⟨w', h'.2.2 (j, w') (List.mem_cons_of_mem _ (List.mem_filter.mpr ⟨lvAll_mem ?_ e1, ?_⟩)), e2⟩
      · have := (Array.getElem?_eq_some_iff.mp e1).1
        omega
      · simp only [Bool.and_eq_true, Bool.not_eq_true', beq_eq_false_iff_ne, ne_eq, Bool.and_eq_false_iff]
        refine ⟨hne, ?_⟩
        by_cases c : j + 1 = i
        · refine Or.inr fun c2 => hlg ⟨c, vrel_lg e2 c2⟩
        · exact Or.inl c
theorem lst2 {Z : EP} {top n i : Nat} {ls ls' : List MV} {lr lr' : Array Slot} {v : MV} {w : Value} (h : lrel Z top n ls lr) (hs : stL2 ls i v = some ls') (hv : vrel Z top v w)
    (h' : lv_has lr' n ((i, w) :: (lvAll lr n).filter (fun q => !(q.1 == i) && (!(q.1 == i + 1) && !(q.1 + 1 == i && q.2.category == 2))))) : lrel Z top n ls' lr' := by
  obtain ⟨hi, hlen, hg⟩ := stL2_spec hs
  obtain ⟨a1, a2, a3, a4⟩ := h
  refine ⟨h'.1, h'.2.1, by omega, fun j u hj => ?_⟩
  rcases hg j u hj with e | ⟨rfl, rfl⟩ | ⟨hne, hne2, hold, hlg⟩
  · exact Or.inl e
  · exact Or.inr ⟨w, h'.2.2 (j, w) List.mem_cons_self, hv⟩
  · rcases a4 j u hold with e | ⟨w', e1, e2⟩
    · exact Or.inl e
    · refine Or.inr ⟨w', h'.2.2 (j, w') (List.mem_cons_of_mem _ (List.mem_filter.mpr ⟨lvAll_mem ?_ e1, ?_⟩)), e2⟩
      · have := (Array.getElem?_eq_some_iff.mp e1).1
        omega
      · simp only [Bool.and_eq_true, Bool.not_eq_true', beq_eq_false_iff_ne, ne_eq, Bool.and_eq_false_iff]
        refine ⟨hne, hne2, ?_⟩
        by_cases c : j + 1 = i
        · refine Or.inr fun c2 => hlg ⟨c, vrel_lg e2 c2⟩
        · exact Or.inl c
