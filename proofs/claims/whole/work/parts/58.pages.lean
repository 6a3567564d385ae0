/-! PageList: the pages in their order -/
def kidL (g : Int → Int) (n : Int) (f : FR) : List Int := (((dRs g n f).drop (dfF g n 0 (dPr g n f) 8).toNat).take ((dfF g n 0 (dPr g n f) 9).toNat - (dfF g n 0 (dPr g n f) 8).toNat)).map fun r => r.2.2
def wkN (g : Int → Int) (n : Int) (fo : Nat → Option FR) : Nat → List Int → (Nat → Bool) → List Int → List Int
  | 0, _, _, pg => pg
  | _ + 1, [], _, pg => pg
  | k + 1, x :: st, sn, pg => match obO fo x with
    | none => wkN g n fo k st sn pg
    | some f => if sn x.toNat = true then wkN g n fo k st sn pg
      else if kdF g n f = 3 then wkN g n fo k st (fun i => if i = x.toNat then true else sn i) (pg ++ [x])
      else if kdF g n f = 2 then wkN g n fo k (kidL g n f ++ st) (fun i => if i = x.toNat then true else sn i) pg
      else wkN g n fo k st (fun i => if i = x.toNat then true else sn i) pg
def kdN (g : Int → Int) (n : Int) : Option FR → Nat
  | some f => (kidL g n f).length
  | none => 0
/-- the kids of those not seen yet -/
def usK (g : Int → Int) (n : Int) (fo : Nat → Option FR) (sn : Nat → Bool) : Nat := ((List.range 61).map fun i => if sn i = true then 0 else kdN g n (fo i)).sum
def usN (sn : Nat → Bool) : Nat := ((List.range 61).map fun i => if sn i = true then 0 else 1).sum
theorem sum_up {sn : Nat → Bool} {w : Nat → Nat} {i : Nat} (hi : i < 61) (hs : sn i = false) : ((List.range 61).map fun j => if (if j = i then true else sn j) = true then 0 else w j).sum + w i = ((List.range 61).map fun j => if sn j = true then 0 else w j).sum := by
  have gen : ∀ N : Nat, ((List.range N).map fun j => if (if j = i then true else sn j) = true then 0 else w j).sum + (if i < N then w i else 0) = ((List.range N).map fun j => if sn j = true then 0 else w j).sum := by
    intro N
    induction N with
    | zero => simp
    | succ N ih =>
      rw [List.range_succ, List.map_append, List.map_append, List.sum_append, List.sum_append]
      simp only [List.map_cons, List.map_nil, List.sum_cons, List.sum_nil, Nat.add_zero]
      by_cases c : N = i
      · subst c
        rw [if_neg (Nat.lt_irrefl _)] at ih
        rw [if_pos rfl, if_pos rfl, if_pos (Nat.lt_succ_self _), hs, if_neg (by decide)]
        omega
      · rw [if_neg c]
        by_cases d : i < N
        · rw [if_pos d] at ih; rw [if_pos (show i < N + 1 by omega)]; omega
        · rw [if_neg d] at ih; rw [if_neg (show ¬ i < N + 1 by omega)]; omega
  have := gen 61
  rw [if_pos hi] at this
  exact this
theorem sum_zero_iff {l : List Nat} (h : l.sum = 0) : ∀ x ∈ l, x = 0 := by
  induction l with
  | nil => intro x hx; cases hx
  | cons a t ih =>
    intro x hx
    rw [List.sum_cons] at h
    rcases List.mem_cons.mp hx with rfl | hx
    · omega
    · exact ih (by omega) x hx
section
variable {g : Int → Int} {n : Int}
theorem usK_0 {fo : Nat → Option FR} : usK g n fo (fun _ => false) ≤ tot g n fo := by
  unfold usK tot
  have gen : ∀ N : Nat, ((List.range N).map fun i => if (fun _ : Nat => false) i = true then 0 else kdN g n (fo i)).sum ≤ ((List.range N).map fun i => rfN g n (fo i)).sum := by
    intro N
    induction N with
    | zero => simp
    | succ N ih =>
      rw [List.range_succ, List.map_append, List.map_append, List.sum_append, List.sum_append]
      refine Nat.add_le_add ih ?_
      simp only [List.map_cons, List.map_nil, List.sum_cons, List.sum_nil, Nat.add_zero]
      rw [if_neg (by decide)]
      cases fo N with
      | none => exact Nat.zero_le _
      | some f =>
        show (kidL g n f).length ≤ (dRs g n f).length
        unfold kidL
        rw [List.length_map, List.length_take, List.length_drop]
        omega
  exact gen 61
/-- more steps than are needed change nothing -/
theorem wkN_fuel {fo : Nat → Option FR} (k : Nat) : ∀ (st : List Int) (sn : Nat → Bool) (pg : List Int) (k2 : Nat), st.length + usK g n fo sn ≤ k → k ≤ k2 → wkN g n fo k2 st sn pg = wkN g n fo k st sn pg := by
  induction k with
  | zero =>
    intro st sn pg k2 h h2
    have : st = [] := List.length_eq_zero_iff.mp (by omega)
    subst this
    cases k2 <;> rfl
  | succ k ih =>
    intro st sn pg k2 h h2
    cases k2 with
    | zero => omega
    | succ k2 =>
      cases st with
      | nil => rfl
      | cons x st =>
        rw [List.length_cons] at h
        unfold wkN
        cases ho : obO fo x with
        | none => exact ih st sn pg k2 (by omega) (by omega)
        | some f =>
          dsimp only
          have hx : (1 ≤ x ∧ x < 61) ∧ fo x.toNat = some f := by
            unfold obO at ho
            split at ho
            · exact ⟨by assumption, ho⟩
            · cases ho
          cases hs : sn x.toNat with
          | true => rw [if_pos rfl, if_pos rfl]; exact ih st sn pg k2 (by omega) (by omega)
          | false =>
            have su := sum_up (sn := sn) (w := fun i => kdN g n (fo i)) (i := x.toNat) (by omega) hs
            have su : usK g n fo (fun i => if i = x.toNat then true else sn i) + (kidL g n f).length = usK g n fo sn := by
              have e1 : kdN g n (fo x.toNat) = (kidL g n f).length := by rw [hx.2]; rfl
              rw [← e1]; exact su
            simp only [Bool.false_eq_true, if_false]
            by_cases c3 : kdF g n f = 3
            · simp only [if_pos c3]
              exact ih st _ _ k2 (by omega) (by omega)
            · simp only [if_neg c3]
              by_cases c2 : kdF g n f = 2
              · simp only [if_pos c2]
                exact ih _ _ _ k2 (by rw [List.length_append]; omega) (by omega)
              · simp only [if_neg c2]
                exact ih st _ _ k2 (by omega) (by omega)
end
/-- the rows of kids that are still to be gone along, the last entered first -/
def lvS (rs : RfL) : List (Nat × Nat) → List Int
  | [] => []
  | (a, b) :: t => ((rs.drop a).take (b - a)).map (fun r => r.2.2) ++ lvS rs t
def LvM (A : Nat) (I : HI) (rs : RfL) : List (Nat × Nat) → Prop
  | [] => True
  | (a, b) :: t => I (A + 149) t.length = (a : Int) ∧ I (A + 150) t.length = (b : Int) ∧ a ≤ b ∧ b ≤ rs.length ∧ LvM A I rs t
theorem LvM.fr {A : Nat} {I I' : HI} {rs : RfL} {L : List (Nat × Nat)} (h : LvM A I rs L) (hf : ∀ j, j < L.length → I' (A + 149) j = I (A + 149) j ∧ I' (A + 150) j = I (A + 150) j) : LvM A I' rs L := by
  induction L with
  | nil => trivial
  | cons x t ih =>
    obtain ⟨a, b⟩ := x
    obtain ⟨h1, h2, h3, h4, h5⟩ := h
    have q := hf t.length (by rw [List.length_cons]; omega)
    exact ⟨by rw [q.1]; exact h1, by rw [q.2]; exact h2, h3, h4, ih h5 fun j hj => hf j (by rw [List.length_cons]; omega)⟩
/-- the memory of the page list -/
def PgM (A : Nat) (I : HI) (pg : List Int) : Prop := I (A + 146) 1 = pg.length ∧ ∀ (i : Nat) (x : Int), pg[i]? = some x → I (A + 147) i = x
def WkM (A : Nat) (I : HI) (rs : RfL) (L : List (Nat × Nat)) (sn : Nat → Bool) (pg : List Int) : Prop := PgM A I pg ∧ (∀ i, i < 61 → I (A + 148) i = b2i (sn i)) ∧ I (A + 146) 5 = L.length ∧ LvM A I rs L
def pgS (A a _k : Nat) : Prop := A + 146 ≤ a ∧ a ≤ A + 150
section
variable {e : En} {g : Int → Int} {n : Int} {A : Nat} {I : HI} {D : HD}
theorem CS.pg {I' : HI} {s : SC} {rs ls : RfL} (hC : CS g n A I D s rs ls) (hf : Fr (pgS A) I I') : CS g n A I' D s rs ls := by
  obtain ⟨⟨m1, m2, m3, m4⟩, ⟨v2, v11, v12, v13, v14⟩, hP, hO⟩ := hC
  have no : ∀ a k, a < A + 146 → ¬ pgS A a k := fun a k q w => by unfold pgS at w; omega
  refine ⟨⟨m1.fr hf (fun a k q1 q2 => no a k (by omega)), m2.fr hf (fun a k q1 q2 => no a k (by omega)), m3.fr hf (fun a k q1 q2 => no a k (by omega)), m4.fr hf (fun a k q1 q2 => no a k (by omega))⟩, ⟨by rw [hf _ _ (no _ _ (by omega))]; exact v2, by rw [hf _ _ (no _ _ (by omega))]; exact v11, by rw [hf _ _ (no _ _ (by omega))]; exact v12, by rw [hf _ _ (no _ _ (by omega))]; exact v13, by rw [hf _ _ (no _ _ (by omega))]; exact v14⟩, hP, fun i hi => ?_⟩
  have pi := hP.1 i hi
  exact (hO i hi).fr hf (fun k => no _ _ (by omega)) (fun k => no _ _ (by omega))
theorem c22 (he : HS e) (hA : isA A) {pg : List Int} (hM : PgM A I pg) (hl : pg.length < 61) {x : Int} {Q : HI → HD → Prop} (hQ : ∀ I', Fr (fun a k => (a = A + 146 ∧ k = 1) ∨ a = A + 147) I I' → PgM A I' (pg ++ [x]) → Q I' D) : CV 22 [vR (some (A + 146)), vI x] e I D Q := by
  refine S22 he hA ?_
  rw [hM.1]
  refine ⟨fun q => by omega, fun _ => ⟨fun q => by omega, fun _ => ⟨⟨by omega, by omega⟩, ?_⟩⟩⟩
  rw [uI_ne (by omega), hM.1, Int.toNat_natCast]
  refine ⟨⟨by omega, by omega⟩, hQ _ ((Fr.u (S := fun a k => (a = A + 146 ∧ k = 1) ∨ a = A + 147) (Or.inr rfl)).trans (Fr.u (Or.inl ⟨rfl, rfl⟩))) ⟨?_, fun i y hy => ?_⟩⟩
  · rw [uI_eq, List.length_append]; rfl
  · rw [uI_ne (by omega)]
    rcases Nat.lt_or_ge i pg.length with q | q
    · rw [List.getElem?_append_left q] at hy
      rw [uI_ne (by omega)]; exact hM.2 i y hy
    · rw [List.getElem?_append_right q] at hy
      have : i = pg.length := by
        rcases Nat.eq_or_lt_of_le q with w | w
        · exact w.symm
        · rw [List.getElem?_eq_none (by simp; omega)] at hy; cases hy
      subst this
      rw [Nat.sub_self] at hy
      cases hy
      exact uI_eq
theorem c17_12 (he : HS e) (hA : isA A) {Q : HI → HD → Prop} (k : Nat) : ∀ (x : Int) (I : HI), 0 ≤ x → x ≤ 61 → (61 - x).toNat = k → (∀ i, i < x.toNat → I (A + 148) i = 0) → (∀ J, Fr (fun a _ => a = A + 148) I J → (∀ i, i < 61 → J (A + 148) i = 0) → Q J D) → RV 17 12 [vR (some (A + 146)), vI x] [] e I D Q := by
  induction k with
  | zero =>
    intro x I h0 h1 hk hz hQ
    exact S17_12 he hA ⟨fun _ => hQ I Fr.refl (fun i hi => hz i (by omega)), fun q => by omega⟩
  | succ k ih =>
    intro x I h0 h1 hk hz hQ
    refine S17_12 he hA ⟨fun q => by omega, fun _ => ⟨⟨h0, by omega⟩, ⟨by omega, by omega⟩, ih (x + 1) _ (by omega) (by omega) (by omega) (fun i hi => ?_) (fun J f1 z1 => hQ J ((Fr.u (S := fun a _ => a = A + 148) rfl).trans f1) z1)⟩⟩
    by_cases c : i = x.toNat
    · rw [c, uI_eq]
    · rw [uI_ne (by omega)]; exact hz i (by omega)
theorem c17 (he : HS e) (hA : isA A) {rs : RfL} {Q : HI → HD → Prop} (hQ : ∀ I', Fr (pgS A) I I' → WkM A I' rs [] (fun _ => false) [] → Q I' D) : CV 17 [vR (some (A + 146))] e I D Q := by
  refine S17 he hA (c17_12 he hA 61 0 _ (Int.le_refl _) (by omega) rfl (fun i hi => by omega) fun J f1 z1 => hQ J ?_ ⟨⟨?_, fun i x hx => by cases hx⟩, fun i hi => z1 i hi, ?_, trivial⟩)
  · exact ((Fr.u (S := pgS A) ⟨Nat.le_refl _, by omega⟩).trans (Fr.u (S := pgS A) ⟨Nat.le_refl _, by omega⟩)).trans (f1.mono fun a k q => by unfold pgS; omega)
  · rw [f1 _ _ (by omega), uI_ne (by omega), uI_eq]; rfl
  · rw [f1 _ _ (by omega), uI_eq]; rfl
theorem c18 (he : HS e) (hA : isA A) {pg : List Int} (hM : PgM A I pg) (hl : pg.length ≤ 61) {i : Nat} {x : Int} (hx : pg[i]? = some x) {Q : Int → HI → HD → Prop} (hQ : Q x I D) : CI 18 [vR (some (A + 146)), vI (i : Int)] e I D Q := by
  have hi := (List.getElem?_eq_some_iff.mp hx).1
  refine S18 he hA ⟨fun q => by omega, fun _ => ?_⟩
  rw [hM.1]
  refine ⟨fun q => by omega, fun _ => ⟨fun q => by omega, fun _ => ⟨⟨by omega, by omega⟩, ?_⟩⟩⟩
  rw [Int.toNat_natCast, hM.2 i x hx]; exact hQ
end
