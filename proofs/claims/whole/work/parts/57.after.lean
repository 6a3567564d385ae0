/-! what comes behind the scan: objects asked for, references to nothing, the catalogue -/
def dPr (g : Int → Int) (n : Int) (f : FR) : PrL := (dR g n (skp g n f.2.1)).2.2.1
def dRs (g : Int → Int) (n : Int) (f : FR) : RfL := (dR g n (skp g n f.2.1)).2.2.2
def obO (fo : Nat → Option FR) (x : Int) : Option FR := if 1 ≤ x ∧ x < 61 then fo x.toNat else none
def kdF (g : Int → Int) (n : Int) (f : FR) : Int := dfF g n 0 (dPr g n f) 3
def kdO (g : Int → Int) (n : Int) : Option FR → Int
  | some f => kdF g n f
  | none => 0
def pgR (g : Int → Int) (n : Int) (f : FR) : Int := dfF g n 0 (dPr g n f) 4
def m5P (fo : Nat → Option FR) (f : FR) (r : Int × Int × Int) : Option (Int × Int × Int) := if (obO fo r.2.2).isNone = true then some (f.1, f.1, 5) else none
def m5N (g : Int → Int) (n : Int) (fo : Nat → Option FR) : Nat → RfL
  | 0 => []
  | k + 1 => m5N g n fo k ++ (match fo (k + 1) with | some f => (dRs g n f).filterMap (m5P fo f) | none => [])
def lcN (g : Int → Int) (n : Int) (fo : Nat → Option FR) (wp : Bool) : Nat → Int × Int
  | 0 => (0, -1)
  | k + 1 => match fo (k + 1) with
    | some f => if kdF g n f = 1 ∧ (lcN g n fo wp k).2 ≤ f.1 ∧ (wp = true → kdO g n (obO fo (pgR g n f)) = 2) then (((k + 1 : Nat) : Int), f.1) else lcN g n fo wp k
    | none => lcN g n fo wp k
def caF (g : Int → Int) (n : Int) (s : SC) : Int :=
  if kdO g n (obO s.1 s.2.2.2.1) = 1 then s.2.2.2.1 else if 0 < (lcN g n s.1 true 60).1 then (lcN g n s.1 true 60).1 else (lcN g n s.1 false 60).1
def caM (g : Int → Int) (n : Int) (s : SC) : RfL :=
  if kdO g n (obO s.1 s.2.2.2.1) = 1 then [] else ([(0, 0, 6)] : RfL) ++ (match obO s.1 (caF g n s) with | some f => ([(f.1, f.1, 7)] : RfL) | none => [])
section
variable {e : En} {g : Int → Int} {n : Int} {A : Nat} {I : HI} {D : HD}
theorem c35' (he : HS e) (hA : isA A) {s : SC} {rs ls : RfL} (hC : CS g n A I D s rs ls) {x : Int} {Q : Option Nat → HI → HD → Prop}
    (hN : obO s.1 x = none → Q none I D) (hY : ∀ f, obO s.1 x = some f → (1 ≤ x ∧ x < 61) ∧ s.1 x.toNat = some f → K0 (D (A + 21) x.toNat) = 3 → CF g n I (D (A + 21) x.toNat) rs ls f → Q (some (D (A + 21) x.toNat)) I D) : CR 35 [vR (some A), vI x] e I D Q := by
  refine c35 he hA (fun k hk => (hC.2.2.1.1 k hk).1) (fun q => hN ?_) (fun q => ?_)
  · unfold obO
    split
    · rename_i c
      have o := hC.2.2.2 x.toNat (by omega)
      cases w : s.1 x.toNat with
      | none => rfl
      | some f => rw [w] at o; exact absurd ⟨c, by rw [o.1]; decide⟩ q
    · rfl
  · have o := hC.2.2.2 x.toNat (by omega)
    cases w : s.1 x.toNat with
    | none => rw [w] at o; exact absurd o q.2
    | some f =>
      rw [w] at o
      exact hY f (by unfold obO; rw [if_pos q.1]; exact w) ⟨q.1, w⟩ (hC.2.2.1.1 x.toNat (by omega)).1 o.2
theorem CF.kd {F : Nat} {rs ls : RfL} {f : FR} (h : CF g n I F rs ls f) : I (F + 1) 3 = kdF g n f ∧ I (F + 1) 4 = pgR g n f := by
  obtain ⟨-, r0, l0, a0, a1, a2, a3, a4⟩ := h
  exact ⟨by rw [a3 3 (by omega) (by omega), dfF_base (by omega)]; rfl, by rw [a3 4 (by omega) (by omega), dfF_base (by omega)]; rfl⟩
theorem c36 (he : HS e) (hA : isA A) {s : SC} {rs ls : RfL} (hC : CS g n A I D s rs ls) {x : Int} {Q : Int → HI → HD → Prop} (hQ : Q (kdO g n (obO s.1 x)) I D) : CI 36 [vR (some A), vI x] e I D Q := by
  refine S36 he hA (c35' he hA hC (fun q => ⟨fun _ => by rw [q] at hQ; exact hQ, fun u w => by cases w⟩) fun f hf _ hk hcf => ⟨fun w => (by cases w), fun u w => ?_⟩)
  cases w
  exact ⟨hk, by rw [hcf.kd.1]; rw [hf] at hQ; exact hQ⟩
theorem c37 (he : HS e) (hA : isA A) (hn : I A 2 = n) (hL : n ≤ L0 (A + 1)) {x : Int} {Q : Int → HI → HD → Prop} (hQ : Q (if 0 ≤ x ∧ x < n then I (A + 1) x.toNat % 256 else -1) I D) : CI 37 [vR (some A), vI x] e I D Q := by
  refine S37 he hA ⟨fun q => ?_, fun q => ⟨fun w => ?_, fun w => ⟨fun v => ?_, fun v => ⟨⟨by omega, by omega⟩, ?_⟩⟩⟩⟩
  · rw [if_neg (by omega)] at hQ; exact hQ
  · rw [if_neg (by omega)] at hQ; exact hQ
  · rw [if_neg (by omega)] at hQ; exact hQ
  · rw [if_pos (by omega)] at hQ; exact hQ
theorem totN_le {fo : Nat → Option FR} {a b : Nat} (h : a ≤ b) : ((List.range a).map fun i => rfN g n (fo i)).sum ≤ ((List.range b).map fun i => rfN g n (fo i)).sum := by
  obtain ⟨c, rfl⟩ := Nat.exists_eq_add_of_le h
  induction c with
  | zero => exact Nat.le_refl _
  | succ c ih =>
    rw [← Nat.add_assoc, List.range_succ, List.map_append, List.sum_append]
    exact Nat.le_trans (ih (by omega)) (Nat.le_add_right _ _)
theorem m5N_le {fo : Nat → Option FR} (k : Nat) : (m5N g n fo k).length ≤ ((List.range (k + 1)).map fun i => rfN g n (fo i)).sum := by
  induction k with
  | zero => exact Nat.zero_le _
  | succ k ih =>
    rw [List.range_succ, List.map_append, List.sum_append]
    show (m5N g n fo k ++ _).length ≤ _
    rw [List.length_append]
    refine Nat.add_le_add ih ?_
    simp only [List.map_cons, List.map_nil, List.sum_cons, List.sum_nil, Nat.add_zero]
    cases fo (k + 1) with
    | none => exact Nat.zero_le _
    | some f => exact List.length_filterMap_le _ _
theorem c38_29 (he : HS e) (hA : isA A) {s : SC} {rs ls : RfL} {f : FR} {F : Nat} (hk : K0 F = 3) (hF2 : A + 22 ≤ F ∧ F + 1 < A + 146) {r0 : Nat} (hr0 : r0 + (dRs g n f).length ≤ rs.length) (hsl : ∀ (j : Nat) (r : Int × Int × Int), (dRs g n f)[j]? = some r → rs[r0 + j]? = some r) {M : RfL} (hcap : M.length + (dRs g n f).length ≤ L0 (A + 11)) (hbig : rs.length < 100000) {x1 : Int} {Q : HI → HD → Prop} (k : Nat) : ∀ (j : Nat) (I : HI), j ≤ (dRs g n f).length → (dRs g n f).length - j = k →
    CS g n A I D (s.1, M ++ ((dRs g n f).take j).filterMap (m5P s.1 f), s.2.2) rs ls → I F 2 = f.1 → I (F + 1) 11 = ((r0 + (dRs g n f).length : Nat) : Int) →
    (∀ I', Fr (mkS (A + 10)) I I' → CS g n A I' D (s.1, M ++ (dRs g n f).filterMap (m5P s.1 f), s.2.2) rs ls → RV 38 70 [vR (some A), vI x1, vJ, vJ] [] e I' D Q) →
    RV 38 29 [vR (some A), vI x1, vR (some F), vI ((r0 + j : Nat) : Int)] [] e I D Q := by
  have kc := capA hA
  induction k with
  | zero =>
    intro j I hj hkj hC h2 h11 hQ
    refine S38_29 he hA hk ?_
    rw [h11]
    refine ⟨fun _ => hQ I Fr.refl ?_, fun q => by omega⟩
    rw [List.take_of_length_le (by omega)] at hC; exact hC
  | succ k ih =>
    intro j I hj hkj hC h2 h11 hQ
    have hjl : j < (dRs g n f).length := by omega
    have hrj : (dRs g n f)[j]? = some (dRs g n f)[j] := List.getElem?_eq_getElem hjl
    have tk : (dRs g n f).take (j + 1) = (dRs g n f).take j ++ [(dRs g n f)[j]] := by rw [List.take_succ, hrj]; rfl
    have fl : ((dRs g n f).take j).length ≤ j := by rw [List.length_take]; omega
    have fm := List.length_filterMap_le (m5P s.1 f) ((dRs g n f).take j)
    refine S38_29 he hA hk ?_
    rw [h11]
    refine ⟨fun q => by omega, fun _ => c13 he kc.1 hC.1.1 (hsl j _ hrj) ?_⟩
    refine c35' he hA hC (fun q => ⟨fun _ => ?_, fun u w => by cases w⟩) fun f' hf' _ hk' _ => ⟨fun w => (by cases w), fun u w => ?_⟩
    · rw [h2]
      have ph : m5P s.1 f (dRs g n f)[j] = some (f.1, f.1, 5) := by
        have q' : obO s.1 (dRs g n f)[j].2.2 = none := q
        unfold m5P; rw [q']; rfl
      refine c26 he hA hC.1.2.2.1 (by show (M ++ _).length < _; rw [List.length_append]; omega) fun I' f' M' => S38_64 he hA hk ⟨⟨by omega, by omega⟩, ?_⟩
      have C' := hC.mend hA f' M'
      have := ih (j + 1) I' (by omega) (by omega) (by
        rw [tk, List.filterMap_append, List.filterMap_cons, ph, List.filterMap_nil, ← List.append_assoc]; exact C') (by rw [f' _ _ (fun q => by unfold mkS at q; omega)]; exact h2) (by rw [f' _ _ (fun q => by unfold mkS at q; omega)]; exact h11) fun I'' f'' C'' => hQ I'' (f'.trans f'') C''
      exact this
    · have ph : m5P s.1 f (dRs g n f)[j] = none := by
        have q' : obO s.1 (dRs g n f)[j].2.2 = some f' := hf'
        unfold m5P; rw [q']; rfl
      refine ⟨by cases w; exact hk', S38_64 he hA hk ⟨⟨by omega, by omega⟩, ?_⟩⟩
      exact ih (j + 1) I (by omega) (by omega) (by rw [tk, List.filterMap_append, List.filterMap_cons, ph, List.filterMap_nil, List.append_nil]; exact hC) h2 h11 hQ
theorem c38_2 (he : HS e) (hA : isA A) {s : SC} {rs ls : RfL} (hcap : s.2.1.length + tot g n s.1 ≤ L0 (A + 11)) (hbig : rs.length < 100000) {Q : HI → HD → Prop} (k : Nat) : ∀ (i : Nat) (I : HI), i ≤ 60 → 60 - i = k → CS g n A I D (s.1, s.2.1 ++ m5N g n s.1 i, s.2.2) rs ls →
    (∀ I', Fr (mkS (A + 10)) I I' → CS g n A I' D (s.1, s.2.1 ++ m5N g n s.1 60, s.2.2) rs ls → Q I' D) → RV 38 2 [vR (some A), vI ((i + 1 : Nat) : Int), vJ, vJ] [] e I D Q := by
  induction k with
  | zero =>
    intro i I hi hk hC hQ
    have : i = 60 := by omega
    subst this
    exact S38_2 he hA ⟨fun _ => hQ I Fr.refl hC, fun q => by omega⟩
  | succ k ih =>
    intro i I hi hk hC hQ
    have mle := m5N_le (g := g) (n := n) (fo := s.1) i
    have ts : ((List.range (i + 2)).map fun j => rfN g n (s.1 j)).sum ≤ tot g n s.1 := totN_le (by omega)
    have t1 : ((List.range (i + 2)).map fun j => rfN g n (s.1 j)).sum = ((List.range (i + 1)).map fun j => rfN g n (s.1 j)).sum + rfN g n (s.1 (i + 1)) := by
      rw [List.range_succ, List.map_append, List.sum_append]; simp
    have go : ∀ I', Fr (mkS (A + 10)) I I' → CS g n A I' D (s.1, s.2.1 ++ m5N g n s.1 (i + 1), s.2.2) rs ls → RV 38 70 [vR (some A), vI ((i + 1 : Nat) : Int), vJ, vJ] [] e I' D Q := by
      intro I' f' C'
      exact S38_70 he hA ⟨⟨by omega, by omega⟩, ih (i + 1) I' (by omega) (by omega) C' fun I'' f'' C'' => hQ I'' (f'.trans f'') C''⟩
    refine S38_2 he hA ⟨fun q => by omega, fun _ => c35' he hA hC (fun q => ⟨fun _ => go I Fr.refl ?_, fun u w => by cases w⟩) fun f hf hx hk3 hcf => ⟨fun w => (by cases w), fun u w => ?_⟩⟩
    · have : s.1 (i + 1) = none := by
        have : obO s.1 ((i + 1 : Nat) : Int) = s.1 (i + 1) := by unfold obO; rw [if_pos (by omega)]; rfl
        rw [← this]; exact q
      show CS g n A I D (s.1, s.2.1 ++ (m5N g n s.1 i ++ _), s.2.2) rs ls
      rw [this, List.append_nil]; exact hC
    · cases w
      have hfi : s.1 (i + 1) = some f := hx.2
      have pF := hC.2.2.1.1 (i + 1) (by omega)
      obtain ⟨⟨z2, -⟩, r0, l0, a0, a1, a2, a3, a4, a5, a6, a7, a8, a9⟩ := hcf
      refine ⟨hk3, ?_⟩
      rw [a4]
      have := c38_29 he hA (s := s) (f := f) (F := D (A + 21) (i + 1)) (r0 := r0) hk3 ⟨pF.2.1, pF.2.2⟩ a8.1 a8.2 (M := s.2.1 ++ m5N g n s.1 i) (D := D) (ls := ls) (by
        rw [List.length_append]
        have e1 : rfN g n (s.1 (i + 1)) = (dRs g n f).length := by rw [hfi]; rfl
        omega) hbig (x1 := ((i + 1 : Nat) : Int)) (Q := Q) _ 0 I (Nat.zero_le _) rfl (by rw [List.take_zero, List.filterMap_nil, List.append_nil]; exact hC) z2 a5 fun I' f' C' => go I' f' (by
          show CS g n A I' D (s.1, s.2.1 ++ (m5N g n s.1 i ++ _), s.2.2) rs ls
          rw [hfi, ← List.append_assoc]; exact C')
      exact this
theorem c38 (he : HS e) (hA : isA A) {s : SC} {rs ls : RfL} (hcap : s.2.1.length + tot g n s.1 ≤ L0 (A + 11)) (hbig : rs.length < 100000) (hC : CS g n A I D s rs ls) {Q : HI → HD → Prop}
    (hQ : ∀ I', Fr (mkS (A + 10)) I I' → CS g n A I' D (s.1, s.2.1 ++ m5N g n s.1 60, s.2.2) rs ls → Q I' D) : CV 38 [vR (some A)] e I D Q :=
  S38 he hA (c38_2 he hA hcap hbig 60 0 I (by omega) rfl (by show CS g n A I D (s.1, s.2.1 ++ [], s.2.2) rs ls; rw [List.append_nil]; exact hC) hQ)
theorem c40_7 (he : HS e) (hA : isA A) {s : SC} {rs ls : RfL} (hC : CS g n A I D s rs ls) {wp : Bool} {Q : Int → HI → HD → Prop} (k : Nat) : ∀ i : Nat, i ≤ 60 → 60 - i = k → Q (lcN g n s.1 wp 60).1 I D →
    RI 40 7 [vR (some A), vI (b2i wp), vI (lcN g n s.1 wp i).1, vI (lcN g n s.1 wp i).2, vI ((i + 1 : Nat) : Int), vJ] [] e I D Q := by
  induction k with
  | zero =>
    intro i hi hk hQ
    have : i = 60 := by omega
    subst this
    exact S40_7 he hA ⟨fun _ => hQ, fun q => by omega⟩
  | succ k ih =>
    intro i hi hk hQ
    have go : lcN g n s.1 wp (i + 1) = lcN g n s.1 wp i → RI 40 80 [vR (some A), vI (b2i wp), vI (lcN g n s.1 wp i).1, vI (lcN g n s.1 wp i).2, vI ((i + 1 : Nat) : Int), vJ] [] e I D Q := by
      intro hl
      have := ih (i + 1) (by omega) (by omega) hQ
      rw [hl] at this
      exact S40_80 he hA ⟨⟨by omega, by omega⟩, this⟩
    refine S40_7 he hA ⟨fun q => by omega, fun _ => c35' he hA hC (fun q => ⟨fun _ => go ?_, fun u w => by cases w⟩) fun f hf hx hk3 hcf => ⟨fun w => (by cases w), fun u w => ?_⟩⟩
    · have : s.1 (i + 1) = none := by
        have : obO s.1 ((i + 1 : Nat) : Int) = s.1 (i + 1) := by unfold obO; rw [if_pos (by omega)]; rfl
        rw [← this]; exact q
      show (match s.1 (i + 1) with | some f => _ | none => _) = _
      rw [this]
    · cases w
      have hfi : s.1 (i + 1) = some f := hx.2
      have lc1 : lcN g n s.1 wp (i + 1) = if kdF g n f = 1 ∧ (lcN g n s.1 wp i).2 ≤ f.1 ∧ (wp = true → kdO g n (obO s.1 (pgR g n f)) = 2) then (((i + 1 : Nat) : Int), f.1) else lcN g n s.1 wp i := by
        show (match s.1 (i + 1) with | some f => _ | none => _) = _
        rw [hfi]
      rw [hcf.kd.1, hcf.kd.2, hcf.1.1]
      have tk : lcN g n s.1 wp (i + 1) = (((i + 1 : Nat) : Int), f.1) → RI 40 71 [vR (some A), vI (b2i wp), vJ, vJ, vI ((i + 1 : Nat) : Int), vR (some (D (A + 21) (i + 1)))] [] e I D Q := by
        intro hl
        have := ih (i + 1) (by omega) (by omega) hQ
        rw [hl] at this
        have e2 : I (D (A + 21) (i + 1)) 2 = f.1 := hcf.1.1
        refine S40_71 he hA hk3 (S40_80 he hA ⟨⟨by omega, by omega⟩, ?_⟩)
        rw [e2]; exact this
      refine ⟨hk3, fun q => go (by rw [lc1, if_neg (fun w => q w.1)]), fun q => ⟨fun w => ⟨fun v => tk ?_, fun v => c36 he hA hC ⟨fun y => go ?_, fun y => tk ?_⟩⟩, fun w => go (by rw [lc1, if_neg (fun v => w v.2.1)])⟩⟩
      · rw [lc1, if_pos ⟨Decidable.not_not.mp q, w, fun y => by rw [y] at v; cases v⟩]
      · rw [lc1, if_neg (fun u => y (u.2.2 (b2i_n v)))]
      · rw [lc1, if_pos ⟨Decidable.not_not.mp q, w, fun _ => Decidable.not_not.mp y⟩]
theorem c40 (he : HS e) (hA : isA A) {s : SC} {rs ls : RfL} (hC : CS g n A I D s rs ls) {wp : Bool} {Q : Int → HI → HD → Prop} (hQ : Q (lcN g n s.1 wp 60).1 I D) : CI 40 [vR (some A), vI (b2i wp)] e I D Q :=
  S40 he hA (c40_7 he hA hC 60 0 (by omega) rfl hQ)
theorem CS.u15 {s : SC} {rs ls : RfL} (hA : isA A) (hC : CS g n A I D s rs ls) {z : Int} : CS g n A (uI I A 15 z) D s rs ls := by
  have f4 : Fr (fun a k => a = A ∧ k = 15) I (uI I A 15 z) := Fr.u ⟨rfl, rfl⟩
  obtain ⟨⟨m1, m2, m3, m4⟩, ⟨v2, v11, v12, v13, v14⟩, hP, hO⟩ := hC
  refine ⟨⟨m1.fr f4 (fun a k q1 q2 q3 => by omega), m2.fr f4 (fun a k q1 q2 q3 => by omega), m3.fr f4 (fun a k q1 q2 q3 => by omega), m4.fr f4 (fun a k q1 q2 q3 => by omega)⟩, ⟨by rw [f4 _ _ (by omega)]; exact v2, by rw [f4 _ _ (by omega)]; exact v11, by rw [f4 _ _ (by omega)]; exact v12, by rw [f4 _ _ (by omega)]; exact v13, by rw [f4 _ _ (by omega)]; exact v14⟩, hP, fun j hj => ?_⟩
  have fj := (hP.1 j hj).2
  exact (hO j hj).fr f4 (fun k q => by omega) (fun k q => by omega)
theorem c39 (he : HS e) (hA : isA A) {s : SC} {rs ls : RfL} (hcap : s.2.1.length + 2 ≤ L0 (A + 11)) (hC : CS g n A I D s rs ls) {Q : HI → HD → Prop}
    (hQ : ∀ I', Fr (fun a k => mkS (A + 10) a k ∨ (a = A ∧ k = 15)) I I' → CS g n A I' D (s.1, s.2.1 ++ caM g n s, s.2.2) rs ls → I' A 15 = caF g n s → Q I' D) : CV 39 [vR (some A)] e I D Q := by
  refine S39 he hA ?_
  rw [hC.2.1.2.2.2.1]
  refine c36 he hA hC ⟨fun q => ?_, fun q => ?_⟩
  · have e2 : caM g n s = ([(0, 0, 6)] : RfL) ++ (match obO s.1 (caF g n s) with | some f => ([(f.1, f.1, 7)] : RfL) | none => []) := if_neg q
    have e1 : caF g n s = (if 0 < (lcN g n s.1 true 60).1 then (lcN g n s.1 true 60).1 else (lcN g n s.1 false 60).1) := if_neg q
    refine c26 he hA hC.1.2.2.1 (by omega) fun I1 f1 M1 => ?_
    have C1 := hC.mend hA f1 M1
    have s48 : RV 39 48 [vR (some A), vJ, vJ] [vI (caF g n s), vR (some A)] e I1 D Q := by
      refine S39_48 he hA ?_
      rw [uI_eq]
      have C2 := C1.u15 hA (z := caF g n s)
      refine c35' he hA C2 (fun w => ⟨fun _ => hQ _ ((f1.mono fun a k q => Or.inl q).trans (Fr.u (Or.inr ⟨rfl, rfl⟩))) ?_ uI_eq, fun u w => by cases w⟩) fun f hf _ hk hcf => ⟨fun w => (by cases w), fun u w => ?_⟩
      · have w' : obO s.1 (caF g n s) = none := w
        rw [e2, w']; exact C2
      · cases w
        rw [hcf.1.1]
        refine ⟨hk, c26 he hA C2.1.2.2.1 (by show (s.2.1 ++ [(0, 0, 6)]).length < _; simp; omega) fun I3 f3 M3 => hQ I3 ((f1.mono fun a k q => Or.inl q).trans ((Fr.u (Or.inr ⟨rfl, rfl⟩)).trans (f3.mono fun a k q => Or.inl q))) ?_ (by rw [f3 _ _ (fun q => by unfold mkS at q; omega), uI_eq])⟩
        have w' : obO s.1 (caF g n s) = some f := hf
        rw [e2, w', ← List.append_assoc]
        exact C2.mend hA f3 M3
    refine c40 he hA C1 (wp := true) ⟨fun w => c40 he hA C1 (wp := false) ?_, fun w => ?_⟩
    · have : caF g n s = (lcN g n s.1 false 60).1 := by rw [e1, if_neg (fun v => by have w' : (lcN g n s.1 true 60).1 ≤ 0 := w; omega)]
      rw [this] at s48; exact s48
    · have : caF g n s = (lcN g n s.1 true 60).1 := by rw [e1, if_pos (by have w' : ¬ (lcN g n s.1 true 60).1 ≤ 0 := w; omega)]
      rw [this] at s48; exact s48
  · have q' := Decidable.not_not.mp q
    rw [hC.2.1.2.2.2.1]
    have e1 : caF g n s = s.2.2.2.1 := if_pos q'
    have e2 : caM g n s = [] := if_pos q'
    refine hQ _ (Fr.u (Or.inr ⟨rfl, rfl⟩)) ?_ (by rw [uI_eq, e1])
    rw [e2, List.append_nil]; exact hC.u15 hA
end
