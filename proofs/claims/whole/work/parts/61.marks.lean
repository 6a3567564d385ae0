/-! references and lengths stand in the order of their places; what is written of an object -/
def oPr (l : RfL) : Prop := l.Pairwise fun a b => a.1 < b.1
def oLt (p : Int) (l : RfL) : Prop := ∀ r ∈ l, r.1 < p ∧ r.1 < r.2.1
theorem oPr_app {l : RfL} {p t o : Int} (h : oPr l) (h2 : ∀ r ∈ l, r.1 < p) : oPr (l ++ [(p, t, o)]) := by
  unfold oPr
  rw [List.pairwise_append]
  refine ⟨h, List.pairwise_singleton _ _, fun a ha b hb => ?_⟩
  rw [List.mem_singleton] at hb
  subst hb
  exact h2 a ha
theorem oLt_app {l : RfL} {p q t o : Int} (h : oLt p l) (hq : p < q) (ht : p < t) : oLt q (l ++ [(p, t, o)]) := by
  intro r hr
  rcases List.mem_append.mp hr with hr | hr
  · have := h r hr; omega
  · rw [List.mem_singleton] at hr
    subst hr
    exact ⟨hq, ht⟩
theorem oLt.le {l : RfL} {p q : Int} (h : oLt p l) (hq : p ≤ q) : oLt q l := fun r hr => by have := h r hr; omega
section
variable {g : Int → Int} {n b : Int} {P : Int → Prop}
theorem row_srt (hB : Bd g n b P) {op cl : Int} (k : Nat) : ∀ (p d : Int) (rs : RfL), P p → oPr rs → oLt p rs → oPr (rowN g n b op cl k p d rs).2 ∧ oLt (rowN g n b op cl k p d rs).1 (rowN g n b op cl k p d rs).2 := by
  have hn := hB.1
  induction k with
  | zero => intro p d rs _ h1 h2; exact ⟨h1, h2⟩
  | succ k ih =>
    intro p d rs hp h1 h2
    have pb := (hB.2 p hp).1
    unfold rowN
    split
    · exact ⟨h1, h2⟩
    · rename_i hlt
      have hlt : p < b := by omega
      have nb := (nxF_bd (g := g) (show p ≤ n by omega)).2.2 (by omega)
      have hnx := hB.nx hp hlt
      have eb := hB.eFle hp hlt
      split
      · rename_i k4
        have rf := hB.ref hp hlt k4
        have sb := skp_bd (g := g) (show e3F g n p ≤ n by omega)
        exact ih _ _ _ rf.1 (oPr_app h1 fun r hr => (h2 r hr).1) (oLt_app h2 (by omega) (by omega))
      · split
        · split
          · exact ⟨h1, h2.le (by show p ≤ eF g n p; omega)⟩
          · exact ih _ _ _ hnx h1 (h2.le (by omega))
        · split
          · exact ih _ _ _ hnx h1 (h2.le (by omega))
          · exact ih _ _ _ hnx h1 (h2.le (by omega))
theorem val_srt (hB : Bd g n b P) {q : Int} {rs : RfL} (hq : P q) (hl : q < b) (h1 : oPr rs) (h2 : oLt q rs) : oPr (valF g n b q rs).2 ∧ oLt (valF g n b q rs).1 (valF g n b q rs).2 := by
  have hn := hB.1
  have pb := (hB.2 q hq).1
  have nb := (nxF_bd (g := g) (show q ≤ n by omega)).2.2 (by omega)
  have hnx := hB.nx hq hl
  have eb := hB.eFle hq hl
  unfold valF
  split
  · exact row_srt hB _ _ _ _ hnx h1 (h2.le (by omega))
  · split
    · exact row_srt hB _ _ _ _ hnx h1 (h2.le (by omega))
    · split
      · rename_i k4
        have rf := hB.ref hq hl k4
        exact ⟨oPr_app h1 fun r hr => (h2 r hr).1, oLt_app h2 (by show q < e3F g n q; omega) (by omega)⟩
      · exact ⟨h1, h2.le (by show q ≤ eF g n q; omega)⟩
theorem dic_srt (hB : Bd g n b P) (k : Nat) : ∀ (p : Int) (ps : PrL) (rs : RfL), P p → 5 * (rs.length : Int) ≤ p → oPr rs → oLt p rs → oPr (lnL g n ps) → oLt p (lnL g n ps) →
    (oPr (dicN g n b k p ps rs).2.2.2 ∧ oLt (dicN g n b k p ps rs).1 (dicN g n b k p ps rs).2.2.2) ∧ oPr (lnL g n (dicN g n b k p ps rs).2.2.1) ∧ oLt (dicN g n b k p ps rs).1 (lnL g n (dicN g n b k p ps rs).2.2.1) := by
  have hn := hB.1
  induction k with
  | zero => intro p ps rs _ _ h1 h2 h3 h4; exact ⟨⟨h1, h2⟩, h3, h4⟩
  | succ k ih =>
    intro p ps rs hp h5 h1 h2 h3 h4
    have pb := (hB.2 p hp).1
    unfold dicN
    split
    · exact ⟨⟨h1, h2⟩, h3, h4⟩
    · rename_i hlt
      have hlt : p < b := by omega
      have nb := (nxF_bd (g := g) (show p ≤ n by omega)).2.2 (by omega)
      have hnx := hB.nx hp hlt
      have eb := hB.eFle hp hlt
      split
      · exact ⟨⟨h1, h2.le (by show p ≤ eF g n p; omega)⟩, h3, h4.le (by show p ≤ eF g n p; omega)⟩
      · split
        · rename_i c
          have vo := valF_ok hB 0 hnx c.2.2 (rs := rs) (by omega)
          have vs := val_srt hB hnx c.2.2 h1 (h2.le (by omega))
          have s := skp_bd (g := g) (show (valF g n b (nxF g n p) rs).1 ≤ n by omega)
          have lap : oPr (lnL g n (ps ++ [(p, nxF g n p, (valF g n b (nxF g n p) rs).1, rs.length, (valF g n b (nxF g n p) rs).2.length)])) ∧ oLt (skp g n (valF g n b (nxF g n p) rs).1) (lnL g n (ps ++ [(p, nxF g n p, (valF g n b (nxF g n p) rs).1, rs.length, (valF g n b (nxF g n p) rs).2.length)])) := by
            rw [lnL_app]
            cases ht : tx g n p 20 with
            | true =>
              have e1 : lnL g n [(p, nxF g n p, (valF g n b (nxF g n p) rs).1, rs.length, (valF g n b (nxF g n p) rs).2.length)] = [(p, (valF g n b (nxF g n p) rs).1, 0)] := by simp [lnL, ht]
              rw [e1]
              exact ⟨oPr_app h3 fun r hr => (h4 r hr).1, oLt_app h4 (by omega) (by omega)⟩
            | false =>
              have e1 : lnL g n [(p, nxF g n p, (valF g n b (nxF g n p) rs).1, rs.length, (valF g n b (nxF g n p) rs).2.length)] = [] := by simp [lnL, ht]
              rw [e1, List.append_nil]
              exact ⟨h3, h4.le (by omega)⟩
          exact ih _ _ _ vo.2.2.1 (by omega) vs.1 (vs.2.le s.1) lap.1 lap.2
        · exact ih _ _ _ hnx (by omega) h1 (h2.le (by omega)) h3 (h4.le (by omega))
theorem dR_srt {p0 : Int} (h0 : 0 ≤ p0) (h1 : p0 ≤ n) (hs : skp g n p0 = p0) : oPr (dR g n p0).2.2.2 ∧ (∀ r ∈ (dR g n p0).2.2.2, r.1 < r.2.1) ∧ oPr (lnL g n (dR g n p0).2.2.1) ∧ ∀ r ∈ lnL g n (dR g n p0).2.2.1, r.1 < r.2.1 := by
  unfold dR
  split
  · rename_i k9
    have k := kF_9 k9
    have nb := nxF_bd (g := g) h1
    have hB := Bd_en (g := g) h1 hs
    have ns : enS g n p0 = false := by unfold enS; rw [k9]; rfl
    have hP : onW g n (enS g n) (enW g n p0) (nxF g n p0) := ⟨⟨by omega, nb.2.1⟩, skp_skp (eF_bd (g := g) h1).2.1, (wW_go (fun w => by rcases w with w | w; rw [ns] at w; cases w; omega)).symm⟩
    have a := dic_srt hB 4000 (nxF g n p0) [] [] hP (by simp; omega) List.Pairwise.nil (fun r hr => by cases hr) List.Pairwise.nil (fun r hr => by cases hr)
    exact ⟨a.1.1, fun r hr => (a.1.2 r hr).2, a.2.1, fun r hr => (a.2.2 r hr).2⟩
  · exact ⟨List.Pairwise.nil, (fun r hr => by cases hr), List.Pairwise.nil, (fun r hr => by cases hr)⟩
end
/-- the mark that begins at a place -/
def mkA (l : RfL) (i : Int) : Option (Int × Int × Int) := l.find? fun r => r.1 == i
theorem mkA_some {l : RfL} {r : Int × Int × Int} {i : Int} (h : oPr l) (hr : r ∈ l) (hi : r.1 = i) : mkA l i = some r := by
  induction l with
  | nil => cases hr
  | cons a t ih =>
    unfold oPr at h
    rw [List.pairwise_cons] at h
    unfold mkA
    rw [List.find?_cons]
    rcases List.mem_cons.mp hr with rfl | hr
    · have : (r.1 == i) = true := by simpa using hi
      rw [this]
    · have : (a.1 == i) = false := by have := h.1 r hr; simp; omega
      rw [this]
      exact ih h.2 hr
theorem mkA_none {l : RfL} {i : Int} (h : ∀ r ∈ l, r.1 ≠ i) : mkA l i = none := by
  unfold mkA
  rw [List.find?_eq_none]
  intro r hr
  simpa using h r hr
theorem mkA_mem {l : RfL} {i : Int} {r : Int × Int × Int} (h : mkA l i = some r) : r ∈ l ∧ r.1 = i := by
  unfold mkA at h
  exact ⟨List.mem_of_find?_eq_some h, by have := List.find?_some h; simpa using this⟩
/-- by the first mark that does not begin before the place -/
theorem mkA_at {l : RfL} {i : Int} {j : Nat} (h : oPr l) (hb : ∀ (a : Nat) (r : Int × Int × Int), a < j → l[a]? = some r → r.1 < i) :
    (l.length ≤ j → mkA l i = none) ∧ ∀ r, l[j]? = some r → i ≤ r.1 → mkA l i = if r.1 = i then some r else none := by
  refine ⟨fun hj => mkA_none fun r hr => ?_, fun r hr hi => ?_⟩
  · obtain ⟨a, ha⟩ := List.mem_iff_getElem?.mp hr
    have := hb a r (by have := (List.getElem?_eq_some_iff.mp ha).1; omega) ha
    omega
  · split
    · rename_i c
      exact mkA_some h (List.mem_of_getElem? hr) c
    · rename_i c
      refine mkA_none fun r' hr' => ?_
      obtain ⟨a, ha⟩ := List.mem_iff_getElem?.mp hr'
      obtain ⟨la, ea⟩ := List.getElem?_eq_some_iff.mp ha
      obtain ⟨lj, ej⟩ := List.getElem?_eq_some_iff.mp hr
      rcases Nat.lt_trichotomy a j with q | q | q
      · have := hb a r' q ha; omega
      · subst q; rw [ha] at hr; cases hr; exact c
      · have := (List.pairwise_iff_getElem.mp h) j a lj la q
        rw [ea, ej] at this
        omega
def txL (k : Nat) : List Int := (zstr k).map fun (c : Nat) => (c : Int)
def dgL (x : Int) : List Int :=
  if x < 10 then [48 + x] else if x < 100 then [48 + x / 10, 48 + x % 10] else if x < 1000 then [48 + x / 100, 48 + x / 10 % 10, 48 + x % 10]
  else [48 + x / 1000, 48 + x / 100 % 10, 48 + x / 10 % 10, 48 + x % 10]
def cpN (g : Int → Int) (fo : Nat → Option FR) (rs ls : RfL) (lv : Bool) (t : Int) : Nat → Int → List Int
  | 0, _ => []
  | k + 1, i => if t ≤ i then [] else
    match (if lv = true then mkA ls i else none) with
    | some r => cpN g fo rs ls lv t k r.2.1
    | none => match mkA rs i with
      | some r => if (obO fo r.2.2).isNone = true then txL 4 ++ cpN g fo rs ls lv t k r.2.1 else [g i] ++ cpN g fo rs ls lv t k (i + 1)
      | none => [g i] ++ cpN g fo rs ls lv t k (i + 1)
def blP (g : Int → Int) (p : Int) : Bool := decide (32 < g p)
def trR (g : Int → Int) (f : Int) : Nat → Int → Int
  | 0, t => t
  | k + 1, t => if t ≤ f then t else if 32 < g (t - 1) then t else trR g f k (t - 1)
def byL (g : Int → Int) (t : Int) : Nat → Int → List Int
  | 0, _ => []
  | k + 1, i => if t ≤ i then [] else [g i] ++ byL g t k (i + 1)
def dFr (g : Int → Int) (n : Int) (f : FR) : Int := if kF' g n (skp g n f.2.1) = 9 then eF g n (skp g n f.2.1) else f.2.1
def dTo (g : Int → Int) (n : Int) (f : FR) : Int := if kF' g n (skp g n f.2.1) = 9 then (dR g n (skp g n f.2.1)).1 else f.2.1
def dLn (g : Int → Int) (n : Int) (f : FR) : RfL := lnL g n (dR g n (skp g n f.2.1)).2.2.1
def wrP (g : Int → Int) (n : Int) (fo : Nat → Option FR) (f : FR) : List Int :=
  cpN g fo (dRs g n f) (dLn g n f) false (trR g (ff (blP g) f.2.2.1 f.2.1) 4000 f.2.2.1) 4000 (ff (blP g) f.2.2.1 f.2.1)
def wrS (g : Int → Int) (n : Int) (fo : Nat → Option FR) (f : FR) : List Int :=
  txL 2 ++ dgL (f.2.2.2.2.2.2.2 - f.2.2.2.2.2.2.1) ++ txL 3 ++ cpN g fo (dRs g n f) (dLn g n f) true (dTo g n f) 4000 (dFr g n f) ++ txL 5 ++ byL g f.2.2.2.2.2.2.2 4000 f.2.2.2.2.2.2.1 ++ txL 6
def wrO (g : Int → Int) (n : Int) (fo : Nat → Option FR) (i : Nat) (f : FR) : List Int :=
  dgL (i : Int) ++ txL 1 ++ (if f.2.2.2.2.1 = true then wrS g n fo f else wrP g n fo f) ++ txL 7
def wrN (g : Int → Int) (n : Int) (fo : Nat → Option FR) : Nat → List Int
  | 0 => txL 0
  | k + 1 => wrN g n fo k ++ (match fo (k + 1) with | some f => wrO g n fo (k + 1) f | none => [])
def wrA (g : Int → Int) (n : Int) (fo : Nat → Option FR) (c : Int) : List Int := wrN g n fo 60 ++ (if 0 < c then txL 8 ++ dgL c ++ txL 9 else [])
