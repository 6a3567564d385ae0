/-! dictionaries: what is read of one, as a pure function; and the class's Marks -/
def e3F (g : Int → Int) (n p : Int) : Int := eF g n (nxF g n (nxF g n p))
def isEk (fl : Bool) (k : Int) : Bool := k == 0 || (fl && (k == 6 || k == 7 || k == 5))
abbrev RfL : Type := List (Int × Int × Int)
/-- a row in brackets, d deep: where it ends, and its references (from, to, object) -/
def rowN (g : Int → Int) (n lim op cl : Int) : Nat → Int → Int → RfL → Int × RfL
  | 0, p, _, rs => (p, rs)
  | k + 1, p, d, rs => if lim ≤ p then (p, rs)
    else if kF' g n p = 4 then rowN g n lim op cl k (skp g n (e3F g n p)) d (rs ++ [(p, e3F g n p, mF g n p)])
    else if kF' g n p = cl then (if d = 1 then (eF g n p, rs) else rowN g n lim op cl k (nxF g n p) (d - 1) rs)
    else if kF' g n p = op then rowN g n lim op cl k (nxF g n p) (d + 1) rs
    else rowN g n lim op cl k (nxF g n p) d rs
def valF (g : Int → Int) (n lim q : Int) (rs : RfL) : Int × RfL :=
  if kF' g n q = 9 then rowN g n lim 9 10 4000 (nxF g n q) 1 rs
  else if kF' g n q = 11 then rowN g n lim 11 12 4000 (nxF g n q) 1 rs
  else if kF' g n q = 4 then (e3F g n q, rs ++ [(q, e3F g n q, mF g n q)])
  else (eF g n q, rs)
/-- name, value, behind, first reference, references then -/
abbrev PrL : Type := List (Int × Int × Int × Nat × Nat)
def dicN (g : Int → Int) (n lim : Int) : Nat → Int → PrL → RfL → Int × Bool × PrL × RfL
  | 0, p, ps, rs => (p, false, ps, rs)
  | k + 1, p, ps, rs => if lim ≤ p then (p, false, ps, rs)
    else if kF' g n p = 10 then (eF g n p, true, ps, rs)
    else if kF' g n p = 8 ∧ kF' g n (nxF g n p) ≠ 10 ∧ nxF g n p < lim then
      dicN g n lim k (skp g n (valF g n lim (nxF g n p) rs).1) (ps ++ [(p, nxF g n p, (valF g n lim (nxF g n p) rs).1, rs.length, (valF g n lim (nxF g n p) rs).2.length)]) (valF g n lim (nxF g n p) rs).2
    else dicN g n lim k (nxF g n p) ps rs
/-- places that a reader may come to before the limit -/
def Bd (g : Int → Int) (n lim : Int) (P : Int → Prop) : Prop := lim ≤ n ∧ ∀ p, P p → (0 ≤ p ∧ p ≤ lim ∧ skp g n p = p) ∧ (p < lim → P (nxF g n p) ∧ tkc (g p) ∧ (kF' g n p = 4 → nxF g n p < lim ∧ nxF g n (nxF g n p) < lim))
theorem mF_reg {g : Int → Int} {n p : Int} (h : 0 ≤ mF g n p) (hp : p ≤ n) : p < n ∧ reg (g p) = true := by
  unfold mF at h
  split at h
  · omega
  · rename_i c
    have hn : p < n := by omega
    refine ⟨hn, ?_⟩
    have he := (eF_bd (g := g) hp).2.2 hn
    unfold nuF at h
    split at h
    · omega
    · rw [show (eF g n p - p).toNat = (eF g n p - p - 1).toNat + 1 by omega] at h
      have : ¬ (g p < 48 ∨ 57 < g p) := fun q => by
        have e1 : nuN g ((eF g n p - p - 1).toNat + 1) p 0 = -1 := if_pos q
        rw [e1] at h; omega
      simp [reg, sgn]; omega
theorem word_sep {g : Int → Int} {n p : Int} (hp : p < n) (h : reg (g p) = true) (hq : nxF g n p < n → reg (g (nxF g n p)) = true) (h2 : nxF g n p < n) : eF g n p + 1 ≤ nxF g n p := by
  have hr := reg_not h
  have e1 : eF g n p = ff (nrP g) n (p + 1) := by
    unfold eF
    rw [if_neg (by omega), if_neg (by omega), if_neg (by omega), tE_word (Or.inr h)]
  have b := eF_bd (g := g) (show p ≤ n by omega)
  have s := skp_bd (g := g) b.2.1
  rcases Int.lt_or_le (eF g n p) (nxF g n p) with q | q
  · omega
  · have : nxF g n p = eF g n p := by unfold nxF at *; omega
    have q2 := hq h2
    rw [this, e1] at q2
    rw [this, e1] at h2
    have := ff_stop (P := nrP g) (show p + 1 ≤ n by omega) h2
    simp [nrP, q2] at this
theorem mF_n {g : Int → Int} {n p : Int} (h : n ≤ p) : mF g n p = -1 := if_pos (Or.inl h)
/-- a reference takes five bytes -/
theorem ref_len {g : Int → Int} {n p : Int} (hp : p ≤ n) (h : kF' g n p = 4) : p + 5 ≤ e3F g n p ∧ p < n ∧ e3F g n p ≤ n ∧ nxF g n p < n ∧ nxF g n (nxF g n p) < n ∧ 0 ≤ mF g n p ∧ 0 ≤ mF g n (nxF g n p) ∧ tx g n (nxF g n (nxF g n p)) 10 = true := by
  unfold kF' at h
  split at h
  · omega
  · split at h
    · rename_i c1 c2
      unfold knF at h
      split at h
      · omega
      · rename_i c3
        split at h
        · rename_i c4
          obtain ⟨a1, a2⟩ := mF_reg c2 hp
          obtain ⟨b1, b2, -⟩ := nxF_bd (g := g) hp
          obtain ⟨d1, d2⟩ := mF_reg (show 0 ≤ mF g n (nxF g n p) by omega) b2
          obtain ⟨f1, f2, -⟩ := nxF_bd (g := g) b2
          have s1 := word_sep a1 a2 (fun _ => d2) d1
          have c5 := c4
          unfold tx isF stF at c4
          simp only [Bool.and_eq_true, decide_eq_true_eq] at c4
          obtain ⟨t1, t2, t3⟩ := c4
          have hz : zstr 10 = [82] := by decide
          rw [hz] at t1 t2 t3
          simp only [List.length_cons, List.length_nil] at t1 t2
          have hR : g (nxF g n (nxF g n p)) = 82 := by simpa [mat] using t3
          have s2 := word_sep d1 d2 (fun _ => by rw [hR]; decide) (by omega)
          have k1 := (eF_bd (g := g) hp).2.2 a1
          have k2 := (eF_bd (g := g) b2).2.2 d1
          have k3 := eF_bd (g := g) f2
          unfold e3F
          exact ⟨by omega, a1, by omega, d1, by omega, c2, by omega, c5⟩
        · split at h <;> omega
    · unfold ksF at h
      split at h
      · split at h
        · omega
        · split at h <;> omega
      · split at h
        · omega
        · split at h
          · split at h <;> omega
          · split at h
            · split at h <;> omega
            · split at h
              · omega
              · split at h <;> omega
section
variable {g : Int → Int} {n lim : Int} {P : Int → Prop}
theorem Bd.nx (hB : Bd g n lim P) {p : Int} (hp : P p) (h : p < lim) : P (nxF g n p) := ((hB.2 p hp).2 h).1
theorem Bd.eFle (hB : Bd g n lim P) {p : Int} (hp : P p) (h : p < lim) : p < eF g n p ∧ eF g n p ≤ lim := by
  have a := hB.nx hp h
  have b := (hB.2 _ a).1
  have hn := hB.1
  have c := eF_bd (g := g) (show p ≤ n by omega)
  have d := skp_bd (g := g) c.2.1
  unfold nxF at b
  exact ⟨c.2.2 (by omega), by omega⟩
theorem Bd.ref (hB : Bd g n lim P) {p : Int} (hp : P p) (h : p < lim) (h4 : kF' g n p = 4) : P (skp g n (e3F g n p)) ∧ p + 5 ≤ e3F g n p ∧ e3F g n p ≤ lim ∧ nxF g n p < lim ∧ nxF g n (nxF g n p) < lim := by
  have hn := hB.1
  obtain ⟨a1, a2⟩ := ((hB.2 p hp).2 h).2.2 h4
  have p1 := hB.nx hp h
  have p2 := hB.nx p1 a1
  have p3 := hB.nx p2 a2
  have l := (ref_len (g := g) (n := n) (p := p) (by have := (hB.2 p hp).1; omega) h4).1
  exact ⟨p3, l, (hB.eFle p2 a2).2, a1, a2⟩
theorem rowN_ok (hB : Bd g n lim P) {op cl : Int} (r0 : Nat) (k : Nat) : ∀ (p d : Int) (rs : RfL), P p → 5 * ((r0 + rs.length : Nat) : Int) ≤ p →
    p ≤ (rowN g n lim op cl k p d rs).1 ∧ (rowN g n lim op cl k p d rs).1 ≤ lim ∧ P (skp g n (rowN g n lim op cl k p d rs).1) ∧ 5 * ((r0 + (rowN g n lim op cl k p d rs).2.length : Nat) : Int) ≤ (rowN g n lim op cl k p d rs).1 := by
  induction k with
  | zero =>
    intro p d rs hp h5
    have b := (hB.2 p hp).1
    refine ⟨Int.le_refl _, b.2.1, ?_, h5⟩
    show P (skp g n p)
    rw [b.2.2]; exact hp
  | succ k ih =>
    intro p d rs hp h5
    have b := (hB.2 p hp).1
    unfold rowN
    split
    · refine ⟨Int.le_refl _, b.2.1, ?_, h5⟩
      show P (skp g n p)
      rw [b.2.2]; exact hp
    · rename_i hlt
      have hlt : p < lim := by omega
      have nb := nxF_bd (g := g) (show p ≤ n by have := hB.1; omega)
      have hn := hB.1
      have n1 := nb.2.2 (by omega)
      have hnx := hB.nx hp hlt
      split
      · rename_i h4
        obtain ⟨q1, q2, q3, -, -⟩ := hB.ref hp hlt h4
        have s := skp_bd (g := g) (show e3F g n p ≤ n by omega)
        have := ih (skp g n (e3F g n p)) d (rs ++ [(p, e3F g n p, mF g n p)]) q1 (by simp only [List.length_append, List.length_cons, List.length_nil]; omega)
        exact ⟨by omega, this.2.1, this.2.2.1, this.2.2.2⟩
      · split
        · split
          · have eb := hB.eFle hp hlt
            exact ⟨by show p ≤ eF g n p; omega, eb.2, hnx, by show 5 * ((r0 + rs.length : Nat) : Int) ≤ eF g n p; omega⟩
          · have := ih (nxF g n p) (d - 1) rs hnx (by omega)
            exact ⟨by omega, this.2.1, this.2.2.1, this.2.2.2⟩
        · split
          · have := ih (nxF g n p) (d + 1) rs hnx (by omega)
            exact ⟨by omega, this.2.1, this.2.2.1, this.2.2.2⟩
          · have := ih (nxF g n p) d rs hnx (by omega)
            exact ⟨by omega, this.2.1, this.2.2.1, this.2.2.2⟩
theorem valF_ok (hB : Bd g n lim P) (r0 : Nat) {q : Int} {rs : RfL} (hq : P q) (hl : q < lim) (h5 : 5 * ((r0 + rs.length : Nat) : Int) ≤ q) :
    q < (valF g n lim q rs).1 ∧ (valF g n lim q rs).1 ≤ lim ∧ P (skp g n (valF g n lim q rs).1) ∧ 5 * ((r0 + (valF g n lim q rs).2.length : Nat) : Int) ≤ (valF g n lim q rs).1 := by
  have hn := hB.1
  have nb := (nxF_bd (g := g) (show q ≤ n by omega)).2.2 (by omega)
  have hnx := hB.nx hq hl
  unfold valF
  split
  · have := rowN_ok hB (op := 9) (cl := 10) r0 4000 (nxF g n q) 1 rs hnx (by omega)
    exact ⟨by omega, this.2.1, this.2.2.1, this.2.2.2⟩
  · split
    · have := rowN_ok hB (op := 11) (cl := 12) r0 4000 (nxF g n q) 1 rs hnx (by omega)
      exact ⟨by omega, this.2.1, this.2.2.1, this.2.2.2⟩
    · split
      · rename_i h4
        obtain ⟨q1, q2, q3, -, -⟩ := hB.ref hq hl h4
        refine ⟨by show q < e3F g n q; omega, q3, q1, ?_⟩
        simp only [List.length_append, List.length_cons, List.length_nil]; omega
      · have eb := hB.eFle hq hl
        exact ⟨eb.1, eb.2, hnx, by show 5 * ((r0 + rs.length : Nat) : Int) ≤ eF g n q; omega⟩
end
/-- a row of marks holds l: from, to, number -/
def MkL (q : Nat) (I : HI) (l : RfL) : Prop := (I q 3 = l.length ∧ l.length ≤ L0 (q + 1)) ∧ ∀ (i : Nat) (r : Int × Int × Int), l[i]? = some r → I (q + 1) i = r.2.2 ∧ I (q + 2) i = r.1 ∧ I (q + 3) i = r.2.1
def mkS (q : Nat) (a _k : Nat) : Prop := q ≤ a ∧ a ≤ q + 3
theorem MkL.fr {S : Nat → Nat → Prop} {I I' : HI} {q : Nat} {l : RfL} (h : MkL q I l) (hf : Fr S I I') (h1 : ∀ a k, q ≤ a → a ≤ q + 3 → ¬ S a k) : MkL q I' l := by
  refine ⟨⟨by rw [hf _ _ (h1 _ _ (by omega) (by omega))]; exact h.1.1, h.1.2⟩, fun i r hr => ?_⟩
  rw [hf _ _ (h1 _ _ (by omega) (by omega)), hf _ _ (h1 _ _ (by omega) (by omega)), hf _ _ (h1 _ _ (by omega) (by omega))]
  exact h.2 i r hr
section
variable {e : En} {D : HD} {I : HI}
theorem c11 (he : HS e) {q : Nat} (hq : K0 q = 4) {l : RfL} (h : MkL q I l) (hl : l.length < L0 (q + 1)) (hL : L0 (q + 1) < 100000) {f t o : Int} {Q : HI → HD → Prop}
    (hQ : ∀ I', Fr (mkS q) I I' → MkL q I' (l ++ [(f, t, o)]) → Q I' D) : CV 11 [vR (some q), vI o, vI f, vI t] e I D Q := by
  have k := kM hq
  have l2 := k.2.2.2.2.2.2.2.2.2.1
  have l3 := k.2.2.2.2.2.2.2.2.2.2
  have e1 : ∀ (J : HI) (j : Nat) (z : Int), uI J (q + 1) j z q 3 = J q 3 := fun _ _ _ => uI_ne (by omega)
  have e2 : ∀ (J : HI) (j : Nat) (z : Int), uI J (q + 2) j z q 3 = J q 3 := fun _ _ _ => uI_ne (by omega)
  have e3 : ∀ (J : HI) (j : Nat) (z : Int), uI J (q + 3) j z q 3 = J q 3 := fun _ _ _ => uI_ne (by omega)
  refine S11 he hq ?_
  simp only [e1, e2, e3, h.1.1, Int.toNat_natCast, l2, l3]
  refine ⟨fun a => by omega, fun _ => ⟨fun a => by omega, fun _ => ⟨fun a => by omega, fun _ => ⟨fun a => by omega, fun _ => ⟨⟨by omega, by omega⟩, ⟨by omega, by omega⟩, ⟨by omega, by omega⟩, ⟨by omega, by omega⟩, hQ _ ?_ ?_⟩⟩⟩⟩⟩
  · exact ((Fr.u ⟨by omega, by omega⟩).trans (Fr.u ⟨by omega, by omega⟩)).trans ((Fr.u ⟨by omega, by omega⟩).trans (Fr.u ⟨by omega, by omega⟩))
  · refine ⟨⟨by rw [uI_eq]; simp, by simp; omega⟩, fun i r hr => ?_⟩
    by_cases hi : i < l.length
    · rw [List.getElem?_append_left hi] at hr
      have := h.2 i r hr
      rw [uI_ne (by omega), uI_ne (by omega), uI_ne (by omega), uI_ne (by omega), uI_ne (by omega), uI_ne (by omega), uI_ne (by omega), uI_ne (by omega), uI_ne (by omega), uI_ne (by omega), uI_ne (by omega), uI_ne (by omega)]
      exact this
    · rw [List.getElem?_append_right (by omega)] at hr
      have hi2 : i = l.length := by
        have := (List.getElem?_eq_some_iff.mp hr).1
        simp at this; omega
      subst hi2
      simp at hr
      subst hr
      simp [uI]
theorem c12 (he : HS e) {q : Nat} (hq : K0 q = 4) {l : RfL} (h : MkL q I l) {m : Nat} (hm : m ≤ l.length) {Q : HI → HD → Prop}
    (hQ : ∀ I', Fr (fun a k => a = q ∧ k = 3) I I' → MkL q I' (l.take m) → Q I' D) : CV 12 [vR (some q), vI (m : Int)] e I D Q := by
  refine S12 he hq (hQ _ (Fr.u ⟨rfl, rfl⟩) ⟨⟨?_, ?_⟩, fun i r hr => ?_⟩)
  · rw [uI_eq, h.1.1, List.length_take]; omega
  · rw [List.length_take]; have := h.1.2; omega
  · rw [uI_ne (by omega), uI_ne (by omega), uI_ne (by omega)]
    refine h.2 i r ?_
    rw [List.getElem?_take] at hr
    split at hr
    · exact hr
    · cases hr
theorem c13 (he : HS e) {q : Nat} (hq : K0 q = 4) {l : RfL} (h : MkL q I l) {i : Nat} {r : Int × Int × Int} (hr : l[i]? = some r) {Q : Int → HI → HD → Prop} (hQ : Q r.2.2 I D) : CI 13 [vR (some q), vI (i : Int)] e I D Q := by
  have hi := (List.getElem?_eq_some_iff.mp hr).1
  have hL := h.1
  refine S13 he hq ⟨fun a => by omega, fun _ => ⟨fun a => by omega, fun _ => ⟨fun a => by omega, fun _ => ⟨⟨by omega, by omega⟩, ?_⟩⟩⟩⟩
  rw [Int.toNat_natCast, (h.2 i r hr).1]; exact hQ
theorem c14 (he : HS e) {q : Nat} (hq : K0 q = 4) {l : RfL} (h : MkL q I l) {i : Nat} {r : Int × Int × Int} (hr : l[i]? = some r) {Q : Int → HI → HD → Prop} (hQ : Q r.1 I D) : CI 14 [vR (some q), vI (i : Int)] e I D Q := by
  have hi := (List.getElem?_eq_some_iff.mp hr).1
  have hL := h.1
  have k := (kM hq).2.2.2.2.2.2.2.2.2
  refine S14 he hq ⟨fun a => by omega, fun _ => ⟨fun a => by omega, fun _ => ⟨fun a => by omega, fun _ => ⟨⟨by omega, by omega⟩, ?_⟩⟩⟩⟩
  rw [Int.toNat_natCast, (h.2 i r hr).2.1]; exact hQ
theorem c15 (he : HS e) {q : Nat} (hq : K0 q = 4) {l : RfL} (h : MkL q I l) {i : Nat} {r : Int × Int × Int} (hr : l[i]? = some r) {Q : Int → HI → HD → Prop} (hQ : Q r.2.1 I D) : CI 15 [vR (some q), vI (i : Int)] e I D Q := by
  have hi := (List.getElem?_eq_some_iff.mp hr).1
  have hL := h.1
  have k := (kM hq).2.2.2.2.2.2.2.2.2
  refine S15 he hq ⟨fun a => by omega, fun _ => ⟨fun a => by omega, fun _ => ⟨fun a => by omega, fun _ => ⟨⟨by omega, by omega⟩, ?_⟩⟩⟩⟩
  rw [Int.toNat_natCast, (h.2 i r hr).2.2]; exact hQ
end
