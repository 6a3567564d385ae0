/-! the tokens in their order; a dictionary read up to the word stream; keys -/
def itX (g : Int → Int) (n : Int) : Nat → Int → Int
  | 0, p => p
  | k + 1, p => nxF g n (itX g n k p)
def Pth (g : Int → Int) (n p0 q : Int) : Prop := ∃ k, q = itX g n k p0
section
variable {g : Int → Int} {n : Int}
theorem Pth.nx {p0 q : Int} (h : Pth g n p0 q) : Pth g n p0 (nxF g n q) := by
  obtain ⟨k, rfl⟩ := h
  exact ⟨k + 1, rfl⟩
theorem Pth.refl {p0 : Int} : Pth g n p0 p0 := ⟨0, rfl⟩
theorem itX_le {p0 : Int} (h : p0 ≤ n) (k : Nat) : itX g n k p0 ≤ n ∧ p0 ≤ itX g n k p0 := by
  induction k with
  | zero => exact ⟨h, Int.le_refl _⟩
  | succ k ih =>
    have := nxF_bd (g := g) ih.1
    exact ⟨this.2.1, by show p0 ≤ nxF g n _; omega⟩
theorem itX_mono {p0 : Int} (h : p0 ≤ n) {i j : Nat} (hij : i ≤ j) : itX g n i p0 ≤ itX g n j p0 := by
  obtain ⟨c, rfl⟩ := Nat.exists_eq_add_of_le hij
  induction c with
  | zero => exact Int.le_refl _
  | succ c ih =>
    have a := ih (by omega)
    have b := nxF_bd (g := g) (itX_le (g := g) h (i + c)).1
    show itX g n i p0 ≤ nxF g n (itX g n (i + c) p0)
    omega
theorem Pth.bd {p0 q : Int} (h : p0 ≤ n) (hq : Pth g n p0 q) : p0 ≤ q ∧ q ≤ n := by
  obtain ⟨k, rfl⟩ := hq
  have := itX_le (g := g) h k
  exact ⟨this.2, this.1⟩
theorem path_le {p0 q r : Int} (h : p0 ≤ n) (hq : Pth g n p0 q) (hr : Pth g n p0 r) (hlt : q < r) : nxF g n q ≤ r := by
  obtain ⟨i, rfl⟩ := hq
  obtain ⟨j, rfl⟩ := hr
  rcases Nat.lt_or_ge i j with c | c
  · exact itX_mono (g := g) h (show i + 1 ≤ j from c)
  · have := itX_mono (g := g) h c
    omega
theorem path_inj {p0 c l q : Int} (h : p0 ≤ n) (hc : Pth g n p0 c) (hl : Pth g n p0 l) (h1 : nxF g n c = q) (h2 : nxF g n l = q) (h3 : c < q) (h4 : l < q) : c = l := by
  rcases Int.lt_trichotomy c l with w | w | w
  · have := path_le h hc hl w; omega
  · exact w
  · have := path_le h hl hc w; omega
theorem itX_front {p0 : Int} (k : Nat) : itX g n (k + 1) p0 = itX g n k (nxF g n p0) := by
  induction k with
  | zero => rfl
  | succ k ih => show nxF g n (itX g n (k + 1) p0) = nxF g n (itX g n k (nxF g n p0)); rw [ih]
theorem path_walk {q : Int} (k : Nat) : ∀ p0 : Int, p0 ≤ n → itX g n k p0 = q → wW g n (fun p => p == q) p0 = q := by
  induction k with
  | zero =>
    intro p0 h hq
    have hq : p0 = q := hq
    subst hq
    exact wW_stop (Or.inl (by simp))
  | succ k ih =>
    intro p0 h hq
    by_cases c : p0 = q
    · subst c; exact wW_stop (Or.inl (by simp))
    · have hn : p0 < n := by
        rcases Int.lt_or_le p0 n with w | w
        · exact w
        · have := itX_le (g := g) h (k + 1); omega
      rw [itX_front] at hq
      rw [wW_go (fun w => by rcases w with w | w; exact c (by simpa using w); omega)]
      exact ih _ (nxF_bd (g := g) h).2.1 hq
theorem Bd.pth {b p0 : Int} {P : Int → Prop} (hB : Bd g n b P) : Bd g n b (fun p => P p ∧ Pth g n p0 p) := by
  refine ⟨hB.1, fun p hp => ⟨(hB.2 p hp.1).1, fun hlt => ?_⟩⟩
  have := (hB.2 p hp.1).2 hlt
  exact ⟨⟨this.1, hp.2.nx⟩, this.2⟩
/-- up to the word stream -/
theorem Bd_st {p0 q : Int} (hq : q ≤ n) (ht : tx g n q 23 = true) : Bd g n q (fun p => onW g n (fun p => p == q) q p ∧ Pth g n p0 p) := by
  refine (Bd_on (S := fun p => p == q) hq fun p hp k4 => ?_).pth
  obtain ⟨l1, l2, l3, l4, l5, l6, l7, l8⟩ := ref_len hp k4
  have rm := ref_mid hp k4
  have hz : zstr 23 = [115, 116, 114, 101, 97, 109] := by decide
  have gq : g q = 115 := by
    unfold tx isF stF at ht
    rw [hz] at ht
    simp only [Bool.and_eq_true, mat, beq_iff_eq] at ht
    exact ht.2.2.1
  refine ⟨fun w => ?_, fun w => ?_⟩
  · subst w
    have := (mF_tok l4 (skp_tk l4 (skp_skp (eF_bd (g := g) hp).2.1)))
    rw [this] at l7
    have e1 := tx_len ht
    have e2 : (zstr 23).length = 6 := by decide
    unfold nuF at l7
    rw [e1, e2, if_neg (by omega), show (nxF g n p + ((6 : Nat) : Int) - nxF g n p).toNat = 5 + 1 by omega] at l7
    unfold nuN at l7
    rw [if_pos (by rw [gq]; omega)] at l7
    omega
  · subst w
    exact absurd (tx_eq l8 ht) (by decide)
theorem Bd_st0 {p0 q : Int} (h0 : 0 ≤ p0) (h1 : p0 ≤ n) (hs : skp g n p0 = p0) (hq : Pth g n p0 q) : onW g n (fun p => p == q) q p0 ∧ Pth g n p0 p0 := by
  obtain ⟨k, rfl⟩ := hq
  exact ⟨⟨⟨h0, h1⟩, hs, path_walk k p0 h1 rfl⟩, Pth.refl⟩
theorem dic_cl {b : Int} {P : Int → Prop} (hB : Bd g n b P) (k : Nat) : ∀ (p : Int) (ps : PrL) (rs : RfL), P p → 5 * (rs.length : Int) ≤ p → (dicN g n b k p ps rs).2.1 = true → ∃ c, P c ∧ c < b ∧ (dicN g n b k p ps rs).1 = eF g n c := by
  have hn := hB.1
  induction k with
  | zero => intro p ps rs _ _ h; cases h
  | succ k ih =>
    intro p ps rs hp h5 h
    have pb := (hB.2 p hp).1
    unfold dicN at h ⊢
    split at h
    · cases h
    · rename_i hlt
      have hlt : p < b := by omega
      have nb := (nxF_bd (g := g) (show p ≤ n by omega)).2.2 (by omega)
      have hnx := hB.nx hp hlt
      rw [if_neg (by omega)]
      split at h
      · rename_i k10
        rw [if_pos k10]
        exact ⟨p, hp, hlt, rfl⟩
      · rename_i k10
        rw [if_neg k10]
        split at h
        · rename_i c
          rw [if_pos c]
          have vo := valF_ok hB 0 hnx c.2.2 (rs := rs) (by omega)
          have s := skp_bd (g := g) (show (valF g n b (nxF g n p) rs).1 ≤ n by omega)
          exact ih _ _ _ vo.2.2.1 (by omega) h
        · rename_i c
          rw [if_neg c]
          exact ih _ _ _ hnx (by omega) h
/-- a pair's value stands where it may; what refers to an object is among the references -/
def prP (g : Int → Int) (n b : Int) (P : Int → Prop) (rs : RfL) (pr : Int × Int × Int × Nat × Nat) : Prop :=
  P pr.2.1 ∧ pr.2.1 < b ∧ (kF' g n pr.2.1 = 4 → rs[pr.2.2.2.1]? = some (pr.2.1, e3F g n pr.2.1, mF g n pr.2.1))
theorem dic_pr {b : Int} {P : Int → Prop} (hB : Bd g n b P) (k : Nat) : ∀ (p : Int) (ps : PrL) (rs : RfL), P p → 5 * (rs.length : Int) ≤ p → (∀ pr ∈ ps, prP g n b P rs pr) → ∀ pr ∈ (dicN g n b k p ps rs).2.2.1, prP g n b P (dicN g n b k p ps rs).2.2.2 pr := by
  have hn := hB.1
  induction k with
  | zero => intro p ps rs _ _ h; exact h
  | succ k ih =>
    intro p ps rs hp h5 h
    have pb := (hB.2 p hp).1
    unfold dicN
    split
    · exact h
    · rename_i hlt
      have hlt : p < b := by omega
      have nb := (nxF_bd (g := g) (show p ≤ n by omega)).2.2 (by omega)
      have hnx := hB.nx hp hlt
      split
      · exact h
      · split
        · rename_i c
          have vo := valF_ok hB 0 hnx c.2.2 (rs := rs) (by omega)
          have s := skp_bd (g := g) (show (valF g n b (nxF g n p) rs).1 ≤ n by omega)
          obtain ⟨t, ht⟩ := val_app (g := g) (n := n) (lim := b) (q := nxF g n p) (rs := rs)
          refine ih _ _ _ vo.2.2.1 (by omega) fun pr hpr => ?_
          rcases List.mem_append.mp hpr with hpr | hpr
          · have := h pr hpr
            refine ⟨this.1, this.2.1, fun k4 => ?_⟩
            have h4 := this.2.2 k4
            rw [ht, List.getElem?_append_left (List.getElem?_eq_some_iff.mp h4).1]; exact h4
          · rw [List.mem_singleton] at hpr
            subst hpr
            refine ⟨hnx, c.2.2, fun k4 => ?_⟩
            have k4 : kF' g n (nxF g n p) = 4 := k4
            have e1 : (valF g n b (nxF g n p) rs).2 = rs ++ [(nxF g n p, e3F g n (nxF g n p), mF g n (nxF g n p))] := by
              unfold valF
              rw [if_neg (by omega), if_neg (by omega), if_pos k4]
            show (valF g n b (nxF g n p) rs).2[rs.length]? = _
            rw [e1, List.getElem?_append_right (Nat.le_refl _), Nat.sub_self]; rfl
        · exact ih _ _ _ hnx (by omega) h
/-- the last pair of a name -/
theorem ky_fold {k t : Nat} {F : Int × Int × Int × Nat × Nat → Int} (hk : ∀ pr S, kpF g n 0 pr S k = if tx g n pr.1 t = true then F pr else S k) (ps : PrL) :
    dfF g n 0 ps k = (match kyF g n (zstr t) ps with | some pr => F pr | none => df0 k) := by
  have gen : ∀ (ps : PrL) (S : Nat → Int) (o : Option (Int × Int × Int × Nat × Nat)), S k = (match o with | some pr => F pr | none => df0 k) →
      (ps.foldl (fun S pr => kpF g n 0 pr S) S) k = (match (ps.foldl (fun o pr => if askP g n (zstr t) pr = true then some pr else o) o) with | some pr => F pr | none => df0 k) := by
    intro ps
    induction ps with
    | nil => intro S o h; exact h
    | cons pr ps ih =>
      intro S o h
      refine ih _ _ ?_
      show kpF g n 0 pr S k = _
      rw [hk]
      have e1 : askP g n (zstr t) pr = tx g n pr.1 t := rfl
      dsimp only
      rw [e1]
      by_cases c : tx g n pr.1 t = true
      · simp only [if_pos c]
      · simp only [if_neg c]; exact h
  exact gen ps df0 none rfl
theorem ky_mem {l : List Nat} {ps : PrL} {pr : Int × Int × Int × Nat × Nat} (h : kyF g n l ps = some pr) : pr ∈ ps := by
  have gen : ∀ (qs : PrL) (o : Option (Int × Int × Int × Nat × Nat)), (∀ x, o = some x → x ∈ ps) → (∀ x ∈ qs, x ∈ ps) → ∀ x, (qs.foldl (fun o pr => if askP g n l pr = true then some pr else o) o) = some x → x ∈ ps := by
    intro qs
    induction qs with
    | nil => intro o h1 _ x hx; exact h1 x hx
    | cons a qs ih =>
      intro o h1 h2 x hx
      refine ih _ (fun y hy => ?_) (fun y hy => h2 y (List.mem_cons_of_mem _ hy)) x hx
      dsimp only at hy
      split at hy
      · cases hy; exact h2 a (List.mem_cons_self ..)
      · exact h1 y hy
  exact gen ps none (fun x hx => by cases hx) (fun x hx => hx) pr h
def fKd (g : Int → Int) (n : Int) (pr : Int × Int × Int × Nat × Nat) : Int := if tx g n pr.2.1 16 = true then 1 else if tx g n pr.2.1 17 = true then 2 else if tx g n pr.2.1 18 = true then 3 else 0
def fRf (g : Int → Int) (n : Int) (pr : Int × Int × Int × Nat × Nat) : Int := if kF' g n pr.2.1 = 4 then mF g n pr.2.1 else 0
def fNu (g : Int → Int) (n : Int) (pr : Int × Int × Int × Nat × Nat) : Int := if kF' g n pr.2.1 = 4 then -1 else mF g n pr.2.1
theorem ky_3 (ps : PrL) : dfF g n 0 ps 3 = (match kyF g n (zstr 15) ps with | some pr => fKd g n pr | none => 0) := ky_fold (F := fKd g n) (fun pr S => by simp [kpF, fKd]) ps
def kyR (g : Int → Int) (n : Int) (l : List Nat) (ps : PrL) : Int := match kyF g n l ps with | some pr => fRf g n pr | none => 0
theorem ky_4 (ps : PrL) : dfF g n 0 ps 4 = kyR g n (zstr 17) ps := ky_fold (F := fRf g n) (fun pr S => by simp [kpF, fRf]) ps
theorem ky_5 (ps : PrL) : dfF g n 0 ps 5 = (match kyF g n (zstr 20) ps with | some pr => fNu g n pr | none => -1) := ky_fold (F := fNu g n) (fun pr S => by simp [kpF, fNu]) ps
theorem ky_6 (ps : PrL) : dfF g n 0 ps 6 = kyR g n (zstr 21) ps := ky_fold (F := fRf g n) (fun pr S => by simp [kpF, fRf]) ps
theorem ky_7 (ps : PrL) : dfF g n 0 ps 7 = (match kyF g n (zstr 22) ps with | some pr => fNu g n pr | none => -1) := ky_fold (F := fNu g n) (fun pr S => by simp [kpF, fNu]) ps
theorem ky_8 (ps : PrL) : dfF g n 0 ps 8 = (match kyF g n (zstr 19) ps with | some pr => (pr.2.2.2.1 : Int) | none => 0) := ky_fold (F := fun pr => (pr.2.2.2.1 : Int)) (fun pr S => by simp [kpF]) ps
theorem ky_9 (ps : PrL) : dfF g n 0 ps 9 = (match kyF g n (zstr 19) ps with | some pr => (pr.2.2.2.2 : Int) | none => 0) := ky_fold (F := fun pr => (pr.2.2.2.2 : Int)) (fun pr S => by simp [kpF]) ps
end
