/-! kinds of tokens as the model tells them -/
theorem eF_tok {g : Int → Int} {n p : Int} (h : p < n) (c : tkc (g p)) : eF g n p = tE g n p := by
  unfold eF; rw [if_neg (by omega), if_neg (by have := c.1; omega), if_neg c.2]
theorem mF_tok {g : Int → Int} {n p : Int} (h : p < n) (c : tkc (g p)) : mF g n p = nuF g p (eF g n p) := if_neg (by have := c.1; have := c.2; omega)
theorem kF_sign {g : Int → Int} {n p : Int} (h : p < n) (c : tkc (g p)) (hr : reg (g p) = false) : kF' g n p = (if g p = 47 then 8 else if g p = 60 then (if eF g n p = p + 2 then 9 else 1) else if g p = 62 then (if eF g n p = p + 2 then 10 else 1) else if g p = 91 then 11 else if g p = 93 then 12 else 1) := by
  have hm : ¬ 0 ≤ mF g n p := fun q => by have := (mF_reg q (by omega)).2; rw [hr] at this; cases this
  unfold kF'
  rw [if_neg (by have := c.1; have := c.2; omega), if_neg hm]
  unfold ksF
  rw [if_neg (by rw [hr]; decide)]
theorem kF_word {g : Int → Int} {n p : Int} (h : p < n) (hr : reg (g p) = true) : 2 ≤ kF' g n p ∧ kF' g n p ≤ 7 := by
  have c := reg_not hr
  unfold kF'
  rw [if_neg (by omega)]
  split
  · unfold knF
    split
    · omega
    · split
      · omega
      · split <;> omega
  · unfold ksF
    rw [if_pos hr]
    split
    · omega
    · split <;> omega
theorem is1 {g : Int → Int} {n p t : Int} {c : Nat} : isF g n p t [c] = true ↔ t = p + 1 ∧ 0 ≤ p ∧ p + 1 ≤ n ∧ g p = c := by
  simp [isF, stF, mat]
  constructor
  · intro h; omega
  · intro h; omega
theorem is2 {g : Int → Int} {n p t : Int} {c d : Nat} : isF g n p t [c, d] = true ↔ t = p + 2 ∧ 0 ≤ p ∧ p + 2 ≤ n ∧ g p = c ∧ g (p + 1) = d := by
  simp [isF, stF, mat]
  constructor
  · intro h; omega
  · intro h; omega
theorem reg_sig {c : Int} (h : c = 47 ∨ c = 60 ∨ c = 62 ∨ c = 91 ∨ c = 93) : reg c = false := by
  rcases h with rfl | rfl | rfl | rfl | rfl <;> decide
theorem tE_angle {g : Int → Int} {n p : Int} (h : g p = 60 ∨ g p = 62) : tE g n p = if p + 1 < n ∧ g (p + 1) = g p then p + 2 else p + 1 := by
  unfold tE; rw [if_neg (by omega), if_pos h]
theorem tE_one {g : Int → Int} {n p : Int} (h : g p = 91 ∨ g p = 93) : tE g n p = p + 1 := by
  unfold tE
  have : reg (g p) = false := reg_sig (by omega)
  rw [if_neg (by omega), if_neg (by omega), if_neg (fun w => by
    rw [this] at w
    rcases w with w | w
    · omega
    · cases w)]
theorem k_name {g : Int → Int} {n p : Int} (h : p < n) (c : tkc (g p)) : g p = 47 ↔ kF' g n p = 8 := by
  cases hr : reg (g p) with
  | true => have := kF_word h hr; have := reg_not hr; omega
  | false =>
    rw [kF_sign h c hr]
    split
    · simp [*]
    · constructor
      · intro q; omega
      · intro q; split at q
        · split at q <;> omega
        · split at q
          · split at q <;> omega
          · split at q
            · omega
            · split at q <;> omega
theorem k_open {g : Int → Int} {n p : Int} (h0 : 0 ≤ p) (h : p < n) (c : tkc (g p)) : isF g n p (eF g n p) [60, 60] = true ↔ kF' g n p = 9 := by
  rw [is2]
  cases hr : reg (g p) with
  | true => have := kF_word h hr; have := reg_not hr; omega
  | false =>
    rw [kF_sign h c hr]
    by_cases q : g p = 60
    · rw [if_neg (by omega), if_pos q]
      have e1 := eF_tok h c
      rw [tE_angle (Or.inl q)] at e1
      split at e1
      · rw [if_pos e1]; constructor
        · intro _; rfl
        · intro _; omega
      · rw [if_neg (by omega)]; constructor
        · intro w; omega
        · intro w; omega
    · constructor
      · intro w; omega
      · intro w; split at w
        · omega
        · split at w
          · split at w <;> omega
          · split at w
            · omega
            · split at w <;> omega
theorem k_close {g : Int → Int} {n p : Int} (h0 : 0 ≤ p) (h : p < n) (c : tkc (g p)) : isF g n p (eF g n p) [62, 62] = true ↔ kF' g n p = 10 := by
  rw [is2]
  cases hr : reg (g p) with
  | true => have := kF_word h hr; have := reg_not hr; omega
  | false =>
    rw [kF_sign h c hr]
    by_cases q : g p = 62
    · rw [if_neg (by omega), if_neg (by omega), if_pos q]
      have e1 := eF_tok h c
      rw [tE_angle (Or.inr q)] at e1
      split at e1
      · rw [if_pos e1]; constructor
        · intro _; rfl
        · intro _; omega
      · rw [if_neg (by omega)]; constructor
        · intro w; omega
        · intro w; omega
    · constructor
      · intro w; omega
      · intro w; split at w
        · omega
        · split at w
          · split at w <;> omega
          · split at w
            · omega
            · split at w <;> omega
theorem k_row {g : Int → Int} {n p : Int} (h0 : 0 ≤ p) (h : p < n) (c : tkc (g p)) : (isF g n p (eF g n p) [91] = true ↔ kF' g n p = 11) ∧ (isF g n p (eF g n p) [93] = true ↔ kF' g n p = 12) := by
  rw [is1, is1]
  cases hr : reg (g p) with
  | true => have := kF_word h hr; have := reg_not hr; omega
  | false =>
    rw [kF_sign h c hr]
    by_cases q : g p = 91 ∨ g p = 93
    · have e1 := eF_tok h c
      rw [tE_one q] at e1
      rw [if_neg (by omega), if_neg (by omega), if_neg (by omega)]
      rcases q with q | q
      · rw [if_pos q]; omega
      · rw [if_neg (by omega), if_pos q]; omega
    · have : ∀ x : Int, x = 11 ∨ x = 12 → (if g p = 47 then 8 else if g p = 60 then (if eF g n p = p + 2 then 9 else 1) else if g p = 62 then (if eF g n p = p + 2 then 10 else 1) else if g p = 91 then 11 else if g p = 93 then 12 else (1 : Int)) ≠ x := by
        intro x hx w
        split at w
        · omega
        · split at w
          · split at w <;> omega
          · split at w
            · split at w <;> omega
            · rw [if_neg (by omega), if_neg (by omega)] at w; omega
      refine ⟨⟨fun w => by omega, fun w => absurd w (this 11 (by omega))⟩, ⟨fun w => by omega, fun w => absurd w (this 12 (by omega))⟩⟩
section
variable {g : Int → Int} {n lim b : Int} {P : Int → Prop}
/-- what stands at the boundary, where the limit lies behind it -/
def HB (g : Int → Int) (n lim b : Int) : Prop := b ≤ lim ∧ lim ≤ n ∧ (b = lim ∨ (b < n ∧ tkc (g b) ∧ eF g n b ≤ lim ∧ mF g n b < 0 ∧ tx g n b 10 = false))
/-- a token before the boundary is not cut -/
theorem tk_lim (hB : Bd g n b P) (hb : HB g n lim b) {p a : Int} (hp : P p) (hl : p < b) (ha : a ≤ p) (hs : skp g n a = p) : skp g lim a = p ∧ tE g lim p = eF g n p := by
  obtain ⟨h1, h2, -⟩ := hb
  have t := ((hB.2 p hp).2 hl).2.1
  have e1 := hB.eFle hp hl
  refine ⟨?_, ?_⟩
  · rw [skp_min h2 _ a (by omega) (Nat.le_refl _), hs]; omega
  · rw [tE_min (by omega) h2, ← eF_tok (by omega) t]; omega
theorem prf (hB : Bd g n b P) (hb : HB g n lim b) {p : Int} (hp : P p) (hl : p < b) : (rfB g n lim p (eF g n p) (eF g n p) = true ↔ kF' g n p = 4) ∧ (kF' g n p = 4 → rfE g lim (eF g n p) = e3F g n p) := by
  have hb0 := hb
  obtain ⟨h1, h2, h3⟩ := hb
  have pb := (hB.2 p hp).1
  have t := ((hB.2 p hp).2 hl).2.1
  have e1 := hB.eFle hp hl
  have hq := hB.nx hp hl
  have qb := (hB.2 _ hq).1
  have z10 : zstr 10 = [82] := by decide
  have sq : skp g lim (eF g n p) = min lim (nxF g n p) := skp_min h2 _ _ (by omega) (Nat.le_refl _)
  have hk : kF' g n p = 4 ↔ 0 ≤ mF g n p ∧ 0 ≤ mF g n (nxF g n p) ∧ tx g n (nxF g n (nxF g n p)) 10 = true := by
    constructor
    · intro w; have := ref_len (by omega) w; exact ⟨this.2.2.2.2.2.1, this.2.2.2.2.2.2.1, this.2.2.2.2.2.2.2⟩
    · intro w
      unfold kF'
      rw [if_neg (by have := t.1; have := t.2; omega), if_pos w.1]
      unfold knF
      rw [if_neg (by omega), if_pos w.2.2]
  have hm : nuF g p (eF g n p) = mF g n p := (mF_tok (by omega) t).symm
  -- the second token
  by_cases c1 : nxF g n p < lim
  · have s1 : skp g lim (eF g n p) = nxF g n p := by omega
    have tq : tkc (g (nxF g n p)) ∧ eF g n (nxF g n p) ≤ lim ∧ nxF g n p < n := by
      by_cases w : nxF g n p < b
      · exact ⟨((hB.2 _ hq).2 w).2.1, by have := (hB.eFle hq w).2; omega, by omega⟩
      · have : nxF g n p = b := by omega
        rw [this]
        rcases h3 with h3 | h3
        · omega
        · exact ⟨h3.2.1, h3.2.2.1, h3.1⟩
    have hmq : nuF g (nxF g n p) (eF g n (nxF g n p)) = mF g n (nxF g n p) := (mF_tok tq.2.2 tq.1).symm
    have t1 : tE g lim (nxF g n p) = eF g n (nxF g n p) := by rw [tE_min c1 h2, ← eF_tok tq.2.2 tq.1]; omega
    have s2 : skp g lim (eF g n (nxF g n p)) = min lim (nxF g n (nxF g n p)) := skp_min h2 _ _ tq.2.1 (Nat.le_refl _)
    have nq := nxF_bd (g := g) (show nxF g n p ≤ n by omega)
    by_cases c2 : 0 ≤ mF g n (nxF g n p) ∧ nxF g n (nxF g n p) < lim
    · have wb : nxF g n p < b := by
        rcases Int.lt_or_le (nxF g n p) b with w | w
        · exact w
        · have : nxF g n p = b := by omega
          rw [this] at c2 c1
          rcases h3 with h3 | h3 <;> omega
      have hr := hB.nx hq wb
      have rb := (hB.2 _ hr).1
      have tr : tkc (g (nxF g n (nxF g n p))) ∧ eF g n (nxF g n (nxF g n p)) ≤ lim ∧ nxF g n (nxF g n p) < n := by
        by_cases w : nxF g n (nxF g n p) < b
        · exact ⟨((hB.2 _ hr).2 w).2.1, by have := (hB.eFle hr w).2; omega, by omega⟩
        · have : nxF g n (nxF g n p) = b := by omega
          rw [this]
          rcases h3 with h3 | h3
          · omega
          · exact ⟨h3.2.1, h3.2.2.1, h3.1⟩
      have t2 : tE g lim (nxF g n (nxF g n p)) = eF g n (nxF g n (nxF g n p)) := by rw [tE_min c2.2 h2, ← eF_tok tr.2.2 tr.1]; omega
      have s3 : skp g lim (eF g n (nxF g n p)) = nxF g n (nxF g n p) := by omega
      unfold rfB rfE e3F
      rw [s1, t1, s3, t2, hm, hmq, hk]
      refine ⟨?_, fun _ => rfl⟩
      unfold tx
      rw [z10]
      simp only [Bool.and_eq_true, decide_eq_true_eq]
      constructor
      · intro w; exact ⟨w.1, w.2.2.1, w.2.2.2.2⟩
      · intro w; exact ⟨w.1, c1, w.2.1, c2.2, w.2.2⟩
    · have no : ¬ kF' g n p = 4 := by
        intro w
        have a := (((hB.2 p hp).2 hl).2.2 w)
        have := ref_len (by omega) w
        exact c2 ⟨this.2.2.2.2.2.2.1, by omega⟩
      refine ⟨⟨fun w => ?_, fun w => absurd w no⟩, fun w => absurd w no⟩
      exfalso
      unfold rfB at w
      rw [s1, t1, hmq, s2] at w
      simp only [Bool.and_eq_true, decide_eq_true_eq] at w
      apply c2
      exact ⟨w.2.2.1, by omega⟩
  · have no : ¬ kF' g n p = 4 := by
      intro w
      have a := (((hB.2 p hp).2 hl).2.2 w)
      omega
    refine ⟨⟨fun w => ?_, fun w => absurd w no⟩, fun w => absurd w no⟩
    exfalso
    unfold rfB at w
    rw [sq] at w
    simp only [Bool.and_eq_true, decide_eq_true_eq] at w
    omega
end
