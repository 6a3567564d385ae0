/-! tokens, as pure functions of the bytes g and a limit -/
def ffN (P : Int → Bool) : Nat → Int → Int
  | 0, p => p
  | k + 1, p => if P p = true then p else ffN P k (p + 1)
/-- the first place from p on that P likes, or the limit -/
def ff (P : Int → Bool) (lim p : Int) : Int := ffN P (lim - p).toNat p
theorem ff_ge {P : Int → Bool} {lim p : Int} (h : lim ≤ p) : ff P lim p = p := by
  unfold ff
  rw [show (lim - p).toNat = 0 by omega]; rfl
theorem ff_hit {P : Int → Bool} {lim p : Int} (h2 : P p = true) : ff P lim p = p := by
  unfold ff
  cases (lim - p).toNat with
  | zero => rfl
  | succ k => exact if_pos h2
theorem ff_go {P : Int → Bool} {lim p : Int} (h : p < lim) (h2 : P p = false) : ff P lim p = ff P lim (p + 1) := by
  unfold ff
  rw [show (lim - p).toNat = (lim - (p + 1)).toNat + 1 by omega]
  show (if P p = true then p else _) = _
  rw [if_neg (by rw [h2]; decide)]
theorem ff_all {P : Int → Bool} {lim : Int} (k : Nat) : ∀ p : Int, p ≤ lim → (lim - p).toNat = k → p ≤ ff P lim p ∧ ff P lim p ≤ lim ∧ (ff P lim p < lim → P (ff P lim p) = true) ∧ (∀ q, p ≤ q → q < ff P lim p → P q = false) := by
  induction k with
  | zero =>
    intro p hp hk
    rw [ff_ge (by omega)]
    exact ⟨by omega, hp, fun h => by omega, fun q h1 h2 => by omega⟩
  | succ k ih =>
    intro p hp hk
    cases hP : P p with
    | true => rw [ff_hit hP]; exact ⟨by omega, hp, fun _ => hP, fun q h1 h2 => by omega⟩
    | false =>
      rw [ff_go (by omega) hP]
      obtain ⟨a, b, c, d⟩ := ih (p + 1) (by omega) (by omega)
      refine ⟨by omega, b, c, fun q h1 h2 => ?_⟩
      by_cases e : q = p
      · rw [e]; exact hP
      · exact d q (by omega) h2
theorem ff_bd {P : Int → Bool} {lim p : Int} (h : p ≤ lim) : p ≤ ff P lim p ∧ ff P lim p ≤ lim := ⟨(ff_all _ p h rfl).1, (ff_all _ p h rfl).2.1⟩
theorem ff_stop {P : Int → Bool} {lim p : Int} (h : p ≤ lim) (h2 : ff P lim p < lim) : P (ff P lim p) = true := (ff_all _ p h rfl).2.2.1 h2
theorem ff_before {P : Int → Bool} {lim p q : Int} (h : p ≤ lim) (h1 : p ≤ q) (h2 : q < ff P lim p) : P q = false := (ff_all _ p h rfl).2.2.2 q h1 h2
theorem ff_is {P : Int → Bool} {lim p q : Int} (h1 : p ≤ q) (h2 : q ≤ lim) (h3 : q < lim → P q = true) (h4 : ∀ r, p ≤ r → r < q → P r = false) : ff P lim p = q := by
  obtain ⟨a, b⟩ := ff_bd (P := P) (show p ≤ lim by omega)
  rcases Int.lt_trichotomy (ff P lim p) q with h | h | h
  · have := h4 _ a h
    have s := ff_stop (P := P) (lim := lim) (p := p) (by omega) (by omega)
    rw [s] at this
    cases this
  · exact h
  · have := ff_before (P := P) (show p ≤ lim by omega) h1 h
    rw [h3 (by omega)] at this
    cases this
theorem ff_min {P : Int → Bool} {lim n p : Int} (h : p ≤ lim) (h2 : lim ≤ n) : ff P lim p = min lim (ff P n p) := by
  obtain ⟨a, b⟩ := ff_bd (P := P) (show p ≤ n by omega)
  refine ff_is (by omega) (by omega) (fun q => ?_) (fun r h1 h3 => ff_before (lim := n) (by omega) h1 (by omega))
  have : min lim (ff P n p) = ff P n p := by omega
  rw [this]
  exact ff_stop (by omega) (by omega)
/-- the signs that are no part of a word -/
def sgn (c : Int) : Bool := c == 40 || c == 41 || c == 60 || c == 62 || c == 91 || c == 93 || c == 123 || c == 125 || c == 47 || c == 37
def reg (c : Int) : Bool := decide (32 < c) && !sgn c
def nlP (g : Int → Int) (q : Int) : Bool := g q == 10
def paP (g : Int → Int) (q : Int) : Bool := g q == 41
def nrP (g : Int → Int) (q : Int) : Bool := !reg (g q)
def skN (g : Int → Int) (lim : Int) : Nat → Int → Int
  | 0, p => p
  | k + 1, p => if p < lim then (if g p = 37 then skN g lim k (ff (nlP g) lim p) else if g p ≤ 32 then skN g lim k (p + 1) else p) else p
/-- behind blanks and comments -/
def skp (g : Int → Int) (lim p : Int) : Int := skN g lim (lim - p).toNat p
theorem com_lt {g : Int → Int} {lim p : Int} (h : p < lim) (h2 : g p = 37) : p < ff (nlP g) lim p := by
  have hf : nlP g p = false := by simp [nlP, h2]
  rw [ff_go h hf]
  have := (ff_bd (P := nlP g) (show p + 1 ≤ lim by omega)).1
  omega
theorem skN_same {g : Int → Int} {lim : Int} (k : Nat) : ∀ (k' : Nat) (p : Int), (lim - p).toNat ≤ k → (lim - p).toNat ≤ k' → skN g lim k p = skN g lim k' p := by
  induction k with
  | zero =>
    intro k' p h1 h2
    cases k' with
    | zero => rfl
    | succ k' => show p = if p < lim then _ else p; rw [if_neg (by omega)]
  | succ k ih =>
    intro k' p h1 h2
    cases k' with
    | zero => show (if p < lim then _ else p) = p; rw [if_neg (by omega)]
    | succ k' =>
      show (if p < lim then _ else p) = if p < lim then _ else p
      by_cases h : p < lim
      · rw [if_pos h, if_pos h]
        by_cases c : g p = 37
        · rw [if_pos c, if_pos c]
          have := com_lt h c
          exact ih k' _ (by omega) (by omega)
        · rw [if_neg c, if_neg c]
          by_cases b : g p ≤ 32
          · rw [if_pos b, if_pos b]; exact ih k' _ (by omega) (by omega)
          · rw [if_neg b, if_neg b]
      · rw [if_neg h, if_neg h]
theorem skp_ge {g : Int → Int} {lim p : Int} (h : lim ≤ p) : skp g lim p = p := by
  unfold skp
  rw [show (lim - p).toNat = 0 by omega]; rfl
theorem skp_eq {g : Int → Int} {lim p : Int} (h : p < lim) : skp g lim p = if g p = 37 then skp g lim (ff (nlP g) lim p) else if g p ≤ 32 then skp g lim (p + 1) else p := by
  unfold skp
  rw [show (lim - p).toNat = (lim - (p + 1)).toNat + 1 by omega]
  show (if p < lim then _ else p) = _
  rw [if_pos h]
  by_cases c : g p = 37
  · rw [if_pos c, if_pos c]
    have := com_lt h c
    exact skN_same _ _ _ (by omega) (by omega)
  · rw [if_neg c, if_neg c]
theorem skp_com {g : Int → Int} {lim p : Int} (h : p < lim) (c : g p = 37) : skp g lim p = skp g lim (ff (nlP g) lim p) := by rw [skp_eq h, if_pos c]
theorem skp_bl {g : Int → Int} {lim p : Int} (h : p < lim) (c : g p ≤ 32) : skp g lim p = skp g lim (p + 1) := by rw [skp_eq h, if_neg (by omega), if_pos c]
/-- a token begins here -/
def tkc (c : Int) : Prop := 32 < c ∧ c ≠ 37
theorem skp_tok {g : Int → Int} {lim p : Int} (c : tkc (g p)) : skp g lim p = p := by
  obtain ⟨c1, c2⟩ := c
  rcases Int.lt_or_le p lim with h | h
  · rw [skp_eq h, if_neg c2, if_neg (by omega)]
  · exact skp_ge h
theorem skp_all {g : Int → Int} {lim : Int} (k : Nat) : ∀ p : Int, p ≤ lim → (lim - p).toNat ≤ k → p ≤ skp g lim p ∧ skp g lim p ≤ lim ∧ (skp g lim p < lim → tkc (g (skp g lim p))) := by
  induction k with
  | zero => intro p h1 h2; rw [skp_ge (by omega)]; exact ⟨by omega, h1, fun h => by omega⟩
  | succ k ih =>
    intro p h1 h2
    rcases Int.lt_or_le p lim with h | h
    · rw [skp_eq h]
      by_cases c : g p = 37
      · rw [if_pos c]
        have e1 := com_lt h c
        obtain ⟨-, e2⟩ := ff_bd (P := nlP g) h1
        obtain ⟨a1, a2, a3⟩ := ih (ff (nlP g) lim p) e2 (by omega)
        exact ⟨by omega, a2, a3⟩
      · rw [if_neg c]
        by_cases b : g p ≤ 32
        · rw [if_pos b]
          obtain ⟨a1, a2, a3⟩ := ih (p + 1) (by omega) (by omega)
          exact ⟨by omega, a2, a3⟩
        · rw [if_neg b]; exact ⟨by omega, h1, fun _ => ⟨by omega, c⟩⟩
    · rw [skp_ge h]; exact ⟨by omega, h1, fun h => by omega⟩
theorem skp_bd {g : Int → Int} {lim p : Int} (h : p ≤ lim) : p ≤ skp g lim p ∧ skp g lim p ≤ lim := ⟨(skp_all _ p h (Nat.le_refl _)).1, (skp_all _ p h (Nat.le_refl _)).2.1⟩
theorem skp_at {g : Int → Int} {lim p : Int} (h : p ≤ lim) (h2 : skp g lim p < lim) : tkc (g (skp g lim p)) := (skp_all _ p h (Nat.le_refl _)).2.2 h2
theorem skp_skp {g : Int → Int} {lim p : Int} (h : p ≤ lim) : skp g lim (skp g lim p) = skp g lim p := by
  rcases Int.lt_or_le (skp g lim p) lim with h1 | h1
  · exact skp_tok (skp_at h h1)
  · exact skp_ge h1
theorem skp_min {g : Int → Int} {lim n : Int} (h2 : lim ≤ n) (k : Nat) : ∀ p : Int, p ≤ lim → (lim - p).toNat ≤ k → skp g lim p = min lim (skp g n p) := by
  induction k with
  | zero =>
    intro p h hk
    rw [skp_ge (by omega)]
    have := (skp_bd (g := g) (show p ≤ n by omega)).1
    omega
  | succ k ih =>
    intro p h hk
    rcases Int.lt_or_le p lim with h1 | h1
    · rw [skp_eq h1, skp_eq (show p < n by omega)]
      by_cases c : g p = 37
      · rw [if_pos c, if_pos c]
        have e1 := com_lt h1 c
        obtain ⟨-, e2⟩ := ff_bd (P := nlP g) h
        have e3 := ff_min (P := nlP g) h h2
        rw [ih _ e2 (by omega)]
        rcases Int.lt_or_le (ff (nlP g) n p) lim with q | q
        · rw [show ff (nlP g) lim p = ff (nlP g) n p by omega]
        · have q1 := (ff_bd (P := nlP g) (show p ≤ n by omega)).2
          have q2 := (skp_bd (g := g) q1).1
          have q3 := (skp_bd (g := g) (show ff (nlP g) lim p ≤ n by omega)).1
          omega
      · rw [if_neg c, if_neg c]
        by_cases b : g p ≤ 32
        · rw [if_pos b, if_pos b]; exact ih _ (by omega) (by omega)
        · rw [if_neg b, if_neg b]; omega
    · rw [skp_ge h1]
      have := (skp_bd (g := g) (show p ≤ n by omega)).1
      omega
/-- where the token that begins at p ends -/
def tE (g : Int → Int) (lim p : Int) : Int :=
  if g p = 40 then (if ff (paP g) lim (p + 1) < lim then ff (paP g) lim (p + 1) + 1 else ff (paP g) lim (p + 1))
  else if g p = 60 ∨ g p = 62 then (if p + 1 < lim ∧ g (p + 1) = g p then p + 2 else p + 1)
  else if g p = 47 ∨ reg (g p) = true then ff (nrP g) lim (p + 1) else p + 1
theorem tE_bd {g : Int → Int} {lim p : Int} (h : p < lim) : p < tE g lim p ∧ tE g lim p ≤ lim := by
  have a := ff_bd (P := paP g) (show p + 1 ≤ lim by omega)
  have b := ff_bd (P := nrP g) (show p + 1 ≤ lim by omega)
  unfold tE
  split
  · split <;> omega
  · split
    · split <;> omega
    · split <;> omega
theorem tE_min {g : Int → Int} {lim n p : Int} (h : p < lim) (h2 : lim ≤ n) : tE g lim p = min lim (tE g n p) := by
  have a := ff_min (P := paP g) (show p + 1 ≤ lim by omega) h2
  have b := ff_min (P := nrP g) (show p + 1 ≤ lim by omega) h2
  have c := ff_bd (P := paP g) (show p + 1 ≤ n by omega)
  unfold tE
  by_cases h40 : g p = 40
  · rw [if_pos h40, if_pos h40]
    split <;> split <;> omega
  · rw [if_neg h40, if_neg h40]
    by_cases h6 : g p = 60 ∨ g p = 62
    · rw [if_pos h6, if_pos h6]
      by_cases h7 : g (p + 1) = g p
      · by_cases h8 : p + 1 < lim
        · rw [if_pos ⟨h8, h7⟩, if_pos ⟨by omega, h7⟩]; omega
        · rw [if_neg (fun q => h8 q.1)]
          split <;> omega
      · rw [if_neg (fun q => h7 q.2), if_neg (fun q => h7 q.2)]; omega
    · rw [if_neg h6, if_neg h6]
      split <;> omega
/-- a number's value, or -1 -/
def nuN (g : Int → Int) : Nat → Int → Int → Int
  | 0, _, v => v
  | k + 1, p, v => if g p < 48 ∨ 57 < g p then -1 else nuN g k (p + 1) (v * 10 + (g p - 48))
def nuF (g : Int → Int) (f t : Int) : Int := if t - f > 6 then -1 else nuN g (t - f).toNat f 0
/-- the bytes of a word stand at p -/
def mat (g : Int → Int) : Int → List Nat → Bool
  | _, [] => true
  | p, c :: cs => g p == (c : Int) && mat g (p + 1) cs
def stF (g : Int → Int) (n p : Int) (w : List Nat) : Bool := decide (0 ≤ p ∧ p + w.length ≤ n) && mat g p w
def isF (g : Int → Int) (n f t : Int) (w : List Nat) : Bool := decide (t - f = w.length) && stF g n f w
