/-! walks from token to token up to a boundary -/
def wN (g : Int → Int) (n : Int) (S : Int → Bool) : Nat → Int → Int
  | 0, p => p
  | k + 1, p => if S p = true ∨ n ≤ p then p else wN g n S k (nxF g n p)
/-- the first place on the walk that S likes, or the end -/
def wW (g : Int → Int) (n : Int) (S : Int → Bool) (p : Int) : Int := wN g n S (n - p).toNat p
theorem wN_same {g : Int → Int} {n : Int} {S : Int → Bool} (k : Nat) : ∀ (k' : Nat) (p : Int), p ≤ n → (n - p).toNat ≤ k → (n - p).toNat ≤ k' → wN g n S k p = wN g n S k' p := by
  induction k with
  | zero =>
    intro k' p h h1 h2
    cases k' with
    | zero => rfl
    | succ k' => show p = if S p = true ∨ n ≤ p then p else _; rw [if_pos (Or.inr (by omega))]
  | succ k ih =>
    intro k' p h h1 h2
    cases k' with
    | zero => show (if S p = true ∨ n ≤ p then p else _) = p; rw [if_pos (Or.inr (by omega))]
    | succ k' =>
      show (if S p = true ∨ n ≤ p then p else _) = if S p = true ∨ n ≤ p then p else _
      by_cases c : S p = true ∨ n ≤ p
      · rw [if_pos c, if_pos c]
      · rw [if_neg c, if_neg c]
        have b := nxF_bd (g := g) h
        have b3 := b.2.2 (by omega)
        exact ih k' _ b.2.1 (by omega) (by omega)
theorem wW_stop {g : Int → Int} {n p : Int} {S : Int → Bool} (c : S p = true ∨ n ≤ p) : wW g n S p = p := by
  unfold wW
  cases (n - p).toNat with
  | zero => rfl
  | succ k => exact if_pos c
theorem wW_go {g : Int → Int} {n p : Int} {S : Int → Bool} (c : ¬ (S p = true ∨ n ≤ p)) : wW g n S p = wW g n S (nxF g n p) := by
  have hp : p < n := by omega
  have b := nxF_bd (g := g) (show p ≤ n by omega)
  have b3 := b.2.2 hp
  unfold wW
  rw [show (n - p).toNat = (n - p - 1).toNat + 1 by omega]
  show (if S p = true ∨ n ≤ p then p else _) = _
  rw [if_neg c]
  exact wN_same _ _ _ b.2.1 (by omega) (by omega)
theorem wW_all {g : Int → Int} {n : Int} {S : Int → Bool} (k : Nat) : ∀ p : Int, p ≤ n → (n - p).toNat ≤ k → skp g n p = p → p ≤ wW g n S p ∧ wW g n S p ≤ n ∧ (S (wW g n S p) = true ∨ wW g n S p = n) ∧ skp g n (wW g n S p) = wW g n S p := by
  induction k with
  | zero => intro p h hk hs; rw [wW_stop (Or.inr (by omega))]; exact ⟨by omega, h, Or.inr (by omega), hs⟩
  | succ k ih =>
    intro p h hk hs
    by_cases c : S p = true ∨ n ≤ p
    · rw [wW_stop c]; exact ⟨by omega, h, c.imp id (by omega), hs⟩
    · rw [wW_go c]
      have b := nxF_bd (g := g) h
      have b3 := b.2.2 (by omega)
      obtain ⟨a1, a2, a3, a4⟩ := ih (nxF g n p) b.2.1 (by omega) (skp_skp (eF_bd (g := g) h).2.1)
      exact ⟨by omega, a2, a3, a4⟩
theorem wW_bd {g : Int → Int} {n p : Int} {S : Int → Bool} (h : p ≤ n) (hs : skp g n p = p) : p ≤ wW g n S p ∧ wW g n S p ≤ n ∧ (S (wW g n S p) = true ∨ wW g n S p = n) ∧ skp g n (wW g n S p) = wW g n S p := wW_all _ p h (Nat.le_refl _) hs
def onW (g : Int → Int) (n : Int) (S : Int → Bool) (b p : Int) : Prop := (0 ≤ p ∧ p ≤ n) ∧ skp g n p = p ∧ wW g n S p = b
theorem skp_tk {g : Int → Int} {n p : Int} (h : p < n) (hs : skp g n p = p) : tkc (g p) := by
  have := skp_at (g := g) (lim := n) (p := p) (by omega) (by omega)
  rw [hs] at this; exact this
theorem Bd_on {g : Int → Int} {n b : Int} {S : Int → Bool} (hbn : b ≤ n) (h4 : ∀ p, p ≤ n → kF' g n p = 4 → nxF g n p ≠ b ∧ nxF g n (nxF g n p) ≠ b) : Bd g n b (onW g n S b) := by
  refine ⟨hbn, fun p hp => ?_⟩
  obtain ⟨⟨h0, h1⟩, hs, hw⟩ := hp
  have wb := wW_bd (S := S) h1 hs
  rw [hw] at wb
  have step : ∀ q, onW g n S b q → q < b → onW g n S b (nxF g n q) ∧ nxF g n q ≤ b := by
    intro q hq hqb
    obtain ⟨⟨k0, k1⟩, ks, kw⟩ := hq
    have c : ¬ (S q = true ∨ n ≤ q) := fun c => by rw [wW_stop c] at kw; omega
    rw [wW_go c] at kw
    have nb := nxF_bd (g := g) k1
    have ss := skp_skp (g := g) (eF_bd (g := g) k1).2.1
    have := wW_bd (S := S) nb.2.1 ss
    exact ⟨⟨⟨by omega, nb.2.1⟩, ss, kw⟩, by rw [kw] at this; exact this.1⟩
  refine ⟨⟨h0, wb.1, hs⟩, fun hlt => ⟨(step p ⟨⟨h0, h1⟩, hs, hw⟩ hlt).1, skp_tk (by omega) hs, fun k4 => ?_⟩⟩
  have s1 := step p ⟨⟨h0, h1⟩, hs, hw⟩ hlt
  have n4 := h4 p h1 k4
  have l1 : nxF g n p < b := by have := n4.1; have := s1.2; omega
  have s2 := step _ s1.1 l1
  exact ⟨l1, by have := n4.2; have := s2.2; omega⟩
/-- to the end of all -/
theorem Bd_n {g : Int → Int} {n : Int} : Bd g n n (fun p => 0 ≤ p ∧ p ≤ n ∧ skp g n p = p) := by
  refine ⟨Int.le_refl _, fun p hp => ⟨hp, fun hlt => ?_⟩⟩
  have nb := nxF_bd (g := g) hp.2.1
  refine ⟨⟨by omega, nb.2.1, skp_skp (eF_bd (g := g) hp.2.1).2.1⟩, skp_tk hlt hp.2.2, fun k4 => ?_⟩
  have := ref_len hp.2.1 k4
  exact ⟨this.2.2.2.1, this.2.2.2.2.1⟩
theorem kF_pos {g : Int → Int} {n p : Int} (h : p < n) (c : tkc (g p)) : 1 ≤ kF' g n p := by
  cases hr : reg (g p) with
  | true => have := kF_word h hr; omega
  | false =>
    rw [kF_sign h c hr]
    split
    · omega
    · split
      · split <;> omega
      · split
        · split <;> omega
        · split
          · omega
          · split <;> omega
theorem kF_end {g : Int → Int} {n p : Int} (h : n ≤ p) : kF' g n p = 0 := if_pos (Or.inl h)
theorem hE_n {g : Int → Int} {n : Int} : ∀ p, (0 ≤ p ∧ p ≤ n ∧ skp g n p = p) → (isEk false (kF' g n p) = true ↔ n ≤ p) := by
  intro p hp
  constructor
  · intro w
    rcases Int.lt_or_le p n with q | q
    · have := kF_pos q (skp_tk q hp.2.2)
      simp [isEk] at w
      omega
    · exact q
  · intro w
    rw [kF_end w]; rfl
/-- a reference's second and third token end no object -/
theorem ref_mid {g : Int → Int} {n p : Int} (hp : p ≤ n) (h : kF' g n p = 4) : kF' g n (nxF g n p) = 3 ∧ kF' g n (nxF g n (nxF g n p)) = 2 := by
  obtain ⟨l1, l2, l3, l4, l5, l6, l7, l8⟩ := ref_len hp h
  have nb := nxF_bd (g := g) hp
  have nb2 := nxF_bd (g := g) nb.2.1
  have hz : zstr 10 = [82] := by decide
  have l9 := l8
  unfold tx at l9
  rw [hz, is1] at l9
  have hr : reg (g (nxF g n (nxF g n p))) = true := by rw [l9.2.2.2]; decide
  have rn := reg_not hr
  have hm : mF g n (nxF g n (nxF g n p)) = -1 := by
    rw [mF_tok l5 ⟨rn.1, rn.2.2.2.2.2.2.2.2⟩, l9.1]
    unfold nuF
    rw [if_neg (by omega), show (nxF g n (nxF g n p) + 1 - nxF g n (nxF g n p)).toNat = 1 by omega]
    exact if_pos (by have := l9.2.2.2; omega)
  have hr2 := (mF_reg l7 nb.2.1).2
  have rn2 := reg_not hr2
  refine ⟨?_, ?_⟩
  · unfold kF'
    rw [if_neg (by omega), if_pos l7]
    unfold knF
    rw [if_pos (by omega)]
  · unfold kF'
    rw [if_neg (by omega), if_neg (by omega)]
    unfold ksF
    rw [if_pos hr, if_neg, if_neg]
    · intro w; exact absurd (tx_eq l8 w) (by decide)
    · intro w; exact absurd (tx_eq l8 w) (by decide)
def enS (g : Int → Int) (n p : Int) : Bool := isEk true (kF' g n p)
/-- where the object ends whose tokens begin at p -/
def enW (g : Int → Int) (n p : Int) : Int := wW g n (enS g n) p
theorem enS_n {g : Int → Int} {n p : Int} (h : n ≤ p) : enS g n p = true := by unfold enS; rw [kF_end h]; rfl
theorem enW_end {g : Int → Int} {n p : Int} (h : p ≤ n) (hs : skp g n p = p) : enS g n (enW g n p) = true := by
  rcases (wW_bd (S := enS g n) h hs).2.2.1 with q | q
  · exact q
  · exact enS_n (by unfold enW; omega)
theorem Bd_en {g : Int → Int} {n p0 : Int} (h1 : p0 ≤ n) (hs : skp g n p0 = p0) : Bd g n (enW g n p0) (onW g n (enS g n) (enW g n p0)) := by
  refine Bd_on (wW_bd h1 hs).2.1 fun p hp k4 => ?_
  have m := ref_mid hp k4
  have en := enW_end h1 hs
  refine ⟨fun q => ?_, fun q => ?_⟩
  · rw [← q] at en; unfold enS at en; rw [m.1] at en; exact absurd en (by decide)
  · rw [← q] at en; unfold enS at en; rw [m.2] at en; exact absurd en (by decide)
theorem hE_en {g : Int → Int} {n p0 : Int} (h1 : p0 ≤ n) (hs : skp g n p0 = p0) : ∀ p, onW g n (enS g n) (enW g n p0) p → (isEk true (kF' g n p) = true ↔ enW g n p0 ≤ p) := by
  intro p hp
  obtain ⟨⟨a, b⟩, c, d⟩ := hp
  have wb := wW_bd (S := enS g n) b c
  constructor
  · intro w
    have w2 : enS g n p = true := w
    rw [wW_stop (Or.inl w2)] at d; omega
  · intro w
    have : p = enW g n p0 := by omega
    have en := enW_end h1 hs
    rw [← this] at en; exact en
theorem rowN_le {g : Int → Int} {n lim op cl : Int} {P : Int → Prop} (hB : Bd g n lim P) (k : Nat) (p d : Int) (rs : RfL) (hp : P p) : p ≤ (rowN g n lim op cl k p d rs).1 := by
  have hn := hB.1
  induction k generalizing p d rs with
  | zero => exact Int.le_refl _
  | succ k ih =>
    unfold rowN
    split
    · exact Int.le_refl _
    · rename_i hlt
      have hlt : p < lim := by omega
      have pb := (hB.2 p hp).1
      have nb := (nxF_bd (g := g) (show p ≤ n by omega)).2.2 (by omega)
      have hnx := hB.nx hp hlt
      split
      · rename_i h4
        obtain ⟨q1, q2, q3, -, -⟩ := hB.ref hp hlt h4
        have s := skp_bd (g := g) (show e3F g n p ≤ n by omega)
        have := ih (skp g n (e3F g n p)) d (rs ++ [(p, e3F g n p, mF g n p)]) q1
        omega
      · split
        · split
          · have eb := hB.eFle hp hlt
            show p ≤ eF g n p
            omega
          · have := ih (nxF g n p) (d - 1) rs hnx
            omega
        · split
          · have := ih (nxF g n p) (d + 1) rs hnx
            omega
          · have := ih (nxF g n p) d rs hnx
            omega
/-- a row that closes before another limit reads alike there -/
theorem row_pre {g : Int → Int} {n b1 b2 op cl : Int} {P : Int → Prop} (hB : Bd g n b1 P) (k : Nat) : ∀ (p d : Int) (rs : RfL), P p → (rowN g n b1 op cl k p d rs).1 < b1 → (rowN g n b1 op cl k p d rs).1 ≤ b2 → k ≠ 0 → (b1 - p).toNat < k → rowN g n b2 op cl k p d rs = rowN g n b1 op cl k p d rs := by
  have hn := hB.1
  induction k with
  | zero => intro p d rs hp h1 h2 hk; exact absurd rfl hk
  | succ k ih =>
    intro p d rs hp h1 h2 hk hf
    have pb := (hB.2 p hp).1
    by_cases c : b1 ≤ p
    · have e1 : rowN g n b1 op cl (k + 1) p d rs = (p, rs) := if_pos c
      rw [e1] at h1
      have : p < b1 := h1
      omega
    · have hlt : p < b1 := by omega
      have e1 : rowN g n b1 op cl (k + 1) p d rs = if kF' g n p = 4 then rowN g n b1 op cl k (skp g n (e3F g n p)) d (rs ++ [(p, e3F g n p, mF g n p)])
          else if kF' g n p = cl then (if d = 1 then (eF g n p, rs) else rowN g n b1 op cl k (nxF g n p) (d - 1) rs)
          else if kF' g n p = op then rowN g n b1 op cl k (nxF g n p) (d + 1) rs
          else rowN g n b1 op cl k (nxF g n p) d rs := if_neg c
      have hnx := hB.nx hp hlt
      have nb := (nxF_bd (g := g) (show p ≤ n by omega)).2.2 (by omega)
      have eb := hB.eFle hp hlt
      have lt2 : p < b2 := by
        rw [e1] at h2
        by_cases c4 : kF' g n p = 4
        · rw [if_pos c4] at h2
          obtain ⟨q1, q2, q3, -, -⟩ := hB.ref hp hlt c4
          have s := skp_bd (g := g) (show e3F g n p ≤ n by omega)
          have r := rowN_le (op := op) (cl := cl) hB k (skp g n (e3F g n p)) d (rs ++ [(p, e3F g n p, mF g n p)]) q1
          omega
        · rw [if_neg c4] at h2
          by_cases cc : kF' g n p = cl
          · rw [if_pos cc] at h2
            by_cases cd : d = 1
            · rw [if_pos cd] at h2
              have : eF g n p ≤ b2 := h2
              omega
            · rw [if_neg cd] at h2
              have r := rowN_le (op := op) (cl := cl) hB k (nxF g n p) (d - 1) rs hnx
              omega
          · rw [if_neg cc] at h2
            by_cases co : kF' g n p = op
            · rw [if_pos co] at h2
              have r := rowN_le (op := op) (cl := cl) hB k (nxF g n p) (d + 1) rs hnx
              omega
            · rw [if_neg co] at h2
              have r := rowN_le (op := op) (cl := cl) hB k (nxF g n p) d rs hnx
              omega
      have e2 : rowN g n b2 op cl (k + 1) p d rs = if kF' g n p = 4 then rowN g n b2 op cl k (skp g n (e3F g n p)) d (rs ++ [(p, e3F g n p, mF g n p)])
          else if kF' g n p = cl then (if d = 1 then (eF g n p, rs) else rowN g n b2 op cl k (nxF g n p) (d - 1) rs)
          else if kF' g n p = op then rowN g n b2 op cl k (nxF g n p) (d + 1) rs
          else rowN g n b2 op cl k (nxF g n p) d rs := if_neg (by omega)
      rw [e1] at h1 h2 ⊢
      rw [e2]
      by_cases c4 : kF' g n p = 4
      · rw [if_pos c4] at h1 h2 ⊢
        rw [if_pos c4]
        obtain ⟨q1, q2, q3, -, -⟩ := hB.ref hp hlt c4
        have s := skp_bd (g := g) (show e3F g n p ≤ n by omega)
        exact ih _ _ _ q1 h1 h2 (by omega) (by omega)
      · rw [if_neg c4] at h1 h2 ⊢
        rw [if_neg c4]
        by_cases cc : kF' g n p = cl
        · rw [if_pos cc] at h1 h2 ⊢
          rw [if_pos cc]
          by_cases cd : d = 1
          · rw [if_pos cd, if_pos cd]
          · rw [if_neg cd] at h1 h2 ⊢
            rw [if_neg cd]
            exact ih _ _ _ hnx h1 h2 (by omega) (by omega)
        · rw [if_neg cc] at h1 h2 ⊢
          rw [if_neg cc]
          by_cases co : kF' g n p = op
          · rw [if_pos co] at h1 h2 ⊢
            rw [if_pos co]
            exact ih _ _ _ hnx h1 h2 (by omega) (by omega)
          · rw [if_neg co] at h1 h2 ⊢
            rw [if_neg co]
            exact ih _ _ _ hnx h1 h2 (by omega) (by omega)
