/-! what the rows of Tokens hold, as functions of the place -/
def b2i (b : Bool) : Int := if b = true then 1 else 0
theorem b2i_01 (b : Bool) : b2i b = 0 ∨ b2i b = 1 := by cases b <;> simp [b2i]
theorem b2i_0 {b : Bool} : b2i b = 0 ↔ b = false := by cases b <;> simp [b2i]
def gb (g : Int → Int) (n p : Int) : Int := if 0 ≤ p ∧ p < n then g p else -1
def eF (g : Int → Int) (n p : Int) : Int := if n ≤ p then n else if g p ≤ 32 then p + 1 else if g p = 37 then ff (nlP g) n p else tE g n p
def nxF (g : Int → Int) (n p : Int) : Int := skp g n (eF g n p)
/-- no token begins at p -/
def noT (g : Int → Int) (n p : Int) : Prop := n ≤ p ∨ g p ≤ 32 ∨ g p = 37
theorem noT_dec {g : Int → Int} {n p : Int} (h : ¬ noT g n p) : p < n ∧ 32 < g p ∧ g p ≠ 37 := by unfold noT at h; omega
def mF (g : Int → Int) (n p : Int) : Int := if n ≤ p ∨ g p ≤ 32 ∨ g p = 37 then -1 else nuF g p (eF g n p)
def tx (g : Int → Int) (n p : Int) (k : Nat) : Bool := isF g n p (eF g n p) (zstr k)
def ksF (g : Int → Int) (n p : Int) : Int :=
  if reg (g p) = true then (if tx g n p 12 = true then 6 else if tx g n p 13 = true then 7 else 2)
  else if g p = 47 then 8 else if g p = 60 then (if eF g n p = p + 2 then 9 else 1) else if g p = 62 then (if eF g n p = p + 2 then 10 else 1)
  else if g p = 91 then 11 else if g p = 93 then 12 else 1
def knF (g : Int → Int) (n p : Int) : Int :=
  if mF g n (nxF g n p) < 0 then 3
  else if tx g n (nxF g n (nxF g n p)) 10 = true then 4
  else if (1 ≤ mF g n p ∧ mF g n p ≤ 60) ∧ tx g n (nxF g n (nxF g n p)) 11 = true then 5 else 3
def kF' (g : Int → Int) (n p : Int) : Int := if n ≤ p ∨ g p ≤ 32 ∨ g p = 37 then 0 else if 0 ≤ mF g n p then knF g n p else ksF g n p
theorem eF_bd {g : Int → Int} {n p : Int} (h : p ≤ n) : p ≤ eF g n p ∧ eF g n p ≤ n ∧ (p < n → p < eF g n p) := by
  unfold eF
  split
  · omega
  · rename_i h1
    split
    · omega
    · split
      · rename_i h2
        have := com_lt (lim := n) (show p < n by omega) h2
        have := ff_bd (P := nlP g) h
        omega
      · have := tE_bd (g := g) (show p < n by omega)
        omega
theorem nxF_bd {g : Int → Int} {n p : Int} (h : p ≤ n) : p ≤ nxF g n p ∧ nxF g n p ≤ n ∧ (p < n → p < nxF g n p) := by
  obtain ⟨a, b, c⟩ := eF_bd (g := g) h
  obtain ⟨d, e⟩ := skp_bd (g := g) b
  unfold nxF
  exact ⟨by omega, e, fun q => by have := c q; omega⟩
/-- the bytes and the size stand -/
def TkB (g : Int → Int) (n : Int) (I : HI) (D : HD) : Prop := I 1 5 = n ∧ 0 ≤ n ∧ n ≤ 3000 ∧ K0 (D 1 4) = 22 ∧ n ≤ L0 (D 1 4) ∧ ∀ p : Int, 0 ≤ p → p < n → I (D 1 4) p.toNat % 256 = g p
/-- the rows are right from lo on -/
def TkT (g : Int → Int) (n lo : Int) (I : HI) : Prop := ∀ p : Int, lo ≤ p → p ≤ n → I 2 p.toNat = skp g n p ∧ I 3 p.toNat = eF g n p ∧ I 4 p.toNat = kF' g n p ∧ I 5 p.toNat = mF g n p
theorem TkB.rg {g : Int → Int} {n : Int} {I : HI} {D : HD} (h : TkB g n I D) {p : Int} (h0 : 0 ≤ p) (h1 : p < n) : 0 ≤ g p ∧ g p ≤ 255 := by
  have := h.2.2.2.2.2 p h0 h1
  omega
section
variable {e : En} {I : HI} {D : HD} {g : Int → Int} {n : Int}
theorem c49 (he : HS e) {x : Int} {Q : Int → HI → HD → Prop} (h : Q (b2i (reg x)) I D) : CI 49 [vI x] e I D Q := by
  refine S49 he ⟨?_, ?_, ?_, ?_, ?_, ?_, ?_, ?_, ?_, ?_, ?_⟩
  iterate 10
    · intro a; subst a; exact h
  intro a1 a2 a3 a4 a5 a6 a7 a8 a9 a10
  refine ⟨fun b => ?_, fun b => ?_⟩
  · have : reg x = false := by simp [reg]; omega
    rw [this] at h; exact h
  · have : reg x = true := by simp [reg, sgn, a1, a2, a3, a4, a5, a6, a7, a8, a9, a10]; omega
    rw [this] at h; exact h
theorem c50 (he : HS e) (hT : TkB g n I D) {x : Int} {Q : Int → HI → HD → Prop} (h : Q (gb g n x) I D) : CI 50 [vR (some 1), vI x] e I D Q := by
  obtain ⟨h1, h2, h3, h4, h5, h6⟩ := hT
  unfold gb at h
  refine S50 he ⟨fun a => ?_, fun a => ⟨fun b => ?_, fun b => ⟨h4, ⟨by omega, by omega⟩, ?_⟩⟩⟩
  · rw [if_neg (by omega)] at h; exact h
  · rw [if_neg (by omega)] at h; exact h
  · rw [if_pos (by omega)] at h
    rw [h6 x (by omega) (by omega)]; exact h
theorem c51 (he : HS e) (hT : TkB g n I D) {lo : Int} (hR : TkT g n lo I) {x : Int} (h0 : 0 ≤ x) (h1 : lo ≤ x) (h2 : x ≤ n) {Q : Int → HI → HD → Prop} (h : Q (skp g n x) I D) : CI 51 [vR (some 1), vI x] e I D Q := by
  obtain ⟨e1, e2, e3, -⟩ := hT
  refine S51 he ⟨fun a => by omega, fun a => ⟨fun b => by omega, fun b => ⟨⟨by omega, by omega⟩, ?_⟩⟩⟩
  rw [(hR x h1 h2).1]; exact h
theorem c52' (he : HS e) (hT : TkB g n I D) {x : Int} (h0 : 0 ≤ x) (h2 : x ≤ n) {Q : Int → HI → HD → Prop} (h : Q (I 3 x.toNat) I D) : CI 52 [vR (some 1), vI x] e I D Q := by
  obtain ⟨e1, e2, e3, -⟩ := hT
  exact S52 he ⟨fun a => by omega, fun a => ⟨fun b => by omega, fun b => ⟨⟨by omega, by omega⟩, h⟩⟩⟩
theorem c52 (he : HS e) (hT : TkB g n I D) {lo : Int} (hR : TkT g n lo I) {x : Int} (h0 : 0 ≤ x) (h1 : lo ≤ x) (h2 : x ≤ n) {Q : Int → HI → HD → Prop} (h : Q (eF g n x) I D) : CI 52 [vR (some 1), vI x] e I D Q :=
  c52' he hT h0 h2 (by rw [(hR x h1 h2).2.1]; exact h)
theorem c53 (he : HS e) (hT : TkB g n I D) {lo : Int} (hR : TkT g n lo I) {x : Int} (h0 : 0 ≤ x) (h1 : lo ≤ x) (h2 : x ≤ n) {Q : Int → HI → HD → Prop} (h : Q (kF' g n x) I D) : CI 53 [vR (some 1), vI x] e I D Q := by
  obtain ⟨e1, e2, e3, -⟩ := hT
  refine S53 he ⟨fun a => by omega, fun a => ⟨fun b => by omega, fun b => ⟨⟨by omega, by omega⟩, ?_⟩⟩⟩
  rw [(hR x h1 h2).2.2.1]; exact h
theorem c54' (he : HS e) (hT : TkB g n I D) {x : Int} (h0 : 0 ≤ x) (h2 : x ≤ n) {Q : Int → HI → HD → Prop} (h : Q (I 5 x.toNat) I D) : CI 54 [vR (some 1), vI x] e I D Q := by
  obtain ⟨e1, e2, e3, -⟩ := hT
  exact S54 he ⟨fun a => by omega, fun a => ⟨fun b => by omega, fun b => ⟨⟨by omega, by omega⟩, h⟩⟩⟩
theorem c54 (he : HS e) (hT : TkB g n I D) {lo : Int} (hR : TkT g n lo I) {x : Int} (h0 : 0 ≤ x) (h1 : lo ≤ x) (h2 : x ≤ n) {Q : Int → HI → HD → Prop} (h : Q (mF g n x) I D) : CI 54 [vR (some 1), vI x] e I D Q :=
  c54' he hT h0 h2 (by rw [(hR x h1 h2).2.2.2]; exact h)
/-- next, where the rows are right behind x, and the end of x itself -/
theorem c55' (he : HS e) (hT : TkB g n I D) {lo : Int} (hR : TkT g n lo I) {x : Int} (h0 : 0 ≤ x) (hx : I 3 x.toNat = eF g n x) (h1 : lo ≤ eF g n x) (h2 : x ≤ n) {Q : Int → HI → HD → Prop} (h : Q (nxF g n x) I D) : CI 55 [vR (some 1), vI x] e I D Q := by
  obtain ⟨a, b, -⟩ := eF_bd (g := g) h2
  refine S55 he (c52' he hT h0 h2 ?_)
  rw [hx]
  exact c51 he hT hR (by omega) h1 b h
theorem c55 (he : HS e) (hT : TkB g n I D) {lo : Int} (hR : TkT g n lo I) {x : Int} (h0 : 0 ≤ x) (h1 : lo ≤ x) (h2 : x ≤ n) {Q : Int → HI → HD → Prop} (h : Q (nxF g n x) I D) : CI 55 [vR (some 1), vI x] e I D Q :=
  c55' he hT hR h0 (hR x h1 h2).2.1 (by have := (eF_bd (g := g) h2).1; omega) h2 h
theorem c56 (he : HS e) (hT : TkB g n I D) {lo : Int} (hR : TkT g n lo I) {x : Int} (h0 : 0 ≤ x) (h1 : lo ≤ x) (h2 : x ≤ n) {Q : Int → HI → HD → Prop} (h : Q (eF g n (nxF g n (nxF g n x))) I D) : CI 56 [vR (some 1), vI x] e I D Q := by
  obtain ⟨a, b, -⟩ := nxF_bd (g := g) h2
  obtain ⟨c, d, -⟩ := nxF_bd (g := g) b
  refine S56 he (c55 he hT hR h0 h1 h2 (c55 he hT hR (by omega) (by omega) b (c52 he hT hR (by omega) (by omega) d h)))
theorem mat_drop {p : Int} {w : List Nat} {k : Nat} (h : k < w.length) : mat g (p + k) (w.drop k) = (g (p + k) == ((w.getD k 0 : Nat) : Int) && mat g (p + ((k + 1 : Nat) : Int)) (w.drop (k + 1))) := by
  rw [List.drop_eq_getElem_cons h]
  have e1 : w.getD k 0 = w[k] := by simp [List.getD_eq_getElem?_getD, h]
  have e2 : p + ((k + 1 : Nat) : Int) = p + k + 1 := by omega
  rw [e1, e2]; rfl
theorem c58_loop (he : HS e) (hT : TkB g n I D) {k : Nat} (hk : k < 25) {x : Int} (h0 : 0 ≤ x) (h2 : x + (zstr k).length ≤ n) {Q : Int → HI → HD → Prop} (m : Nat) : ∀ j : Nat, j ≤ (zstr k).length → (zstr k).length - j = m → Q (b2i (mat g (x + j) ((zstr k).drop j))) I D → RI 58 21 [vR (some 1), vI x, vS k, vI (j : Int)] [] e I D Q := by
  obtain ⟨e1, e2, e3, e4, e5, e6⟩ := hT
  induction m with
  | zero =>
    intro j hj hm h
    refine S58_21 he hk ⟨fun a => ?_, fun a => by omega⟩
    have : (zstr k).drop j = [] := List.drop_eq_nil_of_le (by omega)
    rw [this] at h; exact h
  | succ m ih =>
    intro j hj hm h
    refine S58_21 he hk ⟨fun a => by omega, fun a => ⟨⟨by omega, by omega⟩, e4, ⟨by omega, by omega⟩, ⟨by omega, by omega⟩, ?_⟩⟩
    rw [e6 (x + j) (by omega) (by omega), Int.toNat_natCast]
    rw [mat_drop (by omega)] at h
    refine ⟨fun a => ⟨⟨by omega, by omega⟩, ?_⟩, fun a => ?_⟩
    · refine ih (j + 1) (by omega) (by omega) ?_
      rw [a] at h
      simpa using h
    · have : (g (x + j) == (((zstr k).getD j 0 : Nat) : Int)) = false := beq_eq_false_iff_ne.mpr a
      rw [this] at h; exact h
theorem zstr_len {k : Nat} : (zstr k).length < 100 := by
  have h : ∀ w ∈ zsbL, w.length < 100 := by decide
  unfold zstr
  rw [List.getD_eq_getElem?_getD]
  cases q : zsbL[k]? with
  | none => decide
  | some w => exact h w (List.mem_of_getElem? q)
theorem c58 (he : HS e) (hT : TkB g n I D) {k : Nat} (hk : k < 25) {x : Int} {Q : Int → HI → HD → Prop} (h : Q (b2i (stF g n x (zstr k))) I D) : CI 58 [vR (some 1), vI x, vS k] e I D Q := by
  have hl := zstr_len (k := k)
  have hT' := hT
  obtain ⟨e1, e2, e3, e4, e5, e6⟩ := hT
  unfold stF at h
  refine S58 he hk ⟨fun a => ?_, fun a => ⟨⟨by omega, by omega⟩, fun b => ?_, fun b => ?_⟩⟩
  · rw [decide_eq_false (by omega)] at h; exact h
  · rw [decide_eq_true (by omega)] at h
    refine c58_loop he hT' hk (by omega) (by omega) _ 0 (by omega) rfl ?_
    simpa using h
  · rw [decide_eq_false (by omega)] at h; exact h
theorem c57' (he : HS e) (hT : TkB g n I D) {x : Int} (h0 : 0 ≤ x) (hx : I 3 x.toNat = eF g n x) (h2 : x ≤ n) {k : Nat} (hk : k < 25) {Q : Int → HI → HD → Prop} (h : Q (b2i (tx g n x k)) I D) : CI 57 [vR (some 1), vI x, vS k] e I D Q := by
  obtain ⟨a, b, -⟩ := eF_bd (g := g) h2
  have e3 := hT.2.2.1
  refine S57 he hk (c52' he hT h0 h2 ?_)
  rw [hx]
  unfold tx isF at h
  refine ⟨⟨by omega, by omega⟩, fun c => ?_, fun c => c58 he hT hk ⟨fun d => ?_, fun d => ?_⟩⟩
  · rw [decide_eq_false c] at h; exact h
  · rw [decide_eq_true (by omega), b2i_0.mp d] at h; exact h
  · rw [decide_eq_true (by omega)] at h
    have : stF g n x (zstr k) = true := by
      cases q : stF g n x (zstr k)
      · exact absurd (b2i_0.mpr q) d
      · rfl
    rw [this] at h; exact h
theorem c57 (he : HS e) (hT : TkB g n I D) {lo : Int} (hR : TkT g n lo I) {x : Int} (h0 : 0 ≤ x) (h1 : lo ≤ x) (h2 : x ≤ n) {k : Nat} (hk : k < 25) {Q : Int → HI → HD → Prop} (h : Q (b2i (tx g n x k)) I D) : CI 57 [vR (some 1), vI x, vS k] e I D Q :=
  c57' he hT h0 (hR x h1 h2).2.1 h2 hk h
end
