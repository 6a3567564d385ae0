/-! where a stream ends -/
def esP (g : Int → Int) (n p : Int) : Bool := stF g n p (zstr 24)
def ebL (g : Int → Int) (n data len : Int) : Int :=
  if len < 0 ∨ n - data < len then -1 else if esP g n (data + len) = true then data + len else if gb g n (data + len) = 10 ∧ esP g n (data + len + 1) = true then data + len + 1 else -1
def ebW (g : Int → Int) (n data : Int) : Int := if ff (esP g n) n data < n then ff (esP g n) n data else -1
theorem esP_le {g : Int → Int} {n p : Int} (h : esP g n p = true) : 0 ≤ p ∧ p + 9 ≤ n := by
  unfold esP stF at h
  simp only [Bool.and_eq_true, decide_eq_true_eq] at h
  have : (zstr 24).length = 9 := by decide
  omega
section
variable {e : En} {g : Int → Int} {n : Int} {A : Nat} {I : HI} {D : HD}
theorem c28 (he : HS e) {x : Int} {Q : Int → HI → HD → Prop} (h : Q (b2i (isEk true x)) I D) : CI 28 [vI x] e I D Q := by
  unfold isEk at h
  refine S28 he ⟨fun a => S28_11 he ?_, fun a => c84 he ⟨fun b => ?_, fun b => S28_11 he ?_⟩⟩
  · rw [a] at h; exact h
  · have ha : (x == 0) = false := by simpa using a
    rw [ha, b2i_0.mp b] at h; exact h
  · have ha : (x == 0) = false := by simpa using a
    rw [ha, b2i_n b] at h; exact h
theorem c31_2 (he : HS e) (hA : isA A) (hT : Tk g n A I D) (hS : I A 2 = n) {Q : Int → HI → HD → Prop} (k : Nat) : ∀ p : Int, 0 ≤ p → p ≤ n → (n - p).toNat = k → Q (ebW g n p) I D → RI 31 2 [vR (some A), vJ, vI p] [] e I D Q := by
  have hn := hT.1.2.2.1
  have hl : (zstr 24).length = 9 := by decide
  induction k with
  | zero =>
    intro p h0 h1 hk h
    refine S31_2 he hA ?_
    rw [hS]
    refine ⟨⟨by omega, by omega⟩, fun _ => ?_, fun q => by omega⟩
    unfold ebW at h
    rw [ff_ge (by omega), if_neg (by omega)] at h; exact h
  | succ k ih =>
    intro p h0 h1 hk h
    refine S31_2 he hA ?_
    rw [hS]
    refine ⟨⟨by omega, by omega⟩, fun q => ?_, fun q => c58 he hT.1 (by decide) ⟨fun c => ⟨⟨by omega, by omega⟩, ?_⟩, fun c => ?_⟩⟩
    · have : ff (esP g n) n p = n := by
        refine ff_is h1 (Int.le_refl _) (fun w => by omega) (fun r r1 r2 => ?_)
        cases t : esP g n r
        · rfl
        · have := esP_le t; omega
      unfold ebW at h
      rw [this, if_neg (by omega)] at h; exact h
    · refine ih (p + 1) (by omega) (by omega) (by omega) ?_
      unfold ebW at h ⊢
      rw [ff_go (by omega) (b2i_0.mp c)] at h; exact h
    · unfold ebW at h
      rw [ff_hit (b2i_n c), if_pos (by omega)] at h; exact h
theorem c31 (he : HS e) (hA : isA A) (hT : Tk g n A I D) (hS : I A 2 = n) {p : Int} (h0 : 0 ≤ p) (h1 : p ≤ n) {Q : Int → HI → HD → Prop} (h : Q (ebW g n p) I D) : CI 31 [vR (some A), vI p] e I D Q :=
  S31 he hA (c31_2 he hA hT hS _ p h0 h1 rfl h)
theorem c30 (he : HS e) (hA : isA A) (hT : Tk g n A I D) (hS : I A 2 = n) {F : Nat} (hF : D A 10 = F) (hk : K0 F = 3) {len : Int} (hL : I (F + 1) 5 = len) {p : Int} (h0 : 0 ≤ p) (h1 : p ≤ n) {Q : Int → HI → HD → Prop} (h : Q (ebL g n p len) I D) : CI 30 [vR (some A), vI p] e I D Q := by
  have hn := hT.1.2.2.1
  unfold ebL at h
  refine S30 he hA ?_
  rw [hF, hL, hS]
  refine ⟨hk, fun a => ?_, fun a => ⟨⟨by omega, by omega⟩, fun b => ⟨⟨by omega, by omega⟩, c58 he hT.1 (by decide) ⟨fun c => c50 he hT.1 ⟨fun f => S30_78 he (S30_79 he ⟨fun _ => ?_, fun q => absurd rfl q⟩), fun f => ⟨⟨by omega, by omega⟩, c58 he hT.1 (by decide) ⟨fun w => S30_78 he (S30_79 he ⟨fun _ => ?_, fun q => absurd rfl q⟩), fun w => S30_79 he ⟨fun q => absurd q (by decide), fun _ => ⟨⟨by omega, by omega⟩, ?_⟩⟩⟩⟩⟩, fun c => ?_⟩⟩, fun b => ?_⟩⟩
  · rw [if_pos (Or.inl a)] at h; exact h
  · have c : esP g n (p + len) = false := b2i_0.mp c
    rw [if_neg (by omega), c, if_neg (by decide), if_neg (fun q => f q.1)] at h; exact h
  · have c : esP g n (p + len) = false := b2i_0.mp c
    have w : esP g n (p + len + 1) = false := b2i_0.mp w
    rw [if_neg (by omega), c, if_neg (by decide), w, if_neg (fun q => absurd q.2 (by decide))] at h; exact h
  · have c : esP g n (p + len) = false := b2i_0.mp c
    have w : esP g n (p + len + 1) = true := b2i_n w
    rw [if_neg (by omega), c, if_neg (by decide), if_pos ⟨Decidable.not_not.mp f, w⟩] at h; exact h
  · have c : esP g n (p + len) = true := b2i_n c
    rw [if_neg (by omega), if_pos c] at h; exact h
  · rw [if_pos (Or.inr (by omega))] at h; exact h
theorem c26 (he : HS e) (hA : isA A) {l : RfL} (h : MkL (A + 10) I l) (hl : l.length < L0 (A + 11)) {nu pl : Int} {Q : HI → HD → Prop}
    (hQ : ∀ I', Fr (mkS (A + 10)) I I' → MkL (A + 10) I' (l ++ [(pl, pl, nu)]) → Q I' D) : CV 26 [vR (some A), vI nu, vI pl] e I D Q := by
  have hk : K0 (A + 10) = 4 ∧ L0 (A + 11) < 100000 := by rcases hA with rfl | rfl <;> decide
  exact S26 he hA (c11 he hk.1 h hl hk.2 fun I' f m => hQ I' f m)
theorem c35 (he : HS e) (hA : isA A) {x : Int} (hK : ∀ k, k < 61 → K0 (D (A + 21) k) = 3) {Q : Option Nat → HI → HD → Prop}
    (hN : ¬ ((1 ≤ x ∧ x < 61) ∧ I (D (A + 21) x.toNat) 1 ≠ 0) → Q none I D) (hY : (1 ≤ x ∧ x < 61) ∧ I (D (A + 21) x.toNat) 1 ≠ 0 → Q (some (D (A + 21) x.toNat)) I D) : CR 35 [vR (some A), vI x] e I D Q := by
  refine S35 he hA ⟨fun a => hN (by omega), fun a => ⟨fun b => ⟨⟨by omega, by omega⟩, hK _ (by omega), fun c => hN (fun q => q.2 c), fun c => ⟨⟨by omega, by omega⟩, hY ⟨by omega, c⟩⟩⟩, fun b => hN (by omega)⟩⟩
end
