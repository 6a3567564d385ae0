/-! Tokens.index fills its rows rightly -/
def mx : Nat → Int
  | 0 => 999999 | 1 => 99999 | 2 => 9999 | 3 => 999 | 4 => 99 | 5 => 9 | _ => 0
theorem mx_step {k : Nat} (h : k < 6) : 10 * mx (k + 1) + 9 = mx k ∧ mx (k + 1) < 100000 := by
  match k, h with
  | 0, _ => decide
  | 1, _ => decide
  | 2, _ => decide
  | 3, _ => decide
  | 4, _ => decide
  | 5, _ => decide
def FrT (I I' : HI) : Prop := ∀ a k, ¬ (2 ≤ a ∧ a ≤ 5) → I' a k = I a k
theorem FrT.refl {I : HI} : FrT I I := fun _ _ _ => rfl
theorem FrT.trans {I J K : HI} (h : FrT I J) (h2 : FrT J K) : FrT I K := fun a k q => (h2 a k q).trans (h a k q)
theorem FrT.u {I : HI} {a k : Nat} {z : Int} (h1 : 2 ≤ a) (h2 : a ≤ 5) : FrT I (uI I a k z) := fun b j q => uI_ne (by omega)
theorem TkB.fr {g : Int → Int} {n : Int} {I I' : HI} {D : HD} (h : TkB g n I D) (hf : FrT I I') : TkB g n I' D := by
  obtain ⟨h1, h2, h3, h4, h5, h6⟩ := h
  have hd : ¬ (2 ≤ D 1 4 ∧ D 1 4 ≤ 5) := by
    intro q
    have : D 1 4 = 2 ∨ D 1 4 = 3 ∨ D 1 4 = 4 ∨ D 1 4 = 5 := by omega
    rcases this with q | q | q | q <;> (rw [q] at h4; exact absurd h4 (by decide))
  exact ⟨by rw [hf 1 5 (by omega)]; exact h1, h2, h3, h4, h5, fun p a b => by rw [hf _ _ hd]; exact h6 p a b⟩
theorem TkT.u {g : Int → Int} {n lo x : Int} {I : HI} {a : Nat} {z : Int} (h : TkT g n lo I) (h0 : 0 ≤ x) (hx : x < lo) : TkT g n lo (uI I a x.toNat z) := by
  intro p h1 h2
  have hp : p.toNat ≠ x.toNat := by omega
  rw [uI_ne (by simp [hp]), uI_ne (by simp [hp]), uI_ne (by simp [hp]), uI_ne (by simp [hp])]
  exact h p h1 h2
theorem TkT.ext {g : Int → Int} {n x : Int} {I : HI} (h : TkT g n (x + 1) I) (hx : I 2 x.toNat = skp g n x ∧ I 3 x.toNat = eF g n x ∧ I 4 x.toNat = kF' g n x ∧ I 5 x.toNat = mF g n x) : TkT g n x I := by
  intro p h1 h2
  by_cases q : p = x
  · rw [q]; exact hx
  · exact h p (by omega) h2
section
variable {e : En} {I : HI} {D : HD} {g : Int → Int} {n : Int}
theorem c46_loop (he : HS e) (hT : TkB g n I D) {t : Int} (ht : t ≤ n) {Q : Int → HI → HD → Prop} (k : Nat) : ∀ p v : Int, 0 ≤ p → p ≤ t → (t - p).toNat = k → k ≤ 6 → 0 ≤ v → v ≤ mx k → Q (nuN g k p v) I D → RI 46 21 [vR (some 1), vJ, vI v, vI t, vI p, vJ] [] e I D Q := by
  have hn := hT.2.2.1
  induction k with
  | zero => intro p v h0 h1 h2 h3 h4 h5 h; exact S46_21 he ⟨fun _ => h, fun a => by omega⟩
  | succ k ih =>
    intro p v h0 h1 h2 h3 h4 h5 h
    obtain ⟨m1, m2⟩ := mx_step (show k < 6 by omega)
    have hg := hT.rg h0 (show p < n by omega)
    have hgb : gb g n p = g p := if_pos (by omega)
    refine S46_21 he ⟨fun a => by omega, fun a => c50 he hT ?_⟩
    rw [hgb]
    have hN : nuN g (k + 1) p v = if g p < 48 ∨ 57 < g p then -1 else nuN g k (p + 1) (v * 10 + (g p - 48)) := rfl
    rw [hN] at h
    refine ⟨⟨by omega, by omega⟩, fun b => ?_, fun b => ⟨fun c => ⟨⟨by omega, by omega⟩, ⟨by omega, by omega⟩, ⟨by omega, by omega⟩, ?_⟩, fun c => ?_⟩⟩
    · rw [if_pos (by omega)] at h; exact h
    · rw [if_neg (by omega)] at h
      exact ih (p + 1) _ (by omega) (by omega) (by omega) (by omega) (by omega) (by omega) h
    · rw [if_pos (by omega)] at h; exact h
theorem c46 (he : HS e) (hT : TkB g n I D) {x : Int} (h0 : 0 ≤ x) (hx : I 3 x.toNat = eF g n x) (h2 : x ≤ n) {Q : Int → HI → HD → Prop} (h : Q (nuF g x (eF g n x)) I D) : CI 46 [vR (some 1), vI x] e I D Q := by
  obtain ⟨a, b, -⟩ := eF_bd (g := g) h2
  have hn := hT.2.2.1
  refine S46 he (c52' he hT h0 h2 ?_)
  rw [hx]
  unfold nuF at h
  refine ⟨⟨by omega, by omega⟩, fun c => ?_, fun c => ?_⟩
  · rw [if_neg (by omega)] at h
    have hk : (eF g n x - x).toNat ≤ 6 := by omega
    refine c46_loop he hT b _ x 0 h0 a rfl hk (by omega) ?_ h
    generalize (eF g n x - x).toNat = k at hk
    match k, hk with
    | 0, _ | 1, _ | 2, _ | 3, _ | 4, _ | 5, _ | 6, _ => decide
  · rw [if_pos (by omega)] at h; exact h
theorem reg_not {c : Int} (h : reg c = true) : 32 < c ∧ c ≠ 40 ∧ c ≠ 41 ∧ c ≠ 60 ∧ c ≠ 62 ∧ c ≠ 91 ∧ c ≠ 93 ∧ c ≠ 47 ∧ c ≠ 37 := by
  simp [reg, sgn] at h
  omega
theorem tE_word {p lim : Int} (h : g p = 47 ∨ reg (g p) = true) : tE g lim p = ff (nrP g) lim (p + 1) := by
  unfold tE
  have : g p ≠ 40 ∧ g p ≠ 60 ∧ g p ≠ 62 := by
    rcases h with h | h
    · omega
    · have := reg_not h; omega
  rw [if_neg this.1, if_neg (by omega), if_pos h]
theorem word_end {p : Int} (h0 : 0 ≤ p) (h : p ≤ n) : ff (nrP g) n p = if reg (gb g n p) = true then eF g n p else p := by
  by_cases h1 : p < n
  · have hgb : gb g n p = g p := if_pos (by omega)
    rw [hgb]
    by_cases c : reg (g p) = true
    · have q := reg_not c
      rw [if_pos c, ff_go h1 (by simp [nrP, c])]
      unfold eF
      rw [if_neg (by omega), if_neg (by omega), if_neg (by omega), tE_word (Or.inr c)]
    · rw [if_neg c, ff_hit (by simp [nrP, c])]
  · have hgb : gb g n p = -1 := if_neg (by omega)
    rw [hgb, ff_ge (by omega), if_neg (by decide)]
theorem c45_21 (he : HS e) (hT : TkB g n I D) {x : Int} (hR : TkT g n (x + 1) I) (h0 : 0 ≤ x) (h2 : x < n) {Q : Int → HI → HD → Prop} (h : Q (ff (nrP g) n (x + 1)) I D) : RI 45 21 [vR (some 1), vI x, vJ, vI (gb g n (x + 1))] [] e I D Q := by
  have hn := hT.2.2.1
  rw [word_end (by omega) (by omega)] at h
  refine S45_21 he (c49 he ⟨fun a => ⟨⟨by omega, by omega⟩, ?_⟩, fun a => ⟨⟨by omega, by omega⟩, c52 he hT hR (by omega) (by omega) (by omega) ?_⟩⟩)
  · rw [if_neg (by rw [b2i_0.mp a]; decide)] at h; exact h
  · rw [if_pos (by cases q : reg (gb g n (x + 1)); exact absurd (b2i_0.mpr q) a; rfl)] at h; exact h
theorem c45_54 (he : HS e) (hT : TkB g n I D) {x : Int} (h0 : 0 ≤ x) (h2 : x < n) (hc : g x = 60 ∨ g x = 62) {Q : Int → HI → HD → Prop} (h : Q (tE g n x) I D) : RI 45 54 [vJ, vI x, vI (g x), vI (gb g n (x + 1))] [] e I D Q := by
  have hn := hT.2.2.1
  unfold tE at h
  rw [if_neg (by omega), if_pos hc] at h
  refine S45_54 he ⟨fun a => ⟨⟨by omega, by omega⟩, ?_⟩, fun a => ⟨⟨by omega, by omega⟩, ?_⟩⟩
  · rw [if_neg ?_] at h
    · exact h
    · intro q; apply a; unfold gb; rw [if_pos (by omega)]; exact q.2
  · have q : gb g n (x + 1) = g x := Decidable.not_not.mp a
    unfold gb at q
    by_cases c : 0 ≤ x + 1 ∧ x + 1 < n
    · rw [if_pos c] at q
      rw [if_pos ⟨c.2, q⟩] at h; exact h
    · rw [if_neg c] at q; omega
theorem c45 (he : HS e) (hT : TkB g n I D) {x : Int} (hR : TkT g n (x + 1) I) (h0 : 0 ≤ x) (h2 : x < n) (hc : g x ≠ 40) {Q : Int → HI → HD → Prop} (h : Q (tE g n x) I D) : CI 45 [vR (some 1), vI x, vI (g x)] e I D Q := by
  have hn := hT.2.2.1
  refine S45 he ⟨⟨by omega, by omega⟩, c50 he hT ⟨fun a => ?_, fun a => c49 he ⟨fun b => ⟨fun c => c45_54 he hT h0 h2 (Or.inl c) h, fun c => ⟨fun d => ⟨⟨by omega, by omega⟩, ?_⟩, fun d => c45_54 he hT h0 h2 (Or.inr (Decidable.not_not.mp d)) h⟩⟩, fun b => ?_⟩⟩⟩
  · rw [tE_word (Or.inl a)] at h
    exact c45_21 he hT hR h0 h2 h
  · have b := b2i_0.mp b
    unfold tE at h
    rw [if_neg hc, if_neg (by omega), if_neg (by simp [a, b])] at h
    exact h
  · have b : reg (g x) = true := by cases q : reg (g x); exact absurd (b2i_0.mpr q) b; rfl
    rw [tE_word (Or.inr b)] at h
    exact c45_21 he hT hR h0 h2 h
theorem c47 (he : HS e) (hT : TkB g n I D) {x : Int} (h0 : 0 ≤ x) (hx : I 3 x.toNat = eF g n x) (h2 : x < n) {Q : Int → HI → HD → Prop} (h : Q (ksF g n x) I D) : CI 47 [vR (some 1), vI x, vI (g x)] e I D Q := by
  have hn := hT.2.2.1
  unfold ksF at h
  have tail : reg (g x) = false → RI 47 55 [vJ, vJ, vI (g x), vJ] [vI (if eF g n x = x + 2 then 1 else 0)] e I D Q := by
    intro b
    rw [if_neg (by rw [b]; decide)] at h
    refine S47_55 he ⟨fun a => ?_, fun a => ⟨fun c => ?_, fun c => ?_⟩, fun a => ⟨fun c => ?_, fun c => ?_⟩, fun a => ?_, fun a => ?_, fun a1 a2 a3 a4 a5 => ?_⟩
    · rw [if_pos a] at h; exact h
    · have d : ¬ eF g n x = x + 2 := fun q => by rw [if_pos q] at c; cases c
      rw [if_neg (by omega), if_pos a, if_neg d] at h; exact h
    · have d : eF g n x = x + 2 := Decidable.not_not.mp fun q => by rw [if_neg q] at c; exact c rfl
      rw [if_neg (by omega), if_pos a, if_pos d] at h; exact h
    · have d : ¬ eF g n x = x + 2 := fun q => by rw [if_pos q] at c; cases c
      rw [if_neg (by omega), if_neg (by omega), if_pos a, if_neg d] at h; exact h
    · have d : eF g n x = x + 2 := Decidable.not_not.mp fun q => by rw [if_neg q] at c; exact c rfl
      rw [if_neg (by omega), if_neg (by omega), if_pos a, if_pos d] at h; exact h
    · rw [if_neg (by omega), if_neg (by omega), if_neg (by omega), if_pos a] at h; exact h
    · rw [if_neg (by omega), if_neg (by omega), if_neg (by omega), if_neg (by omega), if_pos a] at h; exact h
    · rw [if_neg a1, if_neg a2, if_neg a3, if_neg a4, if_neg a5] at h; exact h
  refine S47 he (c49 he ⟨fun a => c52' he hT h0 (by omega) ?_, fun a => ?_⟩)
  · rw [hx]
    have := tail (b2i_0.mp a)
    refine ⟨⟨by omega, by omega⟩, fun b => ?_, fun b => ?_⟩
    · rw [if_neg b] at this; exact this
    · rw [if_pos (Decidable.not_not.mp b)] at this; exact this
  · have b : reg (g x) = true := by cases q : reg (g x); exact absurd (b2i_0.mpr q) a; rfl
    rw [if_pos b] at h
    refine c57' he hT h0 hx (by omega) (by decide) ⟨fun c => c57' he hT h0 hx (by omega) (by decide) ⟨fun d => ?_, fun d => ?_⟩, fun c => ?_⟩
    · rw [if_neg (by rw [b2i_0.mp c]; decide), if_neg (by rw [b2i_0.mp d]; decide)] at h; exact h
    · rw [if_neg (by rw [b2i_0.mp c]; decide), if_pos (by cases q : tx g n x 13; exact absurd (b2i_0.mpr q) d; rfl)] at h; exact h
    · rw [if_pos (by cases q : tx g n x 12; exact absurd (b2i_0.mpr q) c; rfl)] at h; exact h
theorem c48 (he : HS e) (hT : TkB g n I D) {x : Int} (hR : TkT g n (x + 1) I) (h0 : 0 ≤ x) (hx : I 3 x.toNat = eF g n x) (hm : I 5 x.toNat = mF g n x) (h2 : x < n) {Q : Int → HI → HD → Prop} (h : Q (knF g n x) I D) : CI 48 [vR (some 1), vI x] e I D Q := by
  obtain ⟨a1, a2, a3⟩ := eF_bd (g := g) (show x ≤ n by omega)
  obtain ⟨b1, b2, b3⟩ := nxF_bd (g := g) (show x ≤ n by omega)
  obtain ⟨d1, d2, -⟩ := nxF_bd (g := g) b2
  have a3 := a3 h2
  have b3 := b3 h2
  unfold knF at h
  refine S48 he (c54' he hT h0 (by omega) (c55' he hT hR h0 hx (by omega) (by omega) (c54 he hT hR (by omega) (by omega) b2 ⟨fun a => c55 he hT hR (by omega) (by omega) b2 (c57 he hT hR (by omega) (by omega) d2 (by decide) ?_), fun a => ?_⟩)))
  · rw [hm]
    rw [if_neg (by omega)] at h
    refine ⟨fun b => ?_, fun b => ?_⟩
    · rw [if_neg (by rw [b2i_0.mp b]; decide)] at h
      have no : ¬ (1 ≤ mF g n x ∧ mF g n x ≤ 60) → RI 48 57 [vR (some 1), vJ, vJ, vJ, vI (nxF g n (nxF g n x)), vJ] [] e I D Q := by
        intro q
        rw [if_neg (fun w => q w.1)] at h
        exact S48_57 he (S48_58 he ⟨fun _ => h, fun q => absurd rfl q⟩)
      refine ⟨fun c => no (by omega), fun c => ⟨fun d => no (by omega), fun d => S48_58 he ⟨fun q => by omega, fun _ => c57 he hT hR (by omega) (by omega) d2 (by decide) ⟨fun f => ?_, fun f => ?_⟩⟩⟩⟩
      · rw [if_neg (fun w => by rw [b2i_0.mp f] at w; exact absurd w.2 (by decide))] at h; exact h
      · rw [if_pos ⟨by omega, by cases q : tx g n (nxF g n (nxF g n x)) 11; exact absurd (b2i_0.mpr q) f; rfl⟩] at h; exact h
    · rw [if_pos (by cases q : tx g n (nxF g n (nxF g n x)) 10; exact absurd (b2i_0.mpr q) b; rfl)] at h; exact h
  · rw [if_pos (by omega)] at h; exact h
end
