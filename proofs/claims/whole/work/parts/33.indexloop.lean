/-! Tokens.index: the loop -/
def seF (g : Int → Int) (n p : Int) : Int := if ff (paP g) n p < n then ff (paP g) n p + 1 else n
section
variable {e : En} {D : HD} {g : Int → Int} {n : Int}
theorem c44 (he : HS e) {I : HI} {x a b c : Int} (h0 : 0 ≤ x) (h1 : x ≤ 3000) {Q : HI → HD → Prop} (h : Q (uI (uI (uI (uI I 2 x.toNat a) 3 x.toNat b) 4 x.toNat c) 5 x.toNat (-1)) D) : CV 44 [vR (some 1), vI x, vI a, vI b, vI c] e I D Q :=
  S44 he ⟨⟨h0, by omega⟩, ⟨h0, by omega⟩, ⟨h0, by omega⟩, ⟨h0, by omega⟩, h⟩
theorem set4 {I : HI} {k : Nat} {a b c d : Int} : (uI (uI (uI (uI I 2 k a) 3 k b) 4 k c) 5 k d) 2 k = a ∧ (uI (uI (uI (uI I 2 k a) 3 k b) 4 k c) 5 k d) 3 k = b ∧ (uI (uI (uI (uI I 2 k a) 3 k b) 4 k c) 5 k d) 4 k = c ∧ (uI (uI (uI (uI I 2 k a) 3 k b) 4 k c) 5 k d) 5 k = d := by
  refine ⟨?_, ?_, ?_, ?_⟩ <;> simp [uI]
theorem FrT4 {I : HI} {k : Nat} {a b c d : Int} : FrT I (uI (uI (uI (uI I 2 k a) 3 k b) 4 k c) 5 k d) :=
  (((FrT.u (by omega) (by omega)).trans (FrT.u (by omega) (by omega))).trans (FrT.u (by omega) (by omega))).trans (FrT.u (by omega) (by omega))
theorem TkT4 {I : HI} {lo x : Int} {a b c d : Int} (h : TkT g n lo I) (h0 : 0 ≤ x) (h1 : x < lo) : TkT g n lo (uI (uI (uI (uI I 2 x.toNat a) 3 x.toNat b) 4 x.toNat c) 5 x.toNat d) := (((h.u h0 h1).u h0 h1).u h0 h1).u h0 h1
theorem c43_loop (he : HS e) {q1 : Nat} (hq1 : K0 q1 = 22) (hD : D 1 4 = q1) {Q : HI → HD → Prop} (k : Nat) : ∀ (I : HI) (x : Int), TkB g n I D → TkT g n (x + 1) I → -1 ≤ x → x < n → (x + 1).toNat = k → (∀ I', FrT I I' → TkB g n I' D → TkT g n 0 I' → Q I' D) →
    RV 43 65 [vR (some 1), vR (some q1), vJ, vI (ff (nlP g) n (x + 1)), vI (seF g n (x + 1)), vI x, vJ] [] e I D Q := by
  induction k with
  | zero =>
    intro I x hT hR h0 h1 hk hQ
    refine S43_65 he hq1 ⟨fun _ => hQ I FrT.refl hT ?_, fun a => by omega⟩
    rw [show x + 1 = 0 by omega] at hR; exact hR
  | succ k ih =>
    intro I x hT hR h0 h1 hk hQ
    have hn := hT.2.2.1
    have hx0 : 0 ≤ x := by omega
    have hL : n ≤ L0 q1 := by rw [← hD]; exact hT.2.2.2.2.1
    have hb : I q1 x.toNat % 256 = g x := by rw [← hD]; exact hT.2.2.2.2.2 x hx0 h1
    have hg := hT.rg hx0 h1
    have s240 : ∀ I', FrT I I' → TkT g n x I' → RV 43 240 [vR (some 1), vR (some q1), vJ, vI (ff (nlP g) n x), vI (seF g n x), vI x, vJ] [] e I' D Q := by
      intro I' hF hR'
      refine S43_240 he hq1 ⟨⟨by omega, by omega⟩, ?_⟩
      have ee : x + (-1) + 1 = x := by omega
      have := ih I' (x + (-1)) (hT.fr hF) (by rw [ee]; exact hR') (by omega) (by omega) (by omega) (fun I2 a b c => hQ I2 (hF.trans a) b c)
      rw [ee] at this; exact this
    have s110 : RV 43 110 [vR (some 1), vR (some q1), vJ, vI (ff (nlP g) n x), vJ, vI x, vI (g x)] [vI (seF g n x)] e I D Q := by
      have s189 : 32 < g x → g x ≠ 37 → ∀ z, z = eF g n x → RV 43 189 [vR (some 1), vR (some q1), vJ, vI (ff (nlP g) n x), vI (seF g n x), vI x, vI (g x)] [vI z, vI x, vI x, vR (some 1)] e I D Q := by
        intro c1 c2 z hz
        subst hz
        have hm : mF g n x = nuF g x (eF g n x) := if_neg (by omega)
        have hkk : kF' g n x = if 0 ≤ mF g n x then knF g n x else ksF g n x := if_neg (by omega)
        refine S43_189 he hq1 (c44 he hx0 (by omega) ?_)
        have f4 := FrT4 (I := I) (k := x.toNat) (a := x) (b := eF g n x) (c := 1) (d := -1)
        have t4 := TkT4 (a := x) (b := eF g n x) (c := 1) (d := -1) hR hx0 (by omega)
        obtain ⟨v2, v3, -, -⟩ := set4 (I := I) (k := x.toNat) (a := x) (b := eF g n x) (c := 1) (d := -1)
        generalize (uI (uI (uI (uI I 2 x.toNat x) 3 x.toNat (eF g n x)) 4 x.toNat 1) 5 x.toNat (-1)) = J at f4 t4 v2 v3
        refine c46 he (hT.fr f4) hx0 v3 (by omega) ⟨⟨by omega, by omega⟩, ⟨by omega, by omega⟩, ?_⟩
        rw [← hm]
        have f5 : FrT I (uI J 5 x.toNat (mF g n x)) := f4.trans (FrT.u (by omega) (by omega))
        have t5 : TkT g n (x + 1) (uI J 5 x.toNat (mF g n x)) := t4.u hx0 (by omega)
        have w5 : uI J 5 x.toNat (mF g n x) 5 x.toNat = mF g n x := uI_eq
        have w3 : uI J 5 x.toNat (mF g n x) 3 x.toNat = eF g n x := by rw [uI_ne (by omega)]; exact v3
        have w2 : uI J 5 x.toNat (mF g n x) 2 x.toNat = x := by rw [uI_ne (by omega)]; exact v2
        generalize uI J 5 x.toNat (mF g n x) = K at f5 t5 w2 w3 w5
        have s239 : RV 43 239 [vR (some 1), vR (some q1), vJ, vI (ff (nlP g) n x), vI (seF g n x), vI x, vJ] [vI (kF' g n x), vI x, vR (some 4)] e K D Q := by
          refine S43_239 he hq1 ⟨⟨by omega, by omega⟩, s240 _ (f5.trans (FrT.u (by omega) (by omega))) ((t5.u hx0 (by omega)).ext ⟨?_, ?_, uI_eq, ?_⟩)⟩
          · rw [uI_ne (by omega), w2, skp_tok ⟨c1, c2⟩]
          · rw [uI_ne (by omega), w3]
          · rw [uI_ne (by omega), w5]
        refine ⟨fun a => c47 he (hT.fr f5) hx0 w3 h1 ?_, fun a => c48 he (hT.fr f5) t5 hx0 w3 w5 h1 ?_⟩
        · rw [hkk, if_neg (by omega)] at s239; exact s239
        · rw [hkk, if_pos (by omega)] at s239; exact s239
      refine S43_110 he hq1 ⟨fun a => ⟨fun b => ⟨fun c => c45 he hT hR hx0 h1 c (s189 a b _ ?_), fun c => s189 a b _ ?_⟩, fun b => c51 he hT hR ?_ ?_ ?_ (c44 he hx0 (by omega) (s240 _ FrT4 ((TkT4 hR hx0 (by omega)).ext ?_)))⟩, fun a => ⟨⟨by omega, by omega⟩, c51 he hT hR (by omega) (by omega) (by omega) ⟨⟨by omega, by omega⟩, c44 he hx0 (by omega) (s240 _ FrT4 ((TkT4 hR hx0 (by omega)).ext ?_))⟩⟩⟩
      · unfold eF; rw [if_neg (by omega), if_neg (by omega), if_neg b]
      · have c := Decidable.not_not.mp c
        unfold eF; rw [if_neg (by omega), if_neg (by omega), if_neg b]
        unfold tE; rw [if_pos c]
        unfold seF
        rw [ff_go h1 (by simp [paP, c])]
        have := ff_bd (P := paP g) (show x + 1 ≤ n by omega)
        split <;> omega
      · have := com_lt h1 (Decidable.not_not.mp b); omega
      · have := com_lt h1 (Decidable.not_not.mp b); omega
      · exact (ff_bd (by omega)).2
      · have b := Decidable.not_not.mp b
        obtain ⟨v2, v3, v4, v5⟩ := set4 (I := I) (k := x.toNat) (a := skp g n (ff (nlP g) n x)) (b := ff (nlP g) n x) (c := 0) (d := -1)
        refine ⟨v2.trans (skp_com h1 b).symm, v3.trans ?_, v4.trans ?_, v5.trans ?_⟩
        · unfold eF; rw [if_neg (by omega), if_neg (by omega), if_pos b]
        · exact (if_pos (by omega)).symm
        · exact (if_pos (by omega)).symm
      · obtain ⟨v2, v3, v4, v5⟩ := set4 (I := I) (k := x.toNat) (a := skp g n (x + 1)) (b := x + 1) (c := 0) (d := -1)
        refine ⟨v2.trans (skp_bl h1 (by omega)).symm, v3.trans ?_, v4.trans ?_, v5.trans ?_⟩
        · unfold eF; rw [if_neg (by omega), if_pos (by omega)]
        · exact (if_pos (by omega)).symm
        · exact (if_pos (by omega)).symm
    have s93 : RV 43 93 [vR (some 1), vR (some q1), vJ, vJ, vI (seF g n (x + 1)), vI x, vI (g x)] [vI (ff (nlP g) n x)] e I D Q := by
      refine S43_93 he hq1 ⟨fun a => ?_, fun a => ⟨⟨by omega, by omega⟩, ?_⟩⟩
      · have : seF g n (x + 1) = seF g n x := by unfold seF; rw [ff_go h1 (by simp [paP, a])]
        rw [this]; exact s110
      · have a := Decidable.not_not.mp a
        have : x + 1 = seF g n x := by unfold seF; rw [ff_hit (by simp [paP, a]), if_pos h1]
        rw [this]; exact s110
    refine S43_65 he hq1 ⟨fun a => by omega, fun a => ⟨⟨hx0, by omega⟩, ?_⟩⟩
    rw [hb]
    refine ⟨fun a => ?_, fun a => ?_⟩
    · rw [← ff_go h1 (by simp [nlP, a])]; exact s93
    · rw [ff_hit (P := nlP g) (lim := n) (p := x) (by simpa [nlP] using a)] at s93; exact s93
theorem c43 (he : HS e) {I : HI} {q1 : Nat} (hq1 : K0 q1 = 22) (h0 : 0 ≤ n) (h1 : n ≤ 3000) (h2 : n ≤ L0 q1) (hb : ∀ p : Int, 0 ≤ p → p < n → I q1 p.toNat % 256 = g p) {Q : HI → HD → Prop}
    (hQ : ∀ I', FrT (uI I 1 5 n) I' → TkB g n I' (uD D 1 4 q1) → TkT g n 0 I' → Q I' (uD D 1 4 q1)) : CV 43 [vR (some 1), vR (some q1), vI n] e I D Q := by
  have hd : uD D 1 4 q1 1 4 = q1 := uD_eq
  have hs : max 0 (min n (min ((L0 q1 : Nat) : Int) (3001 - 1))) = n := by omega
  have hq : q1 ≠ 1 := by intro q; rw [q] at hq1; exact absurd hq1 (by decide)
  refine S43 he hq1 ⟨⟨by decide, by decide⟩, ?_⟩
  rw [hs]
  refine c44 he h0 h1 ?_
  have f4 := FrT4 (I := uI I 1 5 n) (k := n.toNat) (a := n) (b := n) (c := 0) (d := -1)
  have hT0 : TkB g n (uI I 1 5 n) (uD D 1 4 q1) := ⟨uI_eq, h0, h1, by rw [hd]; exact hq1, by rw [hd]; exact h2, fun p a b => by rw [hd, uI_ne (by omega)]; exact hb p a b⟩
  have hT := hT0.fr f4
  obtain ⟨v2, v3, v4, v5⟩ := set4 (I := uI I 1 5 n) (k := n.toNat) (a := n) (b := n) (c := 0) (d := -1)
  have hR : TkT g n n (uI (uI (uI (uI (uI I 1 5 n) 2 n.toNat n) 3 n.toNat n) 4 n.toNat 0) 5 n.toNat (-1)) := by
    intro p a b
    rw [show p = n by omega]
    refine ⟨v2.trans (skp_ge (by omega)).symm, v3.trans ?_, v4.trans ?_, v5.trans ?_⟩
    · unfold eF; rw [if_pos (by omega)]
    · exact (if_pos (by omega)).symm
    · exact (if_pos (by omega)).symm
  generalize (uI (uI (uI (uI (uI I 1 5 n) 2 n.toNat n) 3 n.toNat n) 4 n.toNat 0) 5 n.toNat (-1)) = J at f4 hT hR
  rw [hT.1]
  refine ⟨⟨by omega, by omega⟩, ?_⟩
  have ee : n - 1 + 1 = n := by omega
  have := c43_loop he hq1 hd (Q := Q) _ J (n - 1) hT (by rw [ee]; exact hR) (by omega) (by omega) rfl (fun I' a b c => hQ I' (f4.trans a) b c)
  rw [ee, ff_ge (by omega)] at this
  have s : seF g n n = n := by unfold seF; rw [ff_ge (by omega), if_neg (by omega)]
  rw [s] at this
  exact this
end
