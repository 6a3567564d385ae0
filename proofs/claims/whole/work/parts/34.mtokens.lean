/-! the model's tokens -/
def Fr (S : Nat → Nat → Prop) (I I' : HI) : Prop := ∀ a k, ¬ S a k → I' a k = I a k
theorem Fr.refl {S : Nat → Nat → Prop} {I : HI} : Fr S I I := fun _ _ _ => rfl
theorem Fr.trans {S : Nat → Nat → Prop} {I J K : HI} (h : Fr S I J) (h2 : Fr S J K) : Fr S I K := fun a k q => (h2 a k q).trans (h a k q)
theorem Fr.mono {S S' : Nat → Nat → Prop} {I J : HI} (h : Fr S I J) (hs : ∀ a k, S a k → S' a k) : Fr S' I J := fun a k q => h a k fun w => q (hs a k w)
theorem Fr.u {S : Nat → Nat → Prop} {I : HI} {a k : Nat} {z : Int} (h : S a k) : Fr S I (uI I a k z) := fun b j q => uI_ne fun w => q (by rw [w.1, w.2]; exact h)
def atS (a k : Nat) : Prop := a = 312 ∧ k = 31
def cuS (a k : Nat) : Prop := a = 312 ∧ (k = 31 ∨ k = 33 ∨ k = 34)
/-- the model's bytes of side s -/
def MoB (g : Int → Int) (n s : Int) (I : HI) : Prop := I 312 4 = s ∧ (s = 0 ∨ s = 1) ∧ I 314 s.toNat = n ∧ 0 ≤ n ∧ n ≤ 3000 ∧ ∀ p : Int, 0 ≤ p → p < n → I 315 (3000 * s + p).toNat = g p ∧ 0 ≤ g p ∧ g p ≤ 255
theorem MoB.fr {g : Int → Int} {n s : Int} {S : Nat → Nat → Prop} {I I' : HI} (h : MoB g n s I) (hf : Fr S I I') (h1 : ¬ S 312 4) (h2 : ∀ k, ¬ S 314 k ∧ ¬ S 315 k) : MoB g n s I' := by
  obtain ⟨a, b, c, d, f, k⟩ := h
  exact ⟨by rw [hf _ _ h1]; exact a, b, by rw [hf _ _ (h2 _).1]; exact c, d, f, fun p p0 p1 => by rw [hf _ _ (h2 _).2]; exact k p p0 p1⟩
theorem MoB.at {g : Int → Int} {n s : Int} {I I' : HI} (h : MoB g n s I) (hf : Fr atS I I') : MoB g n s I' := h.fr hf (by simp [atS]) (by simp [atS])
theorem MoB.cu {g : Int → Int} {n s : Int} {I I' : HI} (h : MoB g n s I) (hf : Fr cuS I I') : MoB g n s I' := h.fr hf (by simp [cuS]) (by simp [cuS])
theorem atcu (a k : Nat) (h : atS a k) : cuS a k := ⟨h.1, Or.inl h.2⟩
def rfB (g : Int → Int) (n lim f t a : Int) : Bool :=
  decide (0 ≤ nuF g f t) && (decide (skp g lim a < lim) && (decide (0 ≤ nuF g (skp g lim a) (tE g lim (skp g lim a))) && (decide (skp g lim (tE g lim (skp g lim a)) < lim) &&
    isF g n (skp g lim (tE g lim (skp g lim a))) (tE g lim (skp g lim (tE g lim (skp g lim a)))) [82])))
def rfE (g : Int → Int) (lim a : Int) : Int := tE g lim (skp g lim (tE g lim (skp g lim a)))
/-- the long w holds the bytes of l -/
def WOK (w : Int) (l : List Nat) : Prop := l.length ≤ 8 ∧ ∀ j, j < l.length → (0 ≤ w >>> (8 * j) ∧ w >>> (8 * j) < 9223372036854775808) ∧ (w >>> (8 * j)) % 256 = ((l.getD j 0 : Nat) : Int)
section
variable {e : En} {D : HD} {g : Int → Int} {n s lim : Int}
theorem m88 (he : HS e) {I : HI} (hM : MoB g n s I) {x : Int} (h0 : 0 ≤ x) (h1 : x < n) {Q : Int → HI → HD → Prop} (h : Q (g x) I D) : CI 88 [vR (some 312), vI x] e I D Q := by
  obtain ⟨a, b, c, d, f, k⟩ := hM
  refine S88 he ?_
  rw [a, (k x h0 h1).1]
  exact ⟨⟨by omega, by omega⟩, ⟨by omega, by omega⟩, ⟨by omega, by omega⟩, h⟩
theorem m89 (he : HS e) {I : HI} {x : Int} {Q : Int → HI → HD → Prop} (h : Q (b2i (reg x)) I D) : CI 89 [vI x] e I D Q := by
  have s60 : sgn x = true → RI 89 60 [vI x, vJ] [] e I D Q := by
    intro hs
    have : reg x = false := by simp [reg, hs]
    rw [this] at h
    exact S89_60 he (S89_65 he ⟨fun _ => h, fun _ => ⟨fun _ => h, fun q => absurd (by decide) q⟩⟩)
  have s65 : sgn x = false → RI 89 65 [vI x, vJ] [vI 0] e I D Q := by
    intro hs
    refine S89_65 he ⟨fun a => ?_, fun a => ⟨fun b => absurd rfl b, fun _ => ?_⟩⟩
    · have : reg x = false := by simp [reg]; omega
      rw [this] at h; exact h
    · have : reg x = true := by simp [reg, hs]; omega
      rw [this] at h; exact h
  refine S89 he ⟨fun a => s60 (by simp [sgn, a]), fun a1 => ⟨fun a => s60 (by simp [sgn, a]), fun a2 => ⟨fun a => s60 (by simp [sgn, a]), fun a3 => ⟨fun a => s60 (by simp [sgn, a]), fun a4 => ⟨fun a => s60 (by simp [sgn, a]), fun a5 => ⟨fun a => s60 (by simp [sgn, a]), fun a6 => ⟨fun a => s60 (by simp [sgn, a]), fun a7 => ⟨fun a => s60 (by simp [sgn, a]), fun a8 => ⟨fun a => s60 (by simp [sgn, a]), fun a9 => ⟨fun a => s65 (by simp [sgn, a, a1, a2, a3, a4, a5, a6, a7, a8, a9]), fun a => s60 (by simp [sgn]; omega)⟩⟩⟩⟩⟩⟩⟩⟩⟩⟩
theorem m90_30 (he : HS e) (h1 : lim ≤ n) {Q : HI → HD → Prop} (k : Nat) : ∀ (I : HI) (a : Int), MoB g n s I → I 312 32 = lim → I 312 31 = a → 0 ≤ a → a ≤ lim → (lim - a).toNat = k →
    (∀ I', Fr atS I I' → I' 312 31 = ff (nlP g) lim a → RV 90 2 [vR (some 312), vI 1] [] e I' D Q) → RV 90 30 [vR (some 312), vI 1] [] e I D Q := by
  induction k with
  | zero =>
    intro I a hM hl ha h0 h2 hk hQ
    refine S90_30 he ⟨fun q => hQ I Fr.refl (by rw [ff_ge (by omega)]; exact ha), fun q => by omega⟩
  | succ k ih =>
    intro I a hM hl ha h0 h2 hk hQ
    have hn := hM.2.2.2.2.1
    refine S90_30 he ⟨fun q => by omega, fun q => ?_⟩
    rw [ha]
    refine m88 he hM h0 (by omega) ?_
    rw [ha]
    refine ⟨fun b => hQ I Fr.refl (by rw [ff_hit (by simp [nlP, b])]; exact ha), fun b => ⟨⟨by omega, by omega⟩, ?_⟩⟩
    have f : Fr atS I (uI I 312 31 (a + 1)) := Fr.u ⟨rfl, rfl⟩
    refine ih _ (a + 1) (hM.at f) (by rw [uI_ne (by omega)]; exact hl) uI_eq (by omega) (by omega) (by omega) fun I' f2 e2 => hQ I' (f.trans f2) ?_
    rw [e2, ff_go (p := a) (by omega) (by simp [nlP, b])]
theorem m90_2 (he : HS e) (h1 : lim ≤ n) {Q : HI → HD → Prop} (k : Nat) : ∀ (I : HI) (a : Int), MoB g n s I → I 312 32 = lim → I 312 31 = a → 0 ≤ a → a ≤ lim → (lim - a).toNat ≤ k →
    (∀ I', Fr atS I I' → I' 312 31 = skp g lim a → Q I' D) → RV 90 2 [vR (some 312), vI 1] [] e I D Q := by
  induction k with
  | zero =>
    intro I a hM hl ha h0 h2 hk hQ
    refine S90_2 he ⟨fun q => absurd q (by decide), fun _ => ⟨fun q => hQ I Fr.refl (by rw [skp_ge (by omega)]; exact ha), fun q => by omega⟩⟩
  | succ k ih =>
    intro I a hM hl ha h0 h2 hk hQ
    have hn := hM.2.2.2.2.1
    refine S90_2 he ⟨fun q => absurd q (by decide), fun _ => ⟨fun q => hQ I Fr.refl (by rw [skp_ge (by omega)]; exact ha), fun q => ?_⟩⟩
    rw [ha]
    refine m88 he hM h0 (by omega) ?_
    rw [ha]
    refine ⟨fun b => m88 he hM h0 (by omega) ⟨fun c => ?_, fun c => ?_⟩, fun b => ?_⟩
    · refine S90_2 he ⟨fun _ => hQ I Fr.refl (by rw [skp_tok ⟨c, b⟩]; exact ha), fun q => absurd rfl q⟩
    · rw [ha]
      have f : Fr atS I (uI I 312 31 (a + 1)) := Fr.u ⟨rfl, rfl⟩
      refine ⟨⟨by omega, by omega⟩, ih _ (a + 1) (hM.at f) (by rw [uI_ne (by omega)]; exact hl) uI_eq (by omega) (by omega) (by omega) fun I' f2 e2 => hQ I' (f.trans f2) ?_⟩
      rw [e2, skp_bl (p := a) (by omega) (by omega)]
    · have b := Decidable.not_not.mp b
      have b1 := com_lt (lim := lim) (show a < lim by omega) b
      have b2 := (ff_bd (P := nlP g) h2).2
      refine m90_30 he h1 _ I a hM hl ha h0 h2 rfl fun I' f2 e2 => ?_
      refine ih I' _ (hM.at f2) (by rw [f2 _ _ (by simp [atS])]; exact hl) e2 (by omega) b2 (by omega) fun I3 f3 e3 => hQ I3 (f2.trans f3) ?_
      rw [e3, skp_com (p := a) (by omega) b]
theorem m90 (he : HS e) {I : HI} {a : Int} (hM : MoB g n s I) (hl : I 312 32 = lim) (ha : I 312 31 = a) (h0 : 0 ≤ a) (h2 : a ≤ lim) (h1 : lim ≤ n) {Q : HI → HD → Prop}
    (hQ : ∀ I', Fr atS I I' → I' 312 31 = skp g lim a → Q I' D) : CV 90 [vR (some 312)] e I D Q := S90 he (m90_2 he h1 _ I a hM hl ha h0 h2 (Nat.le_refl _) hQ)
theorem m91_50 (he : HS e) (h1 : lim ≤ n) {Q : Int → HI → HD → Prop} (k : Nat) : ∀ (I : HI) (a : Int), MoB g n s I → I 312 32 = lim → I 312 31 = a → 0 ≤ a → a ≤ lim → (lim - a).toNat = k →
    (∀ I', Fr atS I I' → I' 312 31 = ff (paP g) lim a → RI 91 87 [vR (some 312), vJ] [] e I' D Q) → RI 91 50 [vR (some 312), vJ] [] e I D Q := by
  induction k with
  | zero =>
    intro I a hM hl ha h0 h2 hk hQ
    refine S91_50 he ⟨fun q => hQ I Fr.refl (by rw [ff_ge (by omega)]; exact ha), fun q => by omega⟩
  | succ k ih =>
    intro I a hM hl ha h0 h2 hk hQ
    have hn := hM.2.2.2.2.1
    refine S91_50 he ⟨fun q => by omega, fun q => ?_⟩
    rw [ha]
    refine m88 he hM h0 (by omega) ?_
    rw [ha]
    refine ⟨fun b => hQ I Fr.refl (by rw [ff_hit (by simp [paP, b])]; exact ha), fun b => ⟨⟨by omega, by omega⟩, ?_⟩⟩
    have f : Fr atS I (uI I 312 31 (a + 1)) := Fr.u ⟨rfl, rfl⟩
    refine ih _ (a + 1) (hM.at f) (by rw [uI_ne (by omega)]; exact hl) uI_eq (by omega) (by omega) (by omega) fun I' f2 e2 => hQ I' (f.trans f2) ?_
    rw [e2, ff_go (p := a) (by omega) (by simp [paP, b])]
theorem m91_186 (he : HS e) (h1 : lim ≤ n) {Q : Int → HI → HD → Prop} (k : Nat) : ∀ (I : HI) (a : Int), MoB g n s I → I 312 32 = lim → I 312 31 = a → 0 ≤ a → a ≤ lim → (lim - a).toNat = k →
    (∀ I', Fr atS I I' → I' 312 31 = ff (nrP g) lim a → RI 91 224 [vR (some 312), vJ] [] e I' D Q) → RI 91 186 [vR (some 312), vJ] [] e I D Q := by
  induction k with
  | zero =>
    intro I a hM hl ha h0 h2 hk hQ
    refine S91_186 he ⟨fun q => hQ I Fr.refl (by rw [ff_ge (by omega)]; exact ha), fun q => by omega⟩
  | succ k ih =>
    intro I a hM hl ha h0 h2 hk hQ
    have hn := hM.2.2.2.2.1
    refine S91_186 he ⟨fun q => by omega, fun q => ?_⟩
    rw [ha]
    refine m88 he hM h0 (by omega) (m89 he ?_)
    rw [ha]
    refine ⟨fun b => hQ I Fr.refl (by rw [ff_hit (by simp [nrP, b2i_0.mp b])]; exact ha), fun b => ⟨⟨by omega, by omega⟩, ?_⟩⟩
    have b : reg (g a) = true := by cases q : reg (g a); exact absurd (b2i_0.mpr q) b; rfl
    have f : Fr atS I (uI I 312 31 (a + 1)) := Fr.u ⟨rfl, rfl⟩
    refine ih _ (a + 1) (hM.at f) (by rw [uI_ne (by omega)]; exact hl) uI_eq (by omega) (by omega) (by omega) fun I' f2 e2 => hQ I' (f.trans f2) ?_
    rw [e2, ff_go (p := a) (by omega) (by simp [nrP, b])]
/-- next: the token behind blanks, cut at the limit -/
theorem m91 (he : HS e) {I : HI} {a : Int} (hM : MoB g n s I) (hl : I 312 32 = lim) (ha : I 312 31 = a) (h0 : 0 ≤ a) (h2 : a ≤ lim) (h1 : lim ≤ n) {Q : Int → HI → HD → Prop}
    (hN : ¬ skp g lim a < lim → ∀ I', Fr cuS I I' → I' 312 31 = lim → Q 0 I' D)
    (hY : skp g lim a < lim → ∀ I', Fr cuS I I' → I' 312 31 = tE g lim (skp g lim a) → I' 312 33 = skp g lim a → I' 312 34 = tE g lim (skp g lim a) → Q 1 I' D) : CI 91 [vR (some 312)] e I D Q := by
  have hn := hM.2.2.2.2.1
  obtain ⟨b1, b2⟩ := skp_bd (g := g) h2
  refine S91 he (m90 he hM hl ha h0 h2 h1 fun J fJ eJ => ?_)
  have lJ : J 312 32 = lim := by rw [fJ _ _ (by simp [atS])]; exact hl
  have mJ := hM.at fJ
  rw [eJ, lJ]
  refine ⟨fun c => ?_, fun c => hN c J (fJ.mono atcu) (by omega)⟩
  have f1 : Fr cuS I (uI J 312 33 (skp g lim a)) := (fJ.mono atcu).trans (Fr.u ⟨rfl, Or.inr (Or.inl rfl)⟩)
  have m1 := hM.cu f1
  have a1 : (uI J 312 33 (skp g lim a)) 312 31 = skp g lim a := by rw [uI_ne (by omega)]; exact eJ
  have g1 : (uI J 312 33 (skp g lim a)) 312 33 = skp g lim a := uI_eq
  have l1 : (uI J 312 33 (skp g lim a)) 312 32 = lim := by rw [uI_ne (by omega)]; exact lJ
  generalize uI J 312 33 (skp g lim a) = K at f1 m1 a1 g1 l1
  have hY := hY c
  generalize hp : skp g lim a = p at *
  have e224 : ∀ I', Fr cuS I I' → I' 312 33 = p → I' 312 31 = tE g lim p → RI 91 224 [vR (some 312), vJ] [] e I' D Q := by
    intro I' f2 e2 e3
    refine S91_224 he (hY _ (f2.trans (Fr.u ⟨rfl, Or.inr (Or.inr rfl)⟩)) ?_ ?_ ?_)
    · rw [uI_ne (by omega)]; exact e3
    · rw [uI_ne (by omega)]; exact e2
    · rw [uI_eq]; exact e3
  refine m88 he m1 (by omega) (by omega) ?_
  rw [a1]
  have f2 : Fr cuS I (uI K 312 31 (p + 1)) := f1.trans (Fr.u ⟨rfl, Or.inl rfl⟩)
  have m2 := hM.cu f2
  have a2 : (uI K 312 31 (p + 1)) 312 31 = p + 1 := uI_eq
  have g2 : (uI K 312 31 (p + 1)) 312 33 = p := by rw [uI_ne (by omega)]; exact g1
  have l2 : (uI K 312 31 (p + 1)) 312 32 = lim := by rw [uI_ne (by omega)]; exact l1
  generalize uI K 312 31 (p + 1) = N at f2 m2 a2 g2 l2
  have e186 : g p = 47 ∨ reg (g p) = true → RI 91 186 [vR (some 312), vJ] [] e N D Q := by
    intro q
    refine m91_186 he h1 _ N (p + 1) m2 l2 a2 (by omega) (by omega) rfl fun I' f3 e3 => e224 I' (f2.trans (f3.mono atcu)) ?_ ?_
    · rw [f3 _ _ (by simp [atS])]; exact g2
    · rw [e3, tE_word q]
  have e130 : g p = 60 ∨ g p = 62 → RI 91 130 [vR (some 312), vI (g p)] [] e N D Q := by
    intro q
    have hE : tE g lim p = if p + 1 < lim ∧ g (p + 1) = g p then p + 2 else p + 1 := by unfold tE; rw [if_neg (by omega), if_pos q]
    have e163 : ¬ (p + 1 < lim ∧ g (p + 1) = g p) → RI 91 163 [vR (some 312), vJ] [vR (some 312)] e N D Q := by
      intro w
      rw [if_neg w] at hE
      refine S91_163 he (S91_167 he ?_)
      rw [uI_self rfl]
      exact e224 N f2 g2 (by rw [a2, hE])
    refine S91_130 he ?_
    rw [a2, l2]
    refine ⟨fun w => e163 (by omega), fun w => m88 he m2 (by omega) (by omega) ?_⟩
    rw [a2]
    refine ⟨fun v => e163 (fun u => v u.2), fun v => ⟨⟨by omega, by omega⟩, S91_167 he (e224 _ (f2.trans (Fr.u ⟨rfl, Or.inl rfl⟩)) ?_ ?_)⟩⟩
    · rw [uI_ne (by omega)]; exact g2
    · rw [uI_eq, hE, if_pos ⟨by omega, Decidable.not_not.mp v⟩]; omega
  refine ⟨⟨by omega, by omega⟩, fun q => ⟨fun w => e130 (Or.inl w), fun w => ⟨fun v => ⟨fun u => e186 (Or.inl u), fun u => m89 he ⟨fun r => e224 N f2 g2 ?_, fun r => e186 (Or.inr ?_)⟩⟩, fun v => e130 (Or.inr (Decidable.not_not.mp v))⟩⟩, fun q => ?_⟩
  · rw [a2]; unfold tE; rw [if_neg q, if_neg (by omega), if_neg (by simp [u, b2i_0.mp r])]
  · cases t : reg (g p)
    · exact absurd (b2i_0.mpr t) r
    · rfl
  · have q := Decidable.not_not.mp q
    refine m91_50 he h1 _ N (p + 1) m2 l2 a2 (by omega) (by omega) rfl fun I' f3 e3 => ?_
    have k1 := ff_bd (P := paP g) (show p + 1 ≤ lim by omega)
    have hE : tE g lim p = if ff (paP g) lim (p + 1) < lim then ff (paP g) lim (p + 1) + 1 else ff (paP g) lim (p + 1) := by unfold tE; rw [if_pos q]
    have g3 : I' 312 33 = p := by rw [f3 _ _ (by simp [atS])]; exact g2
    have l3 : I' 312 32 = lim := by rw [f3 _ _ (by simp [atS])]; exact l2
    have f4 := f2.trans (f3.mono atcu)
    refine S91_87 he ?_
    rw [e3, l3]
    refine ⟨fun w => S91_112 he (e224 _ (f4.trans (Fr.u ⟨rfl, Or.inl rfl⟩)) ?_ ?_), fun w => ⟨⟨by omega, by omega⟩, S91_112 he (e224 _ (f4.trans (Fr.u ⟨rfl, Or.inl rfl⟩)) ?_ ?_)⟩⟩
    · rw [uI_ne (by omega)]; exact g3
    · rw [uI_eq, hE, if_neg (by omega)]
    · rw [uI_ne (by omega)]; exact g3
    · rw [uI_eq, hE, if_pos (by omega)]
end
