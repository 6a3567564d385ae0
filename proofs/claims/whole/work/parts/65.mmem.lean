/-! how the model holds a scan: side d -/
def whF (f : FR) : Bool := f.2.2.2.1 && (!f.2.2.2.2.1 || f.2.2.2.2.2.1)
def dtF (f : FR) : Int := if f.2.2.2.2.1 = true then f.2.2.2.2.2.2.1 else -1
def deF (f : FR) : Int := if f.2.2.2.2.1 = true then f.2.2.2.2.2.2.2 else 0
def mO (I : HI) (p : Nat) : Option FR → Prop
  | none => I 316 p = 0
  | some f => I 316 p = 1 ∧ I 317 p = f.1 ∧ I 318 p = f.2.1 ∧ I 319 p = f.2.2.1 ∧ I 320 p = b2i (whF f) ∧ I 321 p = dtF f ∧ I 322 p = deF f
def MnL (d : Nat) (I : HI) (l : RfL) : Prop := I 323 d = l.length ∧ ∀ (j : Nat) (r : Int × Int × Int), l[j]? = some r → I 324 (2000 * d + j) = r.2.2 ∧ I 325 (2000 * d + j) = r.1
def MtL (I : HI) (l : RfL) : Prop := I 312 17 = l.length ∧ ∀ (j : Nat) (r : Int × Int × Int), l[j]? = some r → I 326 j = r.2.2
def MM (d : Nat) (I : HI) (s : SC) : Prop := (∀ i, 1 ≤ i → i < 61 → mO I (61 * d + i) (s.1 i)) ∧ MnL d I s.2.1 ∧ (d = 0 → MtL I s.2.2.1) ∧ I 327 d = s.2.2.2.1 ∧ I 328 d = s.2.2.2.2.1 ∧ I 329 d = s.2.2.2.2.2
theorem mO.fr {S : Nat → Nat → Prop} {I I' : HI} {p : Nat} {o : Option FR} (h : mO I p o) (hf : Fr S I I') (hs : ∀ a, 316 ≤ a → a ≤ 322 → ¬ S a p) : mO I' p o := by
  cases o with
  | none => show I' 316 p = 0; rw [hf _ _ (hs 316 (by omega) (by omega))]; exact h
  | some f =>
    obtain ⟨a1, a2, a3, a4, a5, a6, a7⟩ := h
    exact ⟨by rw [hf _ _ (hs 316 (by omega) (by omega))]; exact a1, by rw [hf _ _ (hs 317 (by omega) (by omega))]; exact a2, by rw [hf _ _ (hs 318 (by omega) (by omega))]; exact a3, by rw [hf _ _ (hs 319 (by omega) (by omega))]; exact a4, by rw [hf _ _ (hs 320 (by omega) (by omega))]; exact a5, by rw [hf _ _ (hs 321 (by omega) (by omega))]; exact a6, by rw [hf _ _ (hs 322 (by omega) (by omega))]; exact a7⟩
theorem MnL.fr {S : Nat → Nat → Prop} {d : Nat} {I I' : HI} {l : RfL} (h : MnL d I l) (hf : Fr S I I') (h1 : ¬ S 323 d) (h2 : ∀ k, 2000 * d ≤ k → k < 2000 * d + l.length → ¬ S 324 k ∧ ¬ S 325 k) : MnL d I' l := by
  refine ⟨by rw [hf _ _ h1]; exact h.1, fun j r hr => ?_⟩
  have hl := (List.getElem?_eq_some_iff.mp hr).1
  have := h2 (2000 * d + j) (by omega) (by omega)
  rw [hf _ _ this.1, hf _ _ this.2]; exact h.2 j r hr
theorem MtL.fr {S : Nat → Nat → Prop} {I I' : HI} {l : RfL} (h : MtL I l) (hf : Fr S I I') (h1 : ¬ S 312 17) (h2 : ∀ k, ¬ S 326 k) : MtL I' l :=
  ⟨by rw [hf _ _ h1]; exact h.1, fun j r hr => by rw [hf _ _ (h2 j)]; exact h.2 j r hr⟩
/-- what else is written leaves it -/
theorem MM.fr {S : Nat → Nat → Prop} {d : Nat} {I I' : HI} {s : SC} (h : MM d I s) (hf : Fr S I I') (hs : ∀ a k, S a k → (a < 316 ∨ 329 < a) ∧ (a = 312 → k ≠ 17)) : MM d I' s := by
  obtain ⟨h1, h2, h3, h4, h5, h6⟩ := h
  have no : ∀ a k, 316 ≤ a → a ≤ 329 → ¬ S a k := fun a k q1 q2 q => by have := hs a k q; omega
  exact ⟨fun i i1 i2 => (h1 i i1 i2).fr hf (fun a q1 q2 => no a _ q1 (by omega)), h2.fr hf (no _ _ (by omega) (by omega)) (fun k _ _ => ⟨no _ _ (by omega) (by omega), no _ _ (by omega) (by omega)⟩), fun hd => (h3 hd).fr hf (fun q => (hs _ _ q).2 rfl rfl) (fun k => no _ _ (by omega) (by omega)), by rw [hf _ _ (no _ _ (by omega) (by omega))]; exact h4, by rw [hf _ _ (no _ _ (by omega) (by omega))]; exact h5, by rw [hf _ _ (no _ _ (by omega) (by omega))]; exact h6⟩
theorem MM.di {d : Nat} {I I' : HI} {s : SC} (h : MM d I s) (hf : Fr diS I I') : MM d I' s := h.fr hf (fun a k q => by unfold diS at q; omega)
theorem MM.cu {d : Nat} {I I' : HI} {s : SC} (h : MM d I s) (hf : Fr cuS I I') : MM d I' s := h.fr hf (fun a k q => by unfold cuS at q; omega)
def mnS (d a k : Nat) : Prop := (a = 323 ∧ k = d) ∨ ((a = 324 ∨ a = 325) ∧ 2000 * d ≤ k ∧ k < 2000 * d + 2000)
section
variable {e : En} {g : Int → Int} {n : Int} {d : Nat} {I : HI} {D : HD}
theorem MoB.sd (h : MoB g n (d : Int) I) : I 312 4 = (d : Int) ∧ d < 2 ∧ I 314 d = n ∧ 0 ≤ n ∧ n ≤ 3000 := by
  obtain ⟨h1, h2, h3, h4, h5, h6⟩ := h
  rw [Int.toNat_natCast] at h3
  exact ⟨h1, by omega, h3, h4, h5⟩
theorem m102 (he : HS e) (hM : I 312 4 = (d : Int)) (hd : d < 2) {x : Int} (h0 : 0 ≤ x) (h1 : x < 61) {Q : Int → HI → HD → Prop} (hQ : Q ((61 * d + x.toNat : Nat) : Int) I D) : CI 102 [vR (some 312), vI x] e I D Q := by
  refine S102 he ?_
  rw [hM]
  refine ⟨⟨by omega, by omega⟩, ⟨by omega, by omega⟩, ?_⟩
  have : (61 : Int) * (d : Int) + x = ((61 * d + x.toNat : Nat) : Int) := by omega
  rw [this]; exact hQ
theorem m103 (he : HS e) (hM : I 312 4 = (d : Int)) (hd : d < 2) {s : SC} (hS : MM d I s) {x : Int} {Q : Int → HI → HD → Prop} (hQ : Q (b2i (obO s.1 x).isSome) I D) : CI 103 [vR (some 312), vI x] e I D Q := by
  have hN : ¬ (1 ≤ x ∧ x < 61) → obO s.1 x = none := fun q => if_neg q
  refine S103 he ⟨fun q => by rw [hN (by omega)] at hQ; exact hQ, fun q => ⟨fun w => by rw [hN (by omega)] at hQ; exact hQ, fun w => m102 he hM hd (by omega) (by omega) ?_⟩⟩
  have ho : obO s.1 x = s.1 x.toNat := if_pos (by omega)
  have m := hS.1 x.toNat (by omega) (by omega)
  rw [Int.toNat_natCast]
  refine ⟨⟨by omega, by omega⟩, ?_⟩
  cases c : s.1 x.toNat with
  | none =>
    rw [c] at m ho
    rw [ho] at hQ
    exact ⟨fun _ => hQ, fun v => absurd m v⟩
  | some f =>
    rw [c] at m ho
    rw [ho] at hQ
    exact ⟨fun v => by have := m.1; omega, fun _ => hQ⟩
theorem m106 (he : HS e) (hM : I 312 4 = (d : Int)) (hd : d < 2) {s : SC} (hS : MM d I s) (hl : s.2.1.length < 2000) {k p : Int} {Q : HI → HD → Prop} (hQ : ∀ I', Fr (mnS d) I I' → MM d I' (s.1, s.2.1 ++ [(p, p, k)], s.2.2) → Q I' D) : CV 106 [vR (some 312), vI k, vI p] e I D Q := by
  obtain ⟨h1, h2, h3, h4, h5, h6⟩ := hS
  refine S106 he ?_
  rw [hM, Int.toNat_natCast, h2.1]
  have ix : ((2000 : Int) * (d : Int) + (s.2.1.length : Int)).toNat = 2000 * d + s.2.1.length := by omega
  rw [ix]
  have fr : Fr (mnS d) I (uI (uI (uI I 324 (2000 * d + s.2.1.length) k) 325 (2000 * d + s.2.1.length) p) 323 d ((s.2.1.length : Int) + 1)) :=
    (Fr.u (S := mnS d) (Or.inr ⟨Or.inl rfl, by omega, by omega⟩)).trans ((Fr.u (S := mnS d) (Or.inr ⟨Or.inr rfl, by omega, by omega⟩)).trans (Fr.u (S := mnS d) (Or.inl ⟨rfl, rfl⟩)))
  refine ⟨⟨by omega, by omega⟩, ⟨by omega, by omega⟩, ⟨by omega, by omega⟩, ⟨by omega, by omega⟩, ⟨by omega, by omega⟩, ⟨by omega, by omega⟩, ⟨by omega, by omega⟩, ⟨by omega, by omega⟩, ⟨by omega, by omega⟩, ⟨by omega, by omega⟩, ⟨by omega, by omega⟩, hQ _ fr ⟨fun i i1 i2 => (h1 i i1 i2).fr fr (fun a q1 q2 q => by unfold mnS at q; omega), ⟨?_, fun j r hr => ?_⟩, fun hd0 => (h3 hd0).fr fr (fun q => by unfold mnS at q; omega) (fun k q => by unfold mnS at q; omega), by rw [fr _ _ (fun q => by unfold mnS at q; omega)]; exact h4, by rw [fr _ _ (fun q => by unfold mnS at q; omega)]; exact h5, by rw [fr _ _ (fun q => by unfold mnS at q; omega)]; exact h6⟩⟩
  · rw [uI_eq]
    show (s.2.1.length : Int) + 1 = ((s.2.1 ++ [(p, p, k)]).length : Int)
    rw [List.length_append, List.length_singleton]; omega
  · have hr : (s.2.1 ++ [(p, p, k)])[j]? = some r := hr
    rw [uI_ne (by omega), uI_ne (by omega)]
    rcases Nat.lt_or_ge j s.2.1.length with q | q
    · rw [List.getElem?_append_left q] at hr
      rw [uI_ne (by omega), uI_ne (by omega), uI_ne (by omega)]
      exact h2.2 j r hr
    · have : j = s.2.1.length := by
        rcases Nat.eq_or_lt_of_le q with w | w
        · exact w.symm
        · rw [List.getElem?_eq_none (by rw [List.length_append, List.length_singleton]; omega)] at hr; cases hr
      subst this
      rw [List.getElem?_append_right (Nat.le_refl _), Nat.sub_self] at hr
      cases hr
      exact ⟨uI_eq, by rw [uI_ne (by omega), uI_eq]⟩
def clS (d i a k : Nat) : Prop := mnS d a k ∨ (316 ≤ a ∧ a ≤ 322 ∧ k = 61 * d + i) ∨ (a = 312 ∧ k = 25) ∨ (d = 0 ∧ ((a = 312 ∧ k = 17) ∨ a = 326))
theorem m107_59 (he : HS e) (hM : I 312 4 = (d : Int)) (hd : d < 2) {s : SC} (hS : MM d I s) {i : Nat} (hi1 : 1 ≤ i) (hi : i < 61) {h t ed eE w : Int} {ow gd : Bool} (o26 : I 312 26 = h) (o27 : I 312 27 = t) (o28 : I 312 28 = ed) (o29 : I 312 29 = eE) (o30 : I 312 30 = b2i ow) {f : FR} (hf : f.1 = h ∧ f.2.1 = t ∧ f.2.2.1 = w ∧ whF f = (ow && gd) ∧ dtF f = ed ∧ deF f = eE)
    {Q : HI → HD → Prop} (hQ : ∀ I', Fr (clS d i) I I' → I' 312 25 = 0 → MM d I' (fun j => if j = i then some f else s.1 j, s.2) → Q I' D) : RV 107 59 [vR (some 312), vI w, vI (b2i gd), vI ((61 * d + i : Nat) : Int)] [] e I D Q := by
  obtain ⟨h1, h2, h3, h4, h5, h6⟩ := hS
  have s114 : ∀ y : Int, y = b2i (ow && gd) → RV 107 114 [vR (some 312), vJ, vJ, vI ((61 * d + i : Nat) : Int)] [vI y, vI ((61 * d + i : Nat) : Int), vR (some 320)] e (uI (uI (uI (uI I 316 (61 * d + i) 1) 317 (61 * d + i) h) 318 (61 * d + i) t) 319 (61 * d + i) w) D Q := by
    intro y hy
    refine S107_114 he ?_
    have e28 : (uI (uI (uI (uI I 316 (61 * d + i) 1) 317 (61 * d + i) h) 318 (61 * d + i) t) 319 (61 * d + i) w) 312 28 = ed := by rw [uI_ne (by omega), uI_ne (by omega), uI_ne (by omega), uI_ne (by omega)]; exact o28
    have e29 : (uI (uI (uI (uI I 316 (61 * d + i) 1) 317 (61 * d + i) h) 318 (61 * d + i) t) 319 (61 * d + i) w) 312 29 = eE := by rw [uI_ne (by omega), uI_ne (by omega), uI_ne (by omega), uI_ne (by omega)]; exact o29
    rw [Int.toNat_natCast, e28, e29]
    have F : Fr (fun a k => (316 ≤ a ∧ a ≤ 322 ∧ k = 61 * d + i) ∨ (a = 312 ∧ k = 25)) I (uI (uI (uI (uI (uI (uI (uI (uI I 316 (61 * d + i) 1) 317 (61 * d + i) h) 318 (61 * d + i) t) 319 (61 * d + i) w) 320 (61 * d + i) y) 321 (61 * d + i) ed) 322 (61 * d + i) eE) 312 25 0) := by
      intro a k q
      rw [uI_ne (by omega), uI_ne (by omega), uI_ne (by omega), uI_ne (by omega), uI_ne (by omega), uI_ne (by omega), uI_ne (by omega), uI_ne (by omega)]
    have v : mO (uI (uI (uI (uI (uI (uI (uI (uI I 316 (61 * d + i) 1) 317 (61 * d + i) h) 318 (61 * d + i) t) 319 (61 * d + i) w) 320 (61 * d + i) y) 321 (61 * d + i) ed) 322 (61 * d + i) eE) 312 25 0) (61 * d + i) (some f) := by
      refine ⟨?_, ?_, ?_, ?_, ?_, ?_, ?_⟩
      · rw [uI_ne (by omega), uI_ne (by omega), uI_ne (by omega), uI_ne (by omega), uI_ne (by omega), uI_ne (by omega), uI_ne (by omega), uI_eq]
      · rw [uI_ne (by omega), uI_ne (by omega), uI_ne (by omega), uI_ne (by omega), uI_ne (by omega), uI_ne (by omega), uI_eq, hf.1]
      · rw [uI_ne (by omega), uI_ne (by omega), uI_ne (by omega), uI_ne (by omega), uI_ne (by omega), uI_eq, hf.2.1]
      · rw [uI_ne (by omega), uI_ne (by omega), uI_ne (by omega), uI_ne (by omega), uI_eq, hf.2.2.1]
      · rw [uI_ne (by omega), uI_ne (by omega), uI_ne (by omega), uI_eq, hf.2.2.2.1]; exact hy
      · rw [uI_ne (by omega), uI_ne (by omega), uI_eq, hf.2.2.2.2.1]
      · rw [uI_ne (by omega), uI_eq, hf.2.2.2.2.2]
    have z25 : (uI (uI (uI (uI (uI (uI (uI (uI I 316 (61 * d + i) 1) 317 (61 * d + i) h) 318 (61 * d + i) t) 319 (61 * d + i) w) 320 (61 * d + i) y) 321 (61 * d + i) ed) 322 (61 * d + i) eE) 312 25 0) 312 25 = 0 := uI_eq
    generalize (uI (uI (uI (uI (uI (uI (uI (uI I 316 (61 * d + i) 1) 317 (61 * d + i) h) 318 (61 * d + i) t) 319 (61 * d + i) w) 320 (61 * d + i) y) 321 (61 * d + i) ed) 322 (61 * d + i) eE) 312 25 0) = J at F v z25
    refine ⟨⟨by omega, by omega⟩, by rw [hy]; exact b2i_01 _, ⟨by omega, by omega⟩, ⟨by omega, by omega⟩, hQ J (F.mono fun a k q => by unfold clS; omega) z25 ⟨fun j j1 j2 => ?_, h2.fr F (by omega) (fun k _ _ => ⟨by omega, by omega⟩), fun hd0 => (h3 hd0).fr F (by omega) (fun k => by omega), by rw [F _ _ (by omega)]; exact h4, by rw [F _ _ (by omega)]; exact h5, by rw [F _ _ (by omega)]; exact h6⟩⟩
    show mO J (61 * d + j) (if j = i then some f else s.1 j)
    by_cases c : j = i
    · rw [if_pos c, c]; exact v
    · rw [if_neg c]; exact (h1 j j1 j2).fr F (fun a q1 q2 q => by omega)
  have s113 : (ow && gd) = false → RV 107 113 [vR (some 312), vJ, vJ, vI ((61 * d + i : Nat) : Int)] [vI ((61 * d + i : Nat) : Int), vR (some 320)] e (uI (uI (uI (uI I 316 (61 * d + i) 1) 317 (61 * d + i) h) 318 (61 * d + i) t) 319 (61 * d + i) w) D Q := fun q => S107_113 he (s114 0 (by rw [q]; rfl))
  refine S107_59 he ?_
  rw [Int.toNat_natCast, o26, o27, o30]
  refine ⟨⟨by omega, by omega⟩, ⟨by omega, by omega⟩, ⟨by omega, by omega⟩, ⟨by omega, by omega⟩, fun q => s113 (by rw [b2i_0.mp q]; rfl), fun q => ⟨fun w => s113 (by rw [b2i_0.mp w]; simp), fun w => s114 1 (by rw [b2i_n q, b2i_n w]; rfl)⟩⟩
theorem m107 (he : HS e) (hM : I 312 4 = (d : Int)) (hd : d < 2) {s : SC} (hS : MM d I s) {i : Nat} (hi1 : 1 ≤ i) (hi : i < 61) {h t ed eE w : Int} {ow gd : Bool} (o25 : I 312 25 = (i : Int)) (o26 : I 312 26 = h) (o27 : I 312 27 = t) (o28 : I 312 28 = ed) (o29 : I 312 29 = eE) (o30 : I 312 30 = b2i ow) {f : FR} (hf : f.1 = h ∧ f.2.1 = t ∧ f.2.2.1 = w ∧ whF f = (ow && gd) ∧ dtF f = ed ∧ deF f = eE)
    (hl : s.2.1.length < 2000) (hl2 : s.2.2.1.length < 800) {Q : HI → HD → Prop} (hQ : ∀ I', Fr (clS d i) I I' → I' 312 25 = 0 → MM d I' (keS i f s) → Q I' D) : CV 107 [vR (some 312), vI w, vI (b2i gd)] e I D Q := by
  refine S107 he ?_
  rw [o25]
  refine m102 he hM hd (by omega) (by omega) ?_
  rw [Int.toNat_natCast, Int.toNat_natCast]
  have mi := hS.1 i hi1 hi
  refine ⟨⟨by omega, by omega⟩, fun q => ?_, fun q => ?_⟩
  · have hn : s.1 i = none := by
      cases c : s.1 i with
      | none => rfl
      | some f0 => rw [c] at mi; have := mi.1; omega
    refine m107_59 he hM hd hS hi1 hi o26 o27 o28 o29 o30 hf fun I' f' z M' => hQ I' f' z ?_
    unfold keS
    rw [hn]
    dsimp only
    rw [List.append_nil, List.append_nil]
    exact M'
  · obtain ⟨f0, hn⟩ : ∃ f0, s.1 i = some f0 := by
      cases c : s.1 i with
      | none => rw [c] at mi; exact absurd mi q
      | some f0 => exact ⟨f0, rfl⟩
    rw [hn] at mi
    rw [mi.2.1]
    refine ⟨⟨by omega, by omega⟩, m106 he hM hd hS hl fun I1 f1 M1 => ?_⟩
    have g4 : I1 312 4 = (d : Int) := by rw [f1 _ _ (fun q => by unfold mnS at q; omega)]; exact hM
    have gk : ∀ k, k ≠ 17 → I1 312 k = I 312 k := fun k _ => f1 _ _ (fun q => by unfold mnS at q; omega)
    rw [g4]
    have fin : ∀ J : HI, Fr (fun a k => (a = 312 ∧ k = 17) ∨ a = 326) I1 J → (d ≠ 0 → J = I1) → MM d J (s.1, s.2.1 ++ [(f0.1, f0.1, 4)], s.2.2.1 ++ [(f.1, f.2.2.1, (i : Int))], s.2.2.2) → RV 107 59 [vR (some 312), vI w, vI (b2i gd), vI ((61 * d + i : Nat) : Int)] [] e J D Q := by
      intro J fJ hJ MJ
      have gj : ∀ k, k ≠ 17 → J 312 k = I 312 k := fun k hk => by rw [fJ _ _ (by omega)]; exact gk k hk
      refine m107_59 he (by rw [gj 4 (by omega)]; exact hM) hd MJ hi1 hi (by rw [gj 26 (by omega)]; exact o26) (by rw [gj 27 (by omega)]; exact o27) (by rw [gj 28 (by omega)]; exact o28) (by rw [gj 29 (by omega)]; exact o29) (by rw [gj 30 (by omega)]; exact o30) hf fun I' f' z M' => hQ I' ?_ z ?_
      · refine (f1.mono fun a k q => Or.inl q).trans (Fr.trans ?_ f')
        by_cases c : d = 0
        · exact fJ.mono fun a k q => Or.inr (Or.inr (Or.inr ⟨c, q⟩))
        · rw [hJ c]; exact Fr.refl
      · unfold keS
        rw [hn]
        exact M'
    refine ⟨fun q => fin I1 Fr.refl (fun _ => rfl) ⟨M1.1, M1.2.1, fun hd0 => absurd (by omega) q, M1.2.2.2⟩, fun q => ?_⟩
    have hd0 : d = 0 := by omega
    have mt := M1.2.2.1 hd0
    have ml : I1 312 17 = (s.2.2.1.length : Int) := mt.1
    have g25 : I1 312 25 = (i : Int) := by rw [gk 25 (by omega)]; exact o25
    rw [ml, Int.toNat_natCast, g25]
    have F : Fr (fun a k => (a = 312 ∧ k = 17) ∨ a = 326) I1 (uI (uI I1 326 s.2.2.1.length (i : Int)) 312 17 ((s.2.2.1.length : Int) + 1)) := (Fr.u (S := fun a k => (a = 312 ∧ k = 17) ∨ a = 326) (Or.inr rfl)).trans (Fr.u (Or.inl ⟨rfl, rfl⟩))
    refine ⟨⟨by omega, by omega⟩, ⟨by omega, by omega⟩, fin _ F (fun c => absurd hd0 c) ⟨fun j j1 j2 => (M1.1 j j1 j2).fr F (fun a q1 q2 q => by omega), M1.2.1.fr F (by omega) (fun k _ _ => ⟨by omega, by omega⟩), fun _ => ⟨?_, fun j r hr => ?_⟩, by rw [F _ _ (by omega)]; exact M1.2.2.2.1, by rw [F _ _ (by omega)]; exact M1.2.2.2.2.1, by rw [F _ _ (by omega)]; exact M1.2.2.2.2.2⟩⟩
    · rw [uI_eq]
      show (s.2.2.1.length : Int) + 1 = ((s.2.2.1 ++ [(f.1, f.2.2.1, (i : Int))]).length : Int)
      rw [List.length_append, List.length_singleton]; omega
    · have hr : (s.2.2.1 ++ [(f.1, f.2.2.1, (i : Int))])[j]? = some r := hr
      rw [uI_ne (by omega)]
      rcases Nat.lt_or_ge j s.2.2.1.length with q | q
      · rw [List.getElem?_append_left q] at hr
        rw [uI_ne (by omega)]; exact mt.2 j r hr
      · have : j = s.2.2.1.length := by
          rcases Nat.eq_or_lt_of_le q with w | w
          · exact w.symm
          · rw [List.getElem?_eq_none (by rw [List.length_append, List.length_singleton]; omega)] at hr; cases hr
        subst this
        rw [List.getElem?_append_right (Nat.le_refl _), Nat.sub_self] at hr
        cases hr
        exact uI_eq
end
