/-! scanAll -/
section
variable {e : En} {g : Int → Int} {n : Int} {d : Nat} {D : HD}
theorem m116_2 (he : HS e) {x : Int} {Q : HI → HD → Prop} (k : Nat) : ∀ (y : Int) (I : HI), 0 ≤ y → y ≤ 61 → (61 - y).toNat = k → (∀ i, i < y.toNat → I 338 i = 0) → (∀ J, Fr (fun a _ => a = 338) I J → (∀ i, i < 61 → J 338 i = 0) → RV 116 30 [vR (some 312), vJ, vI 1, vJ, vJ, vJ] [] e (uI J 339 0 x) D Q) → RV 116 2 [vR (some 312), vI x, vI y, vJ, vJ, vJ] [] e I D Q := by
  induction k with
  | zero =>
    intro y I h0 h1 hk hz hQ
    exact S116_2 he ⟨fun _ => hQ I Fr.refl (fun i hi => hz i (by omega)), fun q => by omega⟩
  | succ k ih =>
    intro y I h0 h1 hk hz hQ
    refine S116_2 he ⟨fun q => by omega, fun _ => ⟨⟨h0, by omega⟩, ⟨by omega, by omega⟩, ih (y + 1) _ (by omega) (by omega) (by omega) (fun i hi => ?_) (fun J f1 z1 => hQ J ((Fr.u (S := fun a _ => a = 338) rfl).trans f1) z1)⟩⟩
    by_cases c : i = y.toNat
    · rw [c, uI_eq]
    · rw [uI_ne (by omega)]; exact hz i (by omega)
theorem m116 (he : HS e) {I : HI} {s : SC} (hok : OKS g n s.1) (ht : tot g n s.1 ≤ 1300) (hM : MoB g n (d : Int) I) (hS : MM d I s) (hP : PgL d I []) {x : Int} {Q : HI → HD → Prop}
    (hQ : ∀ I', Fr (wkS d) I I' → PgL d I' (wkN g n s.1 2000 [x] (fun _ => false) []) → Q I' D) : CV 116 [vR (some 312), vI x] e I D Q := by
  have uk := usK_0 (g := g) (n := n) (fo := s.1)
  have u0 := usN_0
  refine S116 he (m116_2 he 61 0 I (Int.le_refl _) (by omega) rfl (fun i hi => by omega) fun J f1 z1 => ?_)
  have F : Fr (fun a _ => a = 338 ∨ a = 339) I (uI J 339 0 x) := (f1.mono fun a k q => Or.inl q).trans (Fr.u (Or.inr rfl))
  have F' : Fr (wkS d) I (uI J 339 0 x) := F.mono fun a k q => Or.inr (Or.inr q)
  exact m116_30 he hok 2000 [x] (fun _ => false) [] (uI J 339 0 x) (hM.ma (F'.mono wkma)) (hS.wk F') ⟨uI_eq, trivial⟩ (fun i hi => by rw [uI_ne (by omega)]; exact z1 i hi) (hP.fr F (by omega) (fun k => by omega)) (by rw [u0]; simp) (by simp only [List.length_cons, List.length_nil]; omega) (by simp only [List.length_cons, List.length_nil]; omega) fun I' f' => hQ I' (F'.trans f')
theorem ca_obj {s : SC} (hok : OKS g n s.1) : (caF g n s = 0 ∧ obO s.1 (caF g n s) = none) ∨ ∃ (j : Nat) (f : FR), caF g n s = (j : Int) ∧ 1 ≤ j ∧ j ≤ 60 ∧ s.1 j = some f := by
  unfold caF
  split
  · rename_i k1
    right
    cases ho : obO s.1 s.2.2.2.1 with
    | none => rw [ho] at k1; exact absurd k1 (by show ¬ (0 : Int) = 1; decide)
    | some f =>
      unfold obO at ho
      split at ho
      · rename_i c
        exact ⟨s.2.2.2.1.toNat, f, by omega, by omega, by omega, ho⟩
      · cases ho
  · have b := gs_bd hok 60 (Nat.le_refl _)
    have l := (gs_lc hok 60 (Nat.le_refl _)).1
    have e1 : (if 0 < (lcN g n s.1 true 60).1 then (lcN g n s.1 true 60).1 else (lcN g n s.1 false 60).1) = (gsN g n s.1 60).1 := by
      rcases l with l | l
      · rw [if_pos l.1, l.2]
      · rw [if_neg l.1, l.2]
    rw [e1]
    rcases b with b | ⟨j, f, j1, j2, j3, b⟩
    · exact Or.inl ⟨b, by rw [b]; exact if_neg (by omega)⟩
    · exact Or.inr ⟨j, f, b, j1, j2, j3⟩
theorem m117_323 (he : HS e) {s : SC} (hok : OKS g n s.1) {Q : HI → HD → Prop} (k : Nat) : ∀ (i : Nat) (I : HI), i ≤ 60 → 60 - i = k → MoB g n (d : Int) I → MM d I s → PgL d I (pgN g n s.1 i) →
    (∀ I', Fr (wkS d) I I' → PgL d I' (pgN g n s.1 60) → Q I' D) → RV 117 323 [vR (some 312), vJ, vJ, vI ((i + 1 : Nat) : Int)] [] e I D Q := by
  induction k with
  | zero =>
    intro i I hi hk hM hS hP hQ
    have : i = 60 := by omega
    subst this
    exact S117_323 he ⟨fun _ => hQ I Fr.refl hP, fun q => by omega⟩
  | succ k ih =>
    intro i I hi hk hM hS hP hQ
    obtain ⟨m4, hd, m14, h0n, h3n⟩ := hM.sd
    have pl := pgN_len (g := g) (n := n) (fo := s.1) i
    have e1 : pgN g n s.1 (i + 1) = pgN g n s.1 i ++ (if kdO g n (s.1 (i + 1)) = 3 then [((i + 1 : Nat) : Int)] else []) := rfl
    have go : ∀ I', Fr (wkS d) I I' → PgL d I' (pgN g n s.1 (i + 1)) → RV 117 343 [vR (some 312), vJ, vJ, vI ((i + 1 : Nat) : Int)] [] e I' D Q := fun I' f' P' =>
      S117_343 he ⟨⟨by omega, by omega⟩, ih (i + 1) I' (by omega) (by omega) (hM.ma (f'.mono wkma)) (hS.wk f') P' fun I'' f'' => hQ I'' (f'.trans f'')⟩
    refine S117_323 he ⟨fun q => by omega, fun _ => m105 he hM hS hok fun I1 f1 => ?_⟩
    rw [obO_s (by omega)]
    have F1 : Fr (wkS d) I I1 := f1.mono fun a k q => Or.inl q
    have P1 := hP.fr f1 (fun q => by unfold diS at q; omega) (fun k q => by unfold diS at q; omega)
    refine ⟨fun q => go I1 F1 (by rw [e1, if_neg q, List.append_nil]; exact P1), fun q => m115 he (hM.di f1).1 hd P1 (by omega) fun I2 f2 P2 => go I2 (F1.trans (f2.mono fun a k q => Or.inr (Or.inl q))) (by rw [e1, if_pos (Decidable.not_not.mp q)]; exact P2)⟩
theorem m117_262 (he : HS e) {s : SC} (hok : OKS g n s.1) (hcap : s.2.1.length < 2000) {pg : List Int} {Q : HI → HD → Prop} (k : Nat) : ∀ (i : Nat) (I : HI), i ≤ 60 → 60 - i = k → MoB g n (d : Int) I → MM d I s → PgL d I pg →
    (∀ I', Fr (maS d) I I' → (∀ j, I' 330 j = I 330 j) → PgL d I' (if (pgN g n s.1 60).length = pg.length then pg else pgN g n s.1 60) → MM d I' (s.1, s.2.1 ++ (if (pgN g n s.1 60).length = pg.length then [] else [(0, 0, 8)]), s.2.2) → Q I' D) →
    RV 117 262 [vR (some 312), vJ, vI ((pgN g n s.1 i).length : Int), vI ((i + 1 : Nat) : Int)] [] e I D Q := by
  induction k with
  | zero =>
    intro i I hi hk hM hS hP hQ
    obtain ⟨m4, hd, m14, h0n, h3n⟩ := hM.sd
    have : i = 60 := by omega
    subst this
    refine S117_262 he ⟨fun _ => ?_, fun q => by omega⟩
    rw [m4, Int.toNat_natCast, hP.1]
    refine ⟨⟨by omega, by omega⟩, fun q => ?_, fun q => m106 he m4 hd hS hcap fun I1 f1 M1 => ?_⟩
    · rw [if_pos (by omega), if_pos (by omega), List.append_nil] at hQ
      exact hQ I Fr.refl (fun _ => rfl) hP hS
    · rw [if_neg (by omega), if_neg (by omega)] at hQ
      have m41 : I1 312 4 = (d : Int) := by rw [f1 _ _ (fun q => by unfold mnS at q; omega)]; exact m4
      rw [m41, Int.toNat_natCast]
      have F2 : Fr (fun a k => a = 331 ∧ k = d) I1 (uI I1 331 d 0) := Fr.u ⟨rfl, rfl⟩
      have FF : Fr (maS d) I (uI I1 331 d 0) := (f1.mono fun a k q => Or.inl (mnmg a k q)).trans (F2.mono fun a k q => by unfold maS; omega)
      have M2 := M1.fr F2 (fun a k q => by omega)
      refine ⟨⟨by omega, by omega⟩, m117_323 he (s := (s.1, s.2.1 ++ [(0, 0, 8)], s.2.2)) hok 60 0 (uI I1 331 d 0) (by omega) rfl (hM.ma FF) M2 ⟨uI_eq, fun i x hx => by cases hx⟩ fun I3 f3 P3 => hQ I3 (FF.trans (f3.mono wkma)) (fun j => ?_) P3 (M2.wk f3)⟩
      rw [f3 _ _ (fun q => by unfold wkS diS paS at q; omega), uI_ne (by omega), f1 _ _ (fun q => by unfold mnS at q; omega)]
  | succ k ih =>
    intro i I hi hk hM hS hP hQ
    have pl := pgN_len (g := g) (n := n) (fo := s.1) i
    have e1 : pgN g n s.1 (i + 1) = pgN g n s.1 i ++ (if kdO g n (s.1 (i + 1)) = 3 then [((i + 1 : Nat) : Int)] else []) := rfl
    refine S117_262 he ⟨fun q => by omega, fun _ => m105 he hM hS hok fun I1 f1 => ?_⟩
    rw [obO_s (by omega)]
    have P1 := hP.fr f1 (fun q => by unfold diS at q; omega) (fun k q => by unfold diS at q; omega)
    have nx := ih (i + 1) I1 (by omega) (by omega) (hM.di f1) (hS.di f1) P1 fun I' f' z' => hQ I' ((f1.mono fun a k q => Or.inl (dimg a k q)).trans f') (fun j => by rw [z' j, f1 _ _ (fun q => by unfold diS at q; omega)])
    refine ⟨fun q => S117_284 he ⟨⟨by omega, by omega⟩, ?_⟩, fun q => ⟨⟨by omega, by omega⟩, S117_284 he ⟨⟨by omega, by omega⟩, ?_⟩⟩⟩
    · rw [e1, if_neg q, List.append_nil] at nx; exact nx
    · rw [e1, if_pos (Decidable.not_not.mp q), List.length_append, List.length_singleton] at nx; exact nx
theorem m117_57 (he : HS e) {Q : HI → HD → Prop} (k : Nat) : ∀ (x : Int) (I : HI), 0 ≤ x → x ≤ 61 → (61 - x).toNat = k → MoB g n (d : Int) I → (∀ i, i < x.toNat → I 316 (61 * d + i) = 0) →
    (∀ J, Fr (fun a k => a = 316 ∧ 61 * d ≤ k ∧ k < 61 * d + 61) I J → (∀ i, i < 61 → J 316 (61 * d + i) = 0) → CI 92 [vR (some 312), vI 0, vL 20517, vI 2] e J D (fun z1 I2 D3 => ((¬ z1 = 0 → RV 117 99 [vR (some 312), vJ, vJ, vJ] [] e I2 D3 Q) ∧ (¬ (¬ z1 = 0) → CV 106 [vR (some 312), vI 9, vI 0] e I2 D3 (fun I5 D6 => RV 117 99 [vR (some 312), vJ, vJ, vJ] [] e I5 D6 Q))))) →
    RV 117 57 [vR (some 312), vI x, vJ, vJ] [] e I D Q := by
  induction k with
  | zero =>
    intro x I h0 h1 hk hM hz hQ
    exact S117_57 he ⟨fun _ => hQ I Fr.refl (fun i hi => hz i (by omega)), fun q => by omega⟩
  | succ k ih =>
    intro x I h0 h1 hk hM hz hQ
    obtain ⟨m4, hd, m14, h0n, h3n⟩ := hM.sd
    refine S117_57 he ⟨fun q => by omega, fun _ => m102 he m4 hd h0 (by omega) ?_⟩
    rw [Int.toNat_natCast]
    have fu : Fr (fun a k => a = 316 ∧ 61 * d ≤ k ∧ k < 61 * d + 61) I (uI I 316 (61 * d + x.toNat) 0) := Fr.u ⟨rfl, by omega, by omega⟩
    refine ⟨⟨by omega, by omega⟩, ⟨by omega, by omega⟩, ih (x + 1) _ (by omega) (by omega) (by omega) (hM.fr fu (by omega) (fun k => by omega)) (fun i hi => ?_) (fun J f1 z1 => hQ J (fu.trans f1) z1)⟩
    by_cases c : i = x.toNat
    · rw [c, uI_eq]
    · rw [uI_ne (by omega)]; exact hz i (by omega)
end
