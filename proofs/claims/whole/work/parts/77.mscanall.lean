/-! scanAll -/
section
variable {e : En} {g : Int → Int} {n : Int} {d : Nat} {D : HD}
theorem m116_2 (he : HS e) {x : Int} {Q : HI → HD → Prop} (k : Nat) : ∀ (y : Int) (I : HI), 0 ≤ y → y ≤ 61 → (61 - y).toNat = k → (∀ i, i < y.toNat → I 338 i = 0) → (∀ J, Fr (fun a _ => a = 338) I J → (∀ i, i < 61 → J 338 i = 0) → RV 116 30 [vR (some 312), vJ, vI 1, vJ, vJ, vJ] [] e (uI J 339 0 x) D Q) → RV 116 2 [vR (some 312), vI x, vI y, vJ, vJ, vJ] [] e I D Q := by
  induction k with
  | zero =>
    intro y I h0 h1 hk hz hQ
    exact S116_2 he ⟨fun _ => hQ I Fr.refl (fun i hi => hz i (by omega)), fun q => by omega⟩
  | succ k ih =>
    intro y I h0 h1 hk hz hQ
    refine S116_2 he ⟨fun q => by omega, fun _ => ⟨⟨h0, by omega⟩, ⟨by omega, by omega⟩, ih (y + 1) _ (by omega) (by omega) (by omega) (fun i hi => ?_) (fun J f1 z1 => hQ J ((Fr.u (S := fun a _ => a = 338) rfl).trans f1) z1)⟩⟩
    by_cases c : i = y.toNat
    · rw [c, uI_eq]
    · rw [uI_ne (by omega)]; exact hz i (by omega)
theorem m116 (he : HS e) {I : HI} {s : SC} (hok : OKS g n s.1) (ht : tot g n s.1 ≤ 1300) (hM : MoB g n (d : Int) I) (hS : MM d I s) (hP : PgL d I []) {x : Int} {Q : HI → HD → Prop}
    (hQ : ∀ I', Fr (wkS d) I I' → PgL d I' (wkN g n s.1 2000 [x] (fun _ => false) []) → Q I' D) : CV 116 [vR (some 312), vI x] e I D Q := by
  have uk := usK_0 (g := g) (n := n) (fo := s.1)
  have u0 := usN_0
  refine S116 he (m116_2 he 61 0 I (Int.le_refl _) (by omega) rfl (fun i hi => by omega) fun J f1 z1 => ?_)
  have F : Fr (fun a _ => a = 338 ∨ a = 339) I (uI J 339 0 x) := (f1.mono fun a k q => Or.inl q).trans (Fr.u (Or.inr rfl))
  have F' : Fr (wkS d) I (uI J 339 0 x) := F.mono fun a k q => Or.inr (Or.inr q)
  exact m116_30 he hok 2000 [x] (fun _ => false) [] (uI J 339 0 x) (hM.ma (F'.mono wkma)) (hS.wk F') ⟨uI_eq, trivial⟩ (fun i hi => by rw [uI_ne (by omega)]; exact z1 i hi) (hP.fr F (by omega) (fun k => by omega)) (by rw [u0]; simp) (by simp only [List.length_cons, List.length_nil]; omega) (by simp only [List.length_cons, List.length_nil]; omega) fun I' f' => hQ I' (F'.trans f')
theorem ca_obj {s : SC} (hok : OKS g n s.1) : (caF g n s = 0 ∧ obO s.1 (caF g n s) = none) ∨ ∃ (j : Nat) (f : FR), caF g n s = (j : Int) ∧ 1 ≤ j ∧ j ≤ 60 ∧ s.1 j = some f := by
  unfold caF
  split
  · rename_i k1
    right
    cases ho : obO s.1 s.2.2.2.1 with
    | none => rw [ho] at k1; exact absurd k1 (by show ¬ (0 : Int) = 1; decide)
    | some f =>
      unfold obO at ho
      split at ho
      · rename_i c
        exact ⟨s.2.2.2.1.toNat, f, by omega, by omega, by omega, ho⟩
      · cases ho
  · have b := gs_bd hok 60 (Nat.le_refl _)
    have l := (gs_lc hok 60 (Nat.le_refl _)).1
    have e1 : (if 0 < (lcN g n s.1 true 60).1 then (lcN g n s.1 true 60).1 else (lcN g n s.1 false 60).1) = (gsN g n s.1 60).1 := by
      rcases l with l | l
      · rw [if_pos l.1, l.2]
      · rw [if_neg l.1, l.2]
    rw [e1]
    rcases b with b | ⟨j, f, j1, j2, j3, b⟩
    · exact Or.inl ⟨b, by rw [b]; exact if_neg (by omega)⟩
    · exact Or.inr ⟨j, f, b, j1, j2, j3⟩
theorem m117_323 (he : HS e) {s : SC} (hok : OKS g n s.1) {Q : HI → HD → Prop} (k : Nat) : ∀ (i : Nat) (I : HI), i ≤ 60 → 60 - i = k → MoB g n (d : Int) I → MM d I s → PgL d I (pgN g n s.1 i) →
    (∀ I', Fr (wkS d) I I' → PgL d I' (pgN g n s.1 60) → Q I' D) → RV 117 323 [vR (some 312), vJ, vJ, vI ((i + 1 : Nat) : Int)] [] e I D Q := by
  induction k with
  | zero =>
    intro i I hi hk hM hS hP hQ
    have : i = 60 := by omega
    subst this
    exact S117_323 he ⟨fun _ => hQ I Fr.refl hP, fun q => by omega⟩
  | succ k ih =>
    intro i I hi hk hM hS hP hQ
    obtain ⟨m4, hd, m14, h0n, h3n⟩ := hM.sd
    have pl := pgN_len (g := g) (n := n) (fo := s.1) i
    have e1 : pgN g n s.1 (i + 1) = pgN g n s.1 i ++ (if kdO g n (s.1 (i + 1)) = 3 then [((i + 1 : Nat) : Int)] else []) := rfl
    have go : ∀ I', Fr (wkS d) I I' → PgL d I' (pgN g n s.1 (i + 1)) → RV 117 343 [vR (some 312), vJ, vJ, vI ((i + 1 : Nat) : Int)] [] e I' D Q := fun I' f' P' =>
      S117_343 he ⟨⟨by omega, by omega⟩, ih (i + 1) I' (by omega) (by omega) (hM.ma (f'.mono wkma)) (hS.wk f') P' fun I'' f'' => hQ I'' (f'.trans f'')⟩
    refine S117_323 he ⟨fun q => by omega, fun _ => m105 he hM hS hok fun I1 f1 => ?_⟩
    rw [obO_s (by omega)]
    have F1 : Fr (wkS d) I I1 := f1.mono fun a k q => Or.inl q
    have P1 := hP.fr f1 (fun q => by unfold diS at q; omega) (fun k q => by unfold diS at q; omega)
    refine ⟨fun q => go I1 F1 (by rw [e1, if_neg q, List.append_nil]; exact P1), fun q => m115 he (hM.di f1).1 hd P1 (by omega) fun I2 f2 P2 => go I2 (F1.trans (f2.mono fun a k q => Or.inr (Or.inl q))) (by rw [e1, if_pos (Decidable.not_not.mp q)]; exact P2)⟩
theorem m117_262 (he : HS e) {s : SC} (hok : OKS g n s.1) (hcap : s.2.1.length < 2000) {pg : List Int} {Q : HI → HD → Prop} (k : Nat) : ∀ (i : Nat) (I : HI), i ≤ 60 → 60 - i = k → MoB g n (d : Int) I → MM d I s → PgL d I pg →
    (∀ I', Fr (maS d) I I' → (∀ j, I' 330 j = I 330 j) → PgL d I' (if (pgN g n s.1 60).length = pg.length then pg else pgN g n s.1 60) → MM d I' (s.1, s.2.1 ++ (if (pgN g n s.1 60).length = pg.length then [] else [(0, 0, 8)]), s.2.2) → Q I' D) →
    RV 117 262 [vR (some 312), vJ, vI ((pgN g n s.1 i).length : Int), vI ((i + 1 : Nat) : Int)] [] e I D Q := by
  induction k with
  | zero =>
    intro i I hi hk hM hS hP hQ
    obtain ⟨m4, hd, m14, h0n, h3n⟩ := hM.sd
    have : i = 60 := by omega
    subst this
    refine S117_262 he ⟨fun _ => ?_, fun q => by omega⟩
    rw [m4, Int.toNat_natCast, hP.1]
    refine ⟨⟨by omega, by omega⟩, fun q => ?_, fun q => m106 he m4 hd hS hcap fun I1 f1 M1 => ?_⟩
    · rw [if_pos (by omega), if_pos (by omega), List.append_nil] at hQ
      exact hQ I Fr.refl (fun _ => rfl) hP hS
    · rw [if_neg (by omega), if_neg (by omega)] at hQ
      have m41 : I1 312 4 = (d : Int) := by rw [f1 _ _ (fun q => by unfold mnS at q; omega)]; exact m4
      rw [m41, Int.toNat_natCast]
      have F2 : Fr (fun a k => a = 331 ∧ k = d) I1 (uI I1 331 d 0) := Fr.u ⟨rfl, rfl⟩
      have FF : Fr (maS d) I (uI I1 331 d 0) := (f1.mono (S' := maS d) fun a k q => Or.inl (mnmg a k q)).trans (F2.mono (S' := maS d) fun a k q => Or.inr (Or.inr (Or.inl ⟨Or.inr q.1, q.2⟩)))
      have M2 := M1.fr F2 (fun a k q => by omega)
      refine ⟨⟨by omega, by omega⟩, m117_323 he (s := (s.1, s.2.1 ++ [(0, 0, 8)], s.2.2)) hok 60 0 (uI I1 331 d 0) (by omega) rfl (hM.ma FF) M2 ⟨uI_eq, fun i x hx => by cases hx⟩ fun I3 f3 P3 => hQ I3 (FF.trans (f3.mono wkma)) (fun j => ?_) P3 (M2.wk f3)⟩
      rw [f3 _ _ (fun q => by unfold wkS diS paS at q; omega), uI_ne (by omega), f1 _ _ (fun q => by unfold mnS at q; omega)]
  | succ k ih =>
    intro i I hi hk hM hS hP hQ
    have pl := pgN_len (g := g) (n := n) (fo := s.1) i
    have e1 : pgN g n s.1 (i + 1) = pgN g n s.1 i ++ (if kdO g n (s.1 (i + 1)) = 3 then [((i + 1 : Nat) : Int)] else []) := rfl
    refine S117_262 he ⟨fun q => by omega, fun _ => m105 he hM hS hok fun I1 f1 => ?_⟩
    rw [obO_s (by omega)]
    have P1 := hP.fr f1 (fun q => by unfold diS at q; omega) (fun k q => by unfold diS at q; omega)
    have nx := ih (i + 1) I1 (by omega) (by omega) (hM.di f1) (hS.di f1) P1 fun I' f' z' => hQ I' ((f1.mono fun a k q => Or.inl (dimg a k q)).trans f') (fun j => by rw [z' j, f1 _ _ (fun q => by unfold diS at q; omega)])
    refine ⟨fun q => S117_284 he ⟨⟨by omega, by omega⟩, ?_⟩, fun q => ⟨⟨by omega, by omega⟩, S117_284 he ⟨⟨by omega, by omega⟩, ?_⟩⟩⟩
    · rw [e1, if_neg q, List.append_nil] at nx; exact nx
    · rw [e1, if_pos (Decidable.not_not.mp q), List.length_append, List.length_singleton] at nx; exact nx
theorem m117_57 (he : HS e) {Q : HI → HD → Prop} (k : Nat) : ∀ (x : Int) (I : HI), 0 ≤ x → x ≤ 61 → (61 - x).toNat = k → MoB g n (d : Int) I → (∀ i, i < x.toNat → I 316 (61 * d + i) = 0) →
    (∀ J, Fr (fun a k => a = 316 ∧ 61 * d ≤ k ∧ k < 61 * d + 61) I J → (∀ i, i < 61 → J 316 (61 * d + i) = 0) → CI 92 [vR (some 312), vI 0, vL 20517, vI 2] e J D (fun z1 I2 D3 => ((¬ z1 = 0 → RV 117 99 [vR (some 312), vJ, vJ, vJ] [] e I2 D3 Q) ∧ (¬ (¬ z1 = 0) → CV 106 [vR (some 312), vI 9, vI 0] e I2 D3 (fun I5 D6 => RV 117 99 [vR (some 312), vJ, vJ, vJ] [] e I5 D6 Q))))) →
    RV 117 57 [vR (some 312), vI x, vJ, vJ] [] e I D Q := by
  induction k with
  | zero =>
    intro x I h0 h1 hk hM hz hQ
    exact S117_57 he ⟨fun _ => hQ I Fr.refl (fun i hi => hz i (by omega)), fun q => by omega⟩
  | succ k ih =>
    intro x I h0 h1 hk hM hz hQ
    obtain ⟨m4, hd, m14, h0n, h3n⟩ := hM.sd
    refine S117_57 he ⟨fun q => by omega, fun _ => m102 he m4 hd h0 (by omega) ?_⟩
    rw [Int.toNat_natCast]
    have fu : Fr (fun a k => a = 316 ∧ 61 * d ≤ k ∧ k < 61 * d + 61) I (uI I 316 (61 * d + x.toNat) 0) := Fr.u ⟨rfl, by omega, by omega⟩
    refine ⟨⟨by omega, by omega⟩, ⟨by omega, by omega⟩, ih (x + 1) _ (by omega) (by omega) (by omega) (hM.fr fu (by omega) (fun k => by omega)) (fun i hi => ?_) (fun J f1 z1 => hQ J (fu.trans f1) z1)⟩
    by_cases c : i = x.toNat
    · rw [c, uI_eq]
    · rw [uI_ne (by omega)]; exact hz i (by omega)
theorem m117_213 (he : HS e) {I : HI} {s : SC} (hok : OKS g n s.1) (ht : tot g n s.1 ≤ 1300) (hcap : s.2.1.length < 2000) (hM : MoB g n (d : Int) I) (hS : MM d I s) (hP : PgL d I []) {c : Int} (hc : (c = 0 ∧ obO s.1 c = none) ∨ ∃ (j : Nat) (f : FR), c = (j : Int) ∧ 1 ≤ j ∧ j ≤ 60 ∧ s.1 j = some f) {p1 : List Int} (hp1 : p1 = (match obO s.1 c with | some f => pgW g n s.1 (pgR g n f) | none => [])) {Q : HI → HD → Prop}
    (hQ : ∀ I', Fr (maS d) I I' → I' 330 d = c → PgL d I' (if (pgN g n s.1 60).length = p1.length then p1 else pgN g n s.1 60) → MM d I' (s.1, s.2.1 ++ (if (pgN g n s.1 60).length = p1.length then [] else [(0, 0, 8)]), s.2.2) → Q I' D) :
    RV 117 213 [vR (some 312), vJ, vJ, vJ] [vI c, vI (d : Int), vR (some 330)] e I D Q := by
  obtain ⟨m4, hd, m14, h0n, h3n⟩ := hM.sd
  refine S117_213 he ?_
  rw [m4, Int.toNat_natCast, uI_eq]
  have F1 : Fr (fun a k => a = 330 ∧ k = d) I (uI I 330 d c) := Fr.u ⟨rfl, rfl⟩
  have F1' : Fr (maS d) I (uI I 330 d c) := F1.mono (S' := maS d) fun a k q => Or.inr (Or.inr (Or.inl ⟨Or.inl q.1, q.2⟩))
  have hM1 := hM.ma F1'
  have S1 := hS.fr F1 (fun a k q => by omega)
  have P1 := hP.fr F1 (by omega) (fun k => by omega)
  have c1 : uI I 330 d c 330 d = c := uI_eq
  generalize uI I 330 d c = J at F1 F1' hM1 S1 P1 c1
  -- behind the walk
  have s258 : ∀ K, Fr (wkS d) J K → PgL d K p1 → RV 117 258 [vR (some 312), vJ, vJ, vJ] [] e K D Q := by
    intro K fK PK
    have hMK := hM1.ma (fK.mono wkma)
    refine S117_258 he (m117_262 he hok hcap 60 0 K (by omega) rfl hMK (S1.wk fK) PK fun I' f' z' P' M' => hQ I' (F1'.trans ((fK.mono wkma).trans f')) ?_ P' M')
    rw [z', fK _ _ (fun q => by unfold wkS diS paS at q; omega)]; exact c1
  have s243 : ∀ (K : HI) (x : Int), Fr (wkS d) J K → PgL d K [] → p1 = pgW g n s.1 x → RV 117 243 [vR (some 312), vJ, vJ, vJ] [vI x] e K D Q := by
    intro K x fK PK hx
    have hMK := hM1.ma (fK.mono wkma)
    have SK := S1.wk fK
    refine S117_243 he (m105 he hMK SK hok fun K2 f2 => ?_)
    have F2 : Fr (wkS d) K K2 := f2.mono fun a k q => Or.inl q
    have P2 := PK.fr f2 (fun q => by unfold diS at q; omega) (fun k q => by unfold diS at q; omega)
    refine ⟨fun q => s258 K2 (fK.trans F2) ?_, fun q => m116 he hok ht (hMK.di f2) (SK.di f2) P2 fun K3 f3 P3 => s258 K3 (fK.trans (F2.trans f3)) ?_⟩
    · rw [hx]; unfold pgW; rw [if_neg q]; exact P2
    · rw [hx]; unfold pgW; rw [if_pos (Decidable.not_not.mp q)]; exact P3
  refine ⟨⟨by omega, by omega⟩, ⟨by omega, by omega⟩, fun q => ⟨⟨by omega, by omega⟩, ?_⟩, fun q => s243 J 0 Fr.refl P1 ?_⟩
  · rcases hc with hc | ⟨j, f, j1, j2, j3, j4⟩
    · exact absurd hc.1 q
    · rw [j1]
      rw [j1, obO_s (by omega), j4] at hp1
      refine m113 he hM1 S1 hok j4 fun K2 f2 => s243 K2 _ (f2.mono fun a k q => Or.inl q) (P1.fr f2 (fun q => by unfold diS at q; omega) (fun k q => by unfold diS at q; omega)) hp1
  · have q := Decidable.not_not.mp q
    rcases hc with hc | ⟨j, f, j1, j2, j3, j4⟩
    · rw [hc.2] at hp1
      rw [hp1]
      unfold pgW
      have e0 : obO s.1 0 = none := if_neg (by omega)
      rw [e0, if_neg (by show ¬ (0 : Int) = 2; decide)]
    · omega
theorem MM.u329 {I : HI} {s : SC} (h : MM d I s) {z : Int} : MM d (uI I 329 d z) (s.1, s.2.1, s.2.2.1, s.2.2.2.1, s.2.2.2.2.1, z) := by
  obtain ⟨h1, h2, h3, h4, h5, h6⟩ := h
  have F : Fr (fun a k => a = 329 ∧ k = d) I (uI I 329 d z) := Fr.u ⟨rfl, rfl⟩
  exact ⟨fun i i1 i2 => (h1 i i1 i2).fr F (fun a q1 q2 q => by omega), h2.fr F (by omega) (fun k _ _ => ⟨by omega, by omega⟩), fun h => (h3 h).fr F (by omega) (fun k => by omega), by rw [F _ _ (by omega)]; exact h4, by rw [F _ _ (by omega)]; exact h5, uI_eq⟩
/-- the model's memory of side d holds a scan with all that came behind it -/
def MS (d : Nat) (I : HI) (s : SC) (c : Int) (pg : List Int) : Prop := MM d I s ∧ I 330 d = c ∧ PgL d I pg
theorem m117_168 (he : HS e) {I : HI} (hM : MoB g n (d : Int) I) (hS : MM d I (scF g n)) (hW : WT g n n (scF g n)) (hP : PgL d I []) {Q : HI → HD → Prop}
    (hQ : ∀ I', Fr (maS d) I I' → MS d I' (scR g n) (caF g n (scF g n)) (pgF g n (scF g n)) → Q I' D) : RV 117 168 [vR (some 312), vJ, vJ, vJ] [] e I D Q := by
  obtain ⟨m4, hd, m14, h0n, h3n⟩ := hM.sd
  have hok := scF_ok (g := g) h0n
  have w1 := hW.1
  have ml := m5N_le (g := g) (n := n) (fo := (scF g n).1) 60
  have ml : (m5N g n (scF g n).1 60).length ≤ tot g n (scF g n).1 := ml
  refine S117_168 he (m112 he hok (by omega) hM hS fun I1 f1 M1 => ?_)
  have hM1 := hM.mg f1
  have P1 := hP.fr f1 (fun q => by unfold mgS at q; omega) (fun k q => by unfold mgS at q; omega)
  have m41 := hM1.1
  have e327 : I1 327 d = (scF g n).2.2.2.1 := M1.2.2.2.1
  rw [m41, Int.toNat_natCast, e327]
  refine ⟨⟨by omega, by omega⟩, m105 he hM1 M1 hok fun I2 f2 => ?_⟩
  have hM2 := hM1.di f2
  have M2 := M1.di f2
  have P2 := P1.fr f2 (fun q => by unfold diS at q; omega) (fun k q => by unfold diS at q; omega)
  have F2 : Fr (maS d) I I2 := (f1.mono fun a k q => Or.inl q).trans (f2.mono fun a k q => Or.inl (dimg a k q))
  have co := ca_obj (g := g) (n := n) (s := scF g n) hok
  have fin : ∀ (K : HI) (M : RfL), Fr (maS d) I K → MoB g n (d : Int) K → PgL d K [] → M = caM g n (scF g n) → MM d K ((scF g n).1, (scF g n).2.1 ++ m5N g n (scF g n).1 60 ++ M, (scF g n).2.2) → M.length ≤ 2 → RV 117 213 [vR (some 312), vJ, vJ, vJ] [vI (caF g n (scF g n)), vI (d : Int), vR (some 330)] e K D Q := by
    intro K M fK hMK PK hM' SK hl
    subst hM'
    exact m117_213 he (s := ((scF g n).1, (scF g n).2.1 ++ m5N g n (scF g n).1 60 ++ caM g n (scF g n), (scF g n).2.2)) hok (by show tot g n (scF g n).1 ≤ 1300; omega) (by show ((scF g n).2.1 ++ m5N g n (scF g n).1 60 ++ caM g n (scF g n)).length < 2000; rw [List.length_append, List.length_append]; omega) hMK SK PK co (p1 := pg1 g n (scF g n)) rfl fun I' f' c' P' M' => hQ I' (fK.trans f') ⟨M', c', P'⟩
  refine ⟨fun q => ?_, fun q => ?_⟩
  · have q : ¬ kdO g n (obO (scF g n).1 (scF g n).2.2.2.1) = 1 := q
    have l := (gs_lc hok 60 (Nat.le_refl _)).1
    have eC : caF g n (scF g n) = (gsN g n (scF g n).1 60).1 := by
      unfold caF
      rw [if_neg q]
      rcases l with l | l
      · rw [if_pos l.1, l.2]
      · rw [if_neg l.1, l.2]
    have eM : caM g n (scF g n) = ([(0, 0, 6)] : RfL) ++ (match obO (scF g n).1 (gsN g n (scF g n).1 60).1 with | some f => ([(f.1, f.1, 7)] : RfL) | none => []) := by
      unfold caM
      rw [if_neg q, eC]
      rfl
    have lM : (caM g n (scF g n)).length ≤ 2 := by
      rw [eM, List.length_append]
      split <;> simp
    refine m114 he (s := ((scF g n).1, (scF g n).2.1 ++ m5N g n (scF g n).1 60, (scF g n).2.2)) hok (by show ((scF g n).2.1 ++ m5N g n (scF g n).1 60).length + 1 < 2000; rw [List.length_append]; omega) hM2 M2 fun I3 f3 M3 => ?_
    have P3 := P2.fr f3 (fun q => by unfold mgS at q; omega) (fun k q => by unfold mgS at q; omega)
    have := fin I3 (caM g n (scF g n)) (F2.trans (f3.mono fun a k q => Or.inl q)) (hM2.mg f3) P3 rfl (by rw [eM, ← List.append_assoc]; exact M3) lM
    rw [eC] at this
    exact this
  · have q : kdO g n (obO (scF g n).1 (scF g n).2.2.2.1) = 1 := Decidable.not_not.mp q
    have eC : caF g n (scF g n) = (scF g n).2.2.2.1 := if_pos q
    have eM : caM g n (scF g n) = [] := if_pos q
    have m42 := hM2.1
    have e2 : I2 327 d = (scF g n).2.2.2.1 := M2.2.2.2.1
    rw [m42, Int.toNat_natCast, e2]
    have := fin I2 [] F2 hM2 P2 eM.symm (by rw [List.append_nil]; exact M2) (by simp)
    rw [eC] at this
    exact ⟨⟨by omega, by omega⟩, this⟩
theorem wok_P : WOK 20517 (zstr 14) := ⟨by decide, by decide⟩
theorem m117 (he : HS e) {I : HI} (hM : MoB g n (d : Int) I) (ht : d = 0 → I 312 17 = 0) {Q : HI → HD → Prop} (hQ : ∀ I', Fr (maS d) I I' → MS d I' (scR g n) (caF g n (scF g n)) (pgF g n (scF g n)) → Q I' D) : CV 117 [vR (some 312)] e I D Q := by
  obtain ⟨m4, hd, m14, h0n, h3n⟩ := hM.sd
  refine S117 he ?_
  rw [m4, Int.toNat_natCast]
  have F0 : Fr (fun a k => ((a = 323 ∨ a = 327 ∨ a = 328 ∨ a = 329 ∨ a = 331) ∧ k = d) ∨ (a = 312 ∧ k = 25)) I (uI (uI (uI (uI (uI (uI I 323 d 0) 327 d 0) 328 d 0) 329 d 0) 331 d 0) 312 25 0) := by
    intro a k q
    rw [uI_ne (by omega), uI_ne (by omega), uI_ne (by omega), uI_ne (by omega), uI_ne (by omega), uI_ne (by omega)]
  have v323 : (uI (uI (uI (uI (uI (uI I 323 d 0) 327 d 0) 328 d 0) 329 d 0) 331 d 0) 312 25 0) 323 d = 0 := by rw [uI_ne (by omega), uI_ne (by omega), uI_ne (by omega), uI_ne (by omega), uI_ne (by omega), uI_eq]
  have v327 : (uI (uI (uI (uI (uI (uI I 323 d 0) 327 d 0) 328 d 0) 329 d 0) 331 d 0) 312 25 0) 327 d = 0 := by rw [uI_ne (by omega), uI_ne (by omega), uI_ne (by omega), uI_ne (by omega), uI_eq]
  have v328 : (uI (uI (uI (uI (uI (uI I 323 d 0) 327 d 0) 328 d 0) 329 d 0) 331 d 0) 312 25 0) 328 d = 0 := by rw [uI_ne (by omega), uI_ne (by omega), uI_ne (by omega), uI_eq]
  have v329 : (uI (uI (uI (uI (uI (uI I 323 d 0) 327 d 0) 328 d 0) 329 d 0) 331 d 0) 312 25 0) 329 d = 0 := by rw [uI_ne (by omega), uI_ne (by omega), uI_eq]
  have v331 : (uI (uI (uI (uI (uI (uI I 323 d 0) 327 d 0) 328 d 0) 329 d 0) 331 d 0) 312 25 0) 331 d = 0 := by rw [uI_ne (by omega), uI_eq]
  have v25 : (uI (uI (uI (uI (uI (uI I 323 d 0) 327 d 0) 328 d 0) 329 d 0) 331 d 0) 312 25 0) 312 25 = 0 := uI_eq
  generalize (uI (uI (uI (uI (uI (uI I 323 d 0) 327 d 0) 328 d 0) 329 d 0) 331 d 0) 312 25 0) = J at F0 v323 v327 v328 v329 v331 v25
  have F0' : Fr (maS d) I J := F0.mono fun a k q => by unfold maS mgS; omega
  have hMJ := hM.ma F0'
  refine ⟨⟨by omega, by omega⟩, ⟨by omega, by omega⟩, ⟨by omega, by omega⟩, ⟨by omega, by omega⟩, ⟨by omega, by omega⟩, m117_57 he 61 0 J (Int.le_refl _) (by omega) rfl hMJ (fun i hi => by omega) fun K fK zK => ?_⟩
  have FK : Fr (maS d) I K := F0'.trans (fK.mono fun a k q => by unfold maS mgS; omega)
  have hMK := hM.ma FK
  have gK : ∀ a k, a ≠ 316 → K a k = J a k := fun a k q => fK _ _ (fun w => q w.1)
  have MK : MM d K (fun _ => none, [], [], 0, 0, 0) := by
    refine ⟨fun i i1 i2 => zK i i2, ⟨by rw [gK _ _ (by omega)]; exact v323, fun j r hr => by cases hr⟩, fun hd0 => ⟨?_, fun j r hr => by cases hr⟩, by rw [gK _ _ (by omega)]; exact v327, by rw [gK _ _ (by omega)]; exact v328, by rw [gK _ _ (by omega)]; exact v329⟩
    rw [gK _ _ (by omega), F0 _ _ (by omega)]; exact ht hd0
  have k25 : K 312 25 = 0 := by rw [gK _ _ (by omega)]; exact v25
  have PK : PgL d K [] := ⟨by rw [gK _ _ (by omega)]; exact v331, fun i x hx => by cases hx⟩
  -- go, and what is open at the end
  have s99 : ∀ L, Fr (mnS d) K L → MM d L (sc0 g n) → RV 117 99 [vR (some 312), vJ, vJ, vJ] [] e L D Q := by
    intro L fL ML
    have hML := hMK.mg (fL.mono mnmg)
    have PL := PK.fr fL (fun q => by unfold mnS at q; omega) (fun k q => by unfold mnS at q; omega)
    have FL : Fr (maS d) I L := FK.trans (fL.mono fun a k q => Or.inl (mnmg a k q))
    refine S117_99 he (m111 he hML (by rw [fL _ _ (fun q => by unfold mnS at q; omega)]; exact k25) ML fun I2 f2 S2 W2 => ?_)
    have hM2 := hML.mg f2
    have P2 := PL.fr f2 (fun q => by unfold mgS at q; omega) (fun k q => by unfold mgS at q; omega)
    have F2 : Fr (maS d) I I2 := FL.trans (f2.mono fun a k q => Or.inl q)
    have fin : ∀ I3, Fr (mgS d) I2 I3 → MM d I3 (scF g n) → RV 117 168 [vR (some 312), vJ, vJ, vJ] [] e I3 D Q := fun I3 f3 M3 =>
      m117_168 he (hM2.mg f3) M3 W2 (P2.fr f3 (fun q => by unfold mgS at q; omega) (fun k q => by unfold mgS at q; omega)) fun I' f' => hQ I' (F2.trans ((f3.mono fun a k q => Or.inl q).trans f'))
    have m42 := hM2.1
    have e14 := hM2.sd.2.2.1
    rw [m42, Int.toNat_natCast, e14]
    rcases S2 with ⟨z2, M2⟩ | ⟨h, s0, ⟨h0, h1, hk⟩, a2, a3, a4, O2, M2, hsc⟩
    · rw [z2]
      exact ⟨fun _ => S117_133 he ⟨fun _ => fin I2 Fr.refl M2, fun q => absurd (by rw [z2]; decide) q⟩, fun q => absurd (Int.le_refl 0) q⟩
    · have hd5 := hd_5 h1 hk
      obtain ⟨o1, o2, o3, o4, o5, o6⟩ := id O2
      have wl := W2.len h3n
      rw [o1, o4]
      refine ⟨fun q => by omega, fun _ => ⟨fun q => S117_133 he ?_, fun q => ⟨⟨by omega, by omega⟩, m108 he hM2 (Or.inr ⟨h, s0, ⟨h0, h1, hk⟩, a2, a3, a4, O2, M2, hsc⟩) W2 (Or.inr (by rw [o4]; omega)) fun I3 f3 _ _ M3 => fin I3 f3 M3⟩⟩⟩
      -- it is cut
      have nS : obS g n h = false := by
        cases hs : obS g n h with
        | false => rfl
        | true =>
          have : dtF (obF g n h) = obD g n h := by
            show (if obS g n h = true then (if obS g n h = true then obD g n h else 0) else -1) = _
            rw [if_pos hs, if_pos hs]
          have bS := (ob_bd h0 h1 hk)
          have b10 := bS.2.2.2.1 hs
          omega
      have hc : obC g n h = true := by unfold obC; rw [← a2, kF_end (Int.le_refl _), nS]; rfl
      have eX : scF g n = (s0.1, s0.2.1 ++ obM g n h ++ [(h, h, 10)], s0.2.2.1, s0.2.2.2.1, s0.2.2.2.2.1, mF g n h) := by rw [hsc]; exact if_pos hc
      have len : (s0.2.1 ++ obM g n h).length < 2000 := by
        have := wl.1
        rw [eX] at this
        simp only [List.length_append, List.length_singleton] at this ⊢
        omega
      rw [o1, o2, m42, Int.toNat_natCast]
      have F3 : Fr (fun a k => a = 329 ∧ k = d) I2 (uI I2 329 d (mF g n h)) := Fr.u ⟨rfl, rfl⟩
      have M3 := M2.u329 (z := mF g n h)
      refine ⟨fun q => by omega, fun _ => ⟨⟨by omega, by omega⟩, m106 he (by rw [uI_ne (by omega)]; exact m42) hd M3 len fun I4 f4 M4 => ?_⟩⟩
      have F5 : Fr (fun a k => a = 312 ∧ k = 25) I4 (uI I4 312 25 0) := Fr.u ⟨rfl, rfl⟩
      refine fin (uI I4 312 25 0) ((F3.mono fun a k q => by unfold mgS; omega).trans ((f4.mono mnmg).trans (F5.mono fun a k q => by unfold mgS; omega))) ?_
      rw [eX]
      exact M4.fr F5 (fun a k q => by omega)
  refine m92 he hMK wok_P (by decide) (Int.le_refl _) (by omega) ⟨fun q => s99 K Fr.refl ?_, fun q => m106 he hMK.1 hd MK (by show 0 < 2000; omega) fun L fL ML => s99 L fL ?_⟩
  · unfold sc0; rw [if_pos (b2i_n q)]; exact MK
  · unfold sc0; rw [if_neg (by rw [b2i_0.mp (Decidable.not_not.mp q)]; decide)]; exact ML
end
