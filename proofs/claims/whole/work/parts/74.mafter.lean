/-! lookAtReferences, guess -/
def gsN (g : Int → Int) (n : Int) (fo : Nat → Option FR) : Nat → Int × Bool
  | 0 => (0, false)
  | k + 1 => match fo (k + 1) with
    | some f => if kdF g n f = 1 ∧ ((gsN g n fo k).1 = 0 ∨ ((kdO g n (obO fo (pgR g n f)) == 2) = true ∧ (gsN g n fo k).2 = false) ∨ ((kdO g n (obO fo (pgR g n f)) == 2) = (gsN g n fo k).2 ∧ (match obO fo (gsN g n fo k).1 with | some f0 => f0.1 | none => 0) < f.1))
      then (((k + 1 : Nat) : Int), kdO g n (obO fo (pgR g n f)) == 2) else gsN g n fo k
    | none => gsN g n fo k
section
variable {g : Int → Int} {n : Int}
def lcI (g : Int → Int) (n : Int) (fo : Nat → Option FR) (k : Nat) (T : Int × Int) : Prop := T = (0, -1) ∨ ∃ (j : Nat) (f : FR), 1 ≤ j ∧ j ≤ k ∧ fo j = some f ∧ kdF g n f = 1 ∧ T = ((j : Int), f.1)
theorem OKS.hd {fo : Nat → Option FR} (h : OKS g n fo) {i : Nat} {f : FR} (hf : fo i = some f) : 0 ≤ f.1 ∧ mF g n f.1 = (i : Int) ∧ 1 ≤ i ∧ i ≤ 60 := by
  have bd := (h i f hf).bd.1
  obtain ⟨h', h0, h1, hs, hk, hm, rfl, hc⟩ := h i f hf
  exact ⟨h0, hm, bd.1, bd.2⟩
theorem lc_i {fo : Nat → Option FR} {wp : Bool} (k : Nat) : lcI g n fo k (lcN g n fo wp k) := by
  induction k with
  | zero => exact Or.inl rfl
  | succ k ih =>
    have up : lcI g n fo (k + 1) (lcN g n fo wp k) := by
      rcases ih with ih | ⟨j, f, j1, j2, j3⟩
      · exact Or.inl ih
      · exact Or.inr ⟨j, f, j1, by omega, j3⟩
    unfold lcN
    cases hf : fo (k + 1) with
    | none => exact up
    | some f =>
      dsimp only
      split
      · rename_i c
        exact Or.inr ⟨k + 1, f, by omega, Nat.le_refl _, hf, c.1, rfl⟩
      · exact up
theorem gs_ar {K hd T1 T2 F1 F2 T1' F1' b hb b' hs bi bi' : Int} (hK : 0 < K) (hh : 0 ≤ hd) (hT : (T1 = 0 ∧ T2 = -1) ∨ (0 < T1 ∧ T2 ≠ hd)) (hF : (F1 = 0 ∧ F2 = -1) ∨ (0 < F1 ∧ F2 ≠ hd)) (h3 : 0 < T1 → 0 < F1)
    (hbT : 0 < T1 → b = T1 ∧ hb = T2) (hbF : ¬ 0 < T1 → b = F1 ∧ (0 < F1 → hb = F2)) (hbi : (bi = 1 ∧ 0 < T1) ∨ (bi = 0 ∧ ¬ 0 < T1)) (hhs : hs = 0 ∨ hs = 1)
    (cT : (T2 ≤ hd ∧ hs = 1 ∧ T1' = K) ∨ (¬ (T2 ≤ hd ∧ hs = 1) ∧ T1' = T1)) (cF : (F2 ≤ hd ∧ F1' = K) ∨ (¬ F2 ≤ hd ∧ F1' = F1))
    (cG : ((b = 0 ∨ (hs = 1 ∧ bi = 0) ∨ (hs = bi ∧ hb < hd)) ∧ b' = K ∧ bi' = hs) ∨ (¬ (b = 0 ∨ (hs = 1 ∧ bi = 0) ∨ (hs = bi ∧ hb < hd)) ∧ b' = b ∧ bi' = bi)) :
    ((0 < T1' ∧ b' = T1') ∨ (¬ 0 < T1' ∧ b' = F1')) ∧ ((bi' = 1 ∧ 0 < T1') ∨ (bi' = 0 ∧ ¬ 0 < T1')) ∧ (0 < T1' → 0 < F1') := by
  omega
theorem b2i_inj {a b : Bool} : b2i a = b2i b ↔ a = b := by cases a <;> cases b <;> simp [b2i]
theorem b2i_dec {p : Prop} (h : Decidable p) : (b2i (decide p) = 1 ∧ p) ∨ (b2i (decide p) = 0 ∧ ¬ p) := by
  by_cases c : p
  · exact Or.inl ⟨by rw [decide_eq_true c]; rfl, c⟩
  · exact Or.inr ⟨by rw [decide_eq_false c]; rfl, c⟩
theorem gs_lc {fo : Nat → Option FR} (hok : OKS g n fo) (k : Nat) (hk : k ≤ 60) : ((0 < (lcN g n fo true k).1 ∧ (gsN g n fo k).1 = (lcN g n fo true k).1) ∨ (¬ 0 < (lcN g n fo true k).1 ∧ (gsN g n fo k).1 = (lcN g n fo false k).1)) ∧ ((b2i (gsN g n fo k).2 = 1 ∧ 0 < (lcN g n fo true k).1) ∨ (b2i (gsN g n fo k).2 = 0 ∧ ¬ 0 < (lcN g n fo true k).1)) ∧ (0 < (lcN g n fo true k).1 → 0 < (lcN g n fo false k).1) := by
  induction k with
  | zero => exact ⟨Or.inr ⟨by show ¬ (0 : Int) < 0; omega, rfl⟩, Or.inr ⟨rfl, by show ¬ (0 : Int) < 0; omega⟩, fun q => absurd q (by show ¬ (0 : Int) < 0; omega)⟩
  | succ k ih =>
    obtain ⟨i1, i2, i3⟩ := ih (by omega)
    have T := lc_i (g := g) (n := n) (fo := fo) (wp := true) k
    have F := lc_i (g := g) (n := n) (fo := fo) (wp := false) k
    cases hf : fo (k + 1) with
    | none =>
      have eT : lcN g n fo true (k + 1) = lcN g n fo true k := by conv => lhs; unfold lcN; rw [hf]
      have eF : lcN g n fo false (k + 1) = lcN g n fo false k := by conv => lhs; unfold lcN; rw [hf]
      have eG : gsN g n fo (k + 1) = gsN g n fo k := by conv => lhs; unfold gsN; rw [hf]
      rw [eT, eF, eG]; exact ⟨i1, i2, i3⟩
    | some f =>
      have hh := hok.hd hf
      have dif : ∀ (j : Nat) (f' : FR), fo j = some f' → j ≤ k → f'.1 ≠ f.1 := fun j f' hj hjk w => by
        have h2 := hok.hd hj
        rw [w, hh.2.1] at h2
        omega
      have eT : ∀ wp, lcN g n fo wp (k + 1) = if kdF g n f = 1 ∧ (lcN g n fo wp k).2 ≤ f.1 ∧ (wp = true → kdO g n (obO fo (pgR g n f)) = 2) then (((k + 1 : Nat) : Int), f.1) else lcN g n fo wp k := fun wp => by
        conv => lhs; unfold lcN; rw [hf]
      have eG : gsN g n fo (k + 1) = if kdF g n f = 1 ∧ ((gsN g n fo k).1 = 0 ∨ ((kdO g n (obO fo (pgR g n f)) == 2) = true ∧ (gsN g n fo k).2 = false) ∨ ((kdO g n (obO fo (pgR g n f)) == 2) = (gsN g n fo k).2 ∧ (match obO fo (gsN g n fo k).1 with | some f0 => f0.1 | none => 0) < f.1))
          then (((k + 1 : Nat) : Int), kdO g n (obO fo (pgR g n f)) == 2) else gsN g n fo k := by
        conv => lhs; unfold gsN; rw [hf]
      by_cases k1 : kdF g n f = 1
      · have bT : ∀ (j : Nat) (f' : FR), fo j = some f' → 1 ≤ j → j ≤ k → obO fo (j : Int) = some f' := fun j f' hj h1 h2 => by rw [obO_s (by omega)]; exact hj
        generalize hB : (match obO fo (gsN g n fo k).1 with | some f0 => f0.1 | none => 0) = hb at eG
        have hasE : (b2i (kdO g n (obO fo (pgR g n f)) == 2) = 1 ↔ kdO g n (obO fo (pgR g n f)) = 2) := by
          cases c : (kdO g n (obO fo (pgR g n f)) == 2) with
          | true => exact ⟨fun _ => by simpa using c, fun _ => rfl⟩
          | false => exact ⟨(fun w => by cases w), (fun w => by rw [w] at c; cases c)⟩
        refine gs_ar (K := ((k + 1 : Nat) : Int)) (hd := f.1) (T1 := (lcN g n fo true k).1) (T2 := (lcN g n fo true k).2) (F1 := (lcN g n fo false k).1) (F2 := (lcN g n fo false k).2) (b := (gsN g n fo k).1) (hb := hb) (hs := b2i (kdO g n (obO fo (pgR g n f)) == 2)) (bi := b2i (gsN g n fo k).2) (by omega) hh.1 ?_ ?_ i3 ?_ ?_ i2 (b2i_01 _) ?_ ?_ ?_
        · rcases T with T | ⟨j, fj, j1, j2, j3, j4, T⟩
          · rw [T]; exact Or.inl ⟨rfl, rfl⟩
          · rw [T]; exact Or.inr ⟨by show (0 : Int) < (j : Int); omega, dif j fj j3 j2⟩
        · rcases F with T | ⟨j, fj, j1, j2, j3, j4, T⟩
          · rw [T]; exact Or.inl ⟨rfl, rfl⟩
          · rw [T]; exact Or.inr ⟨by show (0 : Int) < (j : Int); omega, dif j fj j3 j2⟩
        · intro w
          rcases i1 with i1 | i1
          · refine ⟨i1.2, ?_⟩
            rcases T with T | ⟨j, fj, j1, j2, j3, j4, T⟩
            · rw [T] at w; exact absurd w (by show ¬ (0 : Int) < 0; omega)
            · rw [i1.2, T, bT j fj j3 j1 j2] at hB
              rw [T]; exact hB.symm
          · exact absurd w i1.1
        · intro w
          rcases i1 with i1 | i1
          · exact absurd i1.1 w
          · refine ⟨i1.2, fun v => ?_⟩
            rcases F with T | ⟨j, fj, j1, j2, j3, j4, T⟩
            · rw [T] at v; exact absurd v (by show ¬ (0 : Int) < 0; omega)
            · rw [i1.2, T, bT j fj j3 j1 j2] at hB
              rw [T]; exact hB.symm
        · rw [eT true, hasE]
          by_cases c : (lcN g n fo true k).2 ≤ f.1 ∧ kdO g n (obO fo (pgR g n f)) = 2
          · rw [if_pos ⟨k1, c.1, fun _ => c.2⟩]; exact Or.inl ⟨c.1, c.2, rfl⟩
          · rw [if_neg (fun w => c ⟨w.2.1, w.2.2 rfl⟩)]; exact Or.inr ⟨c, rfl⟩
        · rw [eT false]
          by_cases c : (lcN g n fo false k).2 ≤ f.1
          · rw [if_pos ⟨k1, c, fun w => by cases w⟩]; exact Or.inl ⟨c, rfl⟩
          · rw [if_neg (fun w => c w.2.1)]; exact Or.inr ⟨c, rfl⟩
        · have iff1 : ((gsN g n fo k).1 = 0 ∨ (b2i (kdO g n (obO fo (pgR g n f)) == 2) = 1 ∧ b2i (gsN g n fo k).2 = 0) ∨ (b2i (kdO g n (obO fo (pgR g n f)) == 2) = b2i (gsN g n fo k).2 ∧ hb < f.1)) ↔ ((gsN g n fo k).1 = 0 ∨ ((kdO g n (obO fo (pgR g n f)) == 2) = true ∧ (gsN g n fo k).2 = false) ∨ ((kdO g n (obO fo (pgR g n f)) == 2) = (gsN g n fo k).2 ∧ hb < f.1)) := by
            rw [b2i_inj, b2i_0]
            have : b2i (kdO g n (obO fo (pgR g n f)) == 2) = 1 ↔ (kdO g n (obO fo (pgR g n f)) == 2) = true := by
              cases (kdO g n (obO fo (pgR g n f)) == 2) <;> simp [b2i]
            rw [this]
          rw [eG, iff1]
          by_cases c : ((gsN g n fo k).1 = 0 ∨ ((kdO g n (obO fo (pgR g n f)) == 2) = true ∧ (gsN g n fo k).2 = false) ∨ ((kdO g n (obO fo (pgR g n f)) == 2) = (gsN g n fo k).2 ∧ hb < f.1))
          · rw [if_pos ⟨k1, c⟩]; exact Or.inl ⟨c, rfl, rfl⟩
          · rw [if_neg (fun w => c w.2)]; exact Or.inr ⟨c, rfl, rfl⟩
      · have e1 : lcN g n fo true (k + 1) = lcN g n fo true k := by rw [eT, if_neg (fun w => k1 w.1)]
        have e2 : lcN g n fo false (k + 1) = lcN g n fo false k := by rw [eT, if_neg (fun w => k1 w.1)]
        have e3 : gsN g n fo (k + 1) = gsN g n fo k := by rw [eG, if_neg (fun w => k1 w.1)]
        rw [e1, e2, e3]; exact ⟨i1, i2, i3⟩
end
section
variable {e : En} {g : Int → Int} {n : Int} {d : Nat} {D : HD}
theorem m112_25 (he : HS e) {s : SC} {i : Nat} {f : FR} (hfi : s.1 (i + 1) = some f) (hi : i < 60) (hr7 : (dRs g n f).length ≤ 700) {M : RfL} (hcap : M.length + (dRs g n f).length ≤ 2000) {Q : HI → HD → Prop} (k : Nat) : ∀ (j : Nat) (I : HI), j ≤ (dRs g n f).length → (dRs g n f).length - j = k → MoB g n (d : Int) I → MR I (dRs g n f) →
    MM d I (s.1, M ++ ((dRs g n f).take j).filterMap (m5P s.1 f), s.2.2) →
    (∀ I', Fr (mnS d) I I' → MM d I' (s.1, M ++ (dRs g n f).filterMap (m5P s.1 f), s.2.2) → RV 112 67 [vR (some 312), vI ((i + 1 : Nat) : Int), vJ] [] e I' D Q) → RV 112 25 [vR (some 312), vI ((i + 1 : Nat) : Int), vI (j : Int)] [] e I D Q := by
  induction k with
  | zero =>
    intro j I hj hk hM hR hS hQ
    rw [List.take_of_length_le (by omega)] at hS
    refine S112_25 he ?_
    rw [hR.1]
    exact ⟨fun _ => hQ I Fr.refl hS, fun q => by omega⟩
  | succ k ih =>
    intro j I hj hk hM hR hS hQ
    obtain ⟨m4, hd, m14, h0n, h3n⟩ := hM.sd
    have hjl : j < (dRs g n f).length := by omega
    have hrj : (dRs g n f)[j]? = some (dRs g n f)[j] := List.getElem?_eq_getElem hjl
    have tk : (dRs g n f).take (j + 1) = (dRs g n f).take j ++ [(dRs g n f)[j]] := by rw [List.take_succ, hrj]; rfl
    have fl : ((dRs g n f).take j).length ≤ j := by rw [List.length_take]; omega
    have fm := List.length_filterMap_le (m5P s.1 f) ((dRs g n f).take j)
    refine S112_25 he ?_
    rw [hR.1, Int.toNat_natCast, (hR.2 j _ hrj).2.2]
    refine ⟨fun q => by omega, fun _ => ⟨⟨by omega, by omega⟩, m103 he m4 hd hS ⟨fun q => ?_, fun q => m102 he m4 hd (by omega) (by omega) ?_⟩⟩⟩
    · have ph : m5P s.1 f (dRs g n f)[j] = none := by
        have : (obO s.1 (dRs g n f)[j].2.2).isSome = true := b2i_n q
        unfold m5P
        rw [if_neg (by rw [← Option.not_isSome, this]; decide)]
      exact S112_61 he ⟨⟨by omega, by omega⟩, ih (j + 1) I (by omega) (by omega) hM hR (by rw [tk, List.filterMap_append, List.filterMap_cons, ph, List.filterMap_nil, List.append_nil]; exact hS) hQ⟩
    · have ph : m5P s.1 f (dRs g n f)[j] = some (f.1, f.1, 5) := by
        have : (obO s.1 (dRs g n f)[j].2.2).isSome = false := b2i_0.mp (Decidable.not_not.mp q)
        unfold m5P
        rw [if_pos (by rw [← Option.not_isSome, this]; decide)]
      have mo := hS.1 (i + 1) (by omega) (by omega)
      have mo : mO I (61 * d + (i + 1)) (some f) := by rw [← hfi]; exact mo
      rw [Int.toNat_natCast, Int.toNat_natCast, mo.2.1]
      refine ⟨⟨by omega, by omega⟩, m106 he m4 hd hS (by show (M ++ _).length < 2000; rw [List.length_append]; omega) fun I1 f1 M1 => S112_61 he ⟨⟨by omega, by omega⟩, ?_⟩⟩
      refine ih (j + 1) I1 (by omega) (by omega) (hM.mg (f1.mono mnmg)) (hR.fr f1 (fun q => by unfold mnS at q; omega) (fun k => ⟨fun q => by unfold mnS at q; omega, fun q => by unfold mnS at q; omega, fun q => by unfold mnS at q; omega⟩)) ?_ fun I2 f2 => hQ I2 (f1.trans f2)
      rw [tk, List.filterMap_append, List.filterMap_cons, ph, List.filterMap_nil, ← List.append_assoc]; exact M1
theorem m112_2 (he : HS e) {s : SC} (hok : OKS g n s.1) (hcap : s.2.1.length + tot g n s.1 ≤ 2000) {Q : HI → HD → Prop} (k : Nat) : ∀ (i : Nat) (I : HI), i ≤ 60 → 60 - i = k → MoB g n (d : Int) I → MM d I (s.1, s.2.1 ++ m5N g n s.1 i, s.2.2) →
    (∀ I', Fr (mgS d) I I' → MM d I' (s.1, s.2.1 ++ m5N g n s.1 60, s.2.2) → Q I' D) → RV 112 2 [vR (some 312), vI ((i + 1 : Nat) : Int), vJ] [] e I D Q := by
  induction k with
  | zero =>
    intro i I hi hk hM hS hQ
    have : i = 60 := by omega
    subst this
    exact S112_2 he ⟨fun _ => hQ I Fr.refl hS, fun q => by omega⟩
  | succ k ih =>
    intro i I hi hk hM hS hQ
    obtain ⟨m4, hd, m14, h0n, h3n⟩ := hM.sd
    have mle := m5N_le (g := g) (n := n) (fo := s.1) i
    have ts : ((List.range (i + 2)).map fun j => rfN g n (s.1 j)).sum ≤ tot g n s.1 := totN_le (by omega)
    have t1 : ((List.range (i + 2)).map fun j => rfN g n (s.1 j)).sum = ((List.range (i + 1)).map fun j => rfN g n (s.1 j)).sum + rfN g n (s.1 (i + 1)) := by
      rw [List.range_succ, List.map_append, List.sum_append]; simp
    have go : ∀ I', Fr (mgS d) I I' → MM d I' (s.1, s.2.1 ++ m5N g n s.1 (i + 1), s.2.2) → RV 112 67 [vR (some 312), vI ((i + 1 : Nat) : Int), vJ] [] e I' D Q := fun I' f' M' =>
      S112_67 he ⟨⟨by omega, by omega⟩, ih (i + 1) I' (by omega) (by omega) (hM.mg f') M' fun I'' f'' => hQ I'' (f'.trans f'')⟩
    have es : m5N g n s.1 (i + 1) = m5N g n s.1 i ++ (match s.1 (i + 1) with | some f => (dRs g n f).filterMap (m5P s.1 f) | none => []) := rfl
    refine S112_2 he ⟨fun q => by omega, fun _ => m103 he m4 hd hS ?_⟩
    rw [obO_s (by omega)]
    cases hf : s.1 (i + 1) with
    | none =>
      rw [hf] at es
      exact ⟨fun _ => go I Fr.refl (by rw [es, List.append_nil]; exact hS), fun q => absurd rfl q⟩
    | some f =>
      rw [hf] at es t1
      have ho := hok (i + 1) f hf
      have pk := dPr_ok ho
      refine ⟨fun q => absurd q (by show ¬ (1 : Int) = 0; decide), fun _ => m104 he hM hS hf ho wok_0 rfl fun I1 f1 M1 _ _ => ?_⟩
      have S1 := hS.di f1
      have e1 : rfN g n (some f) = (dRs g n f).length := rfl
      refine m112_25 he hf (by omega) (by omega) (M := s.2.1 ++ m5N g n s.1 i) (by rw [List.length_append]; omega) _ 0 I1 (Nat.zero_le _) rfl (hM.di f1) M1.1 (by rw [List.take_zero, List.filterMap_nil, List.append_nil]; exact S1) fun I2 f2 M2 => go I2 ((f1.mono dimg).trans (f2.mono mnmg)) ?_
      rw [es, ← List.append_assoc]; exact M2
theorem m112 (he : HS e) {I : HI} {s : SC} (hok : OKS g n s.1) (hcap : s.2.1.length + tot g n s.1 ≤ 2000) (hM : MoB g n (d : Int) I) (hS : MM d I s) {Q : HI → HD → Prop} (hQ : ∀ I', Fr (mgS d) I I' → MM d I' (s.1, s.2.1 ++ m5N g n s.1 60, s.2.2) → Q I' D) : CV 112 [vR (some 312)] e I D Q :=
  S112 he (m112_2 he hok hcap 60 0 I (by omega) rfl hM (by show MM d I (s.1, s.2.1 ++ [], s.2.2); rw [List.append_nil]; exact hS) hQ)
end
