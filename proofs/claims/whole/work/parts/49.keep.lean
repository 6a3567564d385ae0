/-! Scan.keepCurrent -/
theorem cnt_up {fo : Nat → Option FR} {i : Nat} {f : FR} (hi : i < 61) : cnt (fun j => if j = i then some f else fo j) = cnt fo + (if (fo i).isSome = true then 0 else 1) := by
  have gen : ∀ N : Nat, ((List.range N).filter fun j => (if j = i then some f else fo j).isSome).length = ((List.range N).filter fun j => (fo j).isSome).length + (if i < N ∧ ¬ (fo i).isSome = true then 1 else 0) := by
    intro N
    induction N with
    | zero => simp
    | succ N ih =>
      rw [List.range_succ, List.filter_append, List.filter_append, List.length_append, List.length_append, ih]
      by_cases c : N = i
      · subst c
        cases q : (fo N).isSome <;> simp [q]
      · have e1 : (List.filter (fun j => (if j = i then some f else fo j).isSome) [N]).length = (List.filter (fun j => (fo j).isSome) [N]).length := by simp only [List.filter_cons, List.filter_nil, if_neg c]
        rw [e1]
        by_cases d : i < N
        · have : i < N + 1 := by omega
          simp [d, this]; omega
        · have : ¬ i < N + 1 := by omega
          simp [d, this]
  unfold cnt
  rw [gen 61]
  by_cases c : (fo i).isSome = true
  · simp [c]
  · simp [c, hi]
def kcS (A F a k : Nat) : Prop := (A + 10 ≤ a ∧ a ≤ A + 17) ∨ (a = A ∧ k = 11) ∨ (a = F ∧ k = 1)
def keS (i : Nat) (f : FR) (s : SC) : SC :=
  (fun j => if j = i then some f else s.1 j, s.2.1 ++ (match s.1 i with | some f0 => [(f0.1, f0.1, 4)] | none => []), s.2.2.1 ++ (match s.1 i with | some _ => [(f.1, f.2.2.1, (i : Int))] | none => []), s.2.2.2)
section
variable {e : En} {g : Int → Int} {n : Int} {A : Nat}
theorem PM.swap {D : HD} (hA : isA A) (h : PM A D) {i : Nat} (hi : i < 61) : PM A (uD (uD D (A + 21) i (D A 10)) A 10 (D (A + 21) i)) ∧ (∀ j, j < 61 → uD (uD D (A + 21) i (D A 10)) A 10 (D (A + 21) i) (A + 21) j = if j = i then D A 10 else D (A + 21) j) ∧ uD (uD D (A + 21) i (D A 10)) A 10 (D (A + 21) i) A 10 = D (A + 21) i := by
  have e1 : ∀ j, j < 61 → uD (uD D (A + 21) i (D A 10)) A 10 (D (A + 21) i) (A + 21) j = if j = i then D A 10 else D (A + 21) j := by
    intro j _
    rw [uD_ne (by omega)]
    by_cases c : j = i
    · rw [c, uD_eq, if_pos rfl]
    · rw [uD_ne (by omega), if_neg c]
  have e2 : uD (uD D (A + 21) i (D A 10)) A 10 (D (A + 21) i) A 10 = D (A + 21) i := uD_eq
  obtain ⟨a1, a2, a3, a4⟩ := h
  refine ⟨⟨fun j hj => ?_, ?_, fun j k hj hk w => ?_, fun j hj => ?_⟩, e1, e2⟩
  · rw [e1 j hj]
    split
    · exact a2
    · exact a1 j hj
  · rw [e2]; exact a1 i hi
  · rw [e1 j hj, e1 k hk] at w
    split at w
    · split at w
      · omega
      · exact absurd w.symm (a4 k hk)
    · split at w
      · exact absurd w (a4 j hj)
      · exact a3 j k hj hk w
  · rw [e1 j hj, e2]
    split
    · exact fun w => a4 i hi w.symm
    · rename_i c; exact fun w => c (a3 j i hj hi w)
theorem c33 (he : HS e) (hA : isA A) {I : HI} {D : HD} {s : SC} {rs ls : RfL} (hC : CS g n A I D s rs ls) {F : Nat} (hF : D A 10 = F) {f : FR} (hf : CF g n I F rs ls f) {i : Nat} (hi1 : 1 ≤ i) (hi : i < 61) (hm : s.2.1.length < L0 (A + 11)) (hr : s.2.2.1.length < L0 (A + 15)) {Q : HI → HD → Prop}
    (hQ : ∀ I' D', Fr (kcS A F) I I' → CS g n A I' D' (keS i f s) rs ls → (∀ a k, a < A ∨ A + 21 < a → D' a k = D a k) → Q I' D') : CV 33 [vR (some A), vI (i : Int)] e I D Q := by
  obtain ⟨⟨m1, m2, m3, m4⟩, ⟨v2, v11, v12, v13, v14⟩, hP, hO⟩ := hC
  have hA8 := isA8 hA
  have sw := hP.swap hA hi
  have pi := hP.1 i hi
  have pc := hP.2.1
  rw [hF] at sw pc
  have fk := fK hA pc.1
  have ek := fK hA pi.1
  have hne : D (A + 21) i ≠ F := by rw [← hF]; exact hP.2.2.2 i hi
  have f1F := f1K pc.1 pi.1
  have kr : K0 (A + 14) = 4 ∧ L0 (A + 15) < 100000 := by rcases hA with rfl | rfl <;> decide
  -- the end, once the earlier object was told
  have s73 : ∀ I2 : HI, Fr (fun a k => (A + 10 ≤ a ∧ a ≤ A + 17) ∨ (a = A ∧ k = 11)) I I2 → MkL (A + 10) I2 (keS i f s).2.1 → MkL (A + 14) I2 (keS i f s).2.2.1 → I2 A 11 = (cnt (keS i f s).1 : Int) →
      RV 33 73 [vR (some A), vI (i : Int), vR (some (D (A + 21) i))] [] e I2 D Q := by
    intro I2 f2 q1 q2 q3
    have f3 : Fr (fun a k => a = F ∧ k = 1) I2 (uI I2 F 1 1) := Fr.u ⟨rfl, rfl⟩
    have F3 : Fr (kcS A F) I (uI I2 F 1 1) := (f2.mono fun a k q => by unfold kcS; omega).trans (f3.mono fun a k q => by unfold kcS; omega)
    refine S33_73 he hA pi.1 ?_
    rw [hF, Int.toNat_natCast]
    refine ⟨pc.1, ⟨by omega, by omega⟩, hQ _ _ F3 ⟨⟨m1.fr F3 (fun a k q1 q2 q3 => by unfold kcS at q3; omega), m2.fr F3 (fun a k q1 q2 q3 => by unfold kcS at q3; omega), q1.fr f3 (fun a k q1 q2 q3 => by omega), q2.fr f3 (fun a k q1 q2 q3 => by omega)⟩, ⟨?_, ?_, ?_, ?_, ?_⟩, sw.1, fun j hj => ?_⟩ ?_⟩
    · rw [F3 _ _ (fun q => by unfold kcS at q; omega)]; exact v2
    · rw [uI_ne (by omega)]; exact q3
    · rw [F3 _ _ (fun q => by unfold kcS at q; omega)]; exact v12
    · rw [F3 _ _ (fun q => by unfold kcS at q; omega)]; exact v13
    · rw [F3 _ _ (fun q => by unfold kcS at q; omega)]; exact v14
    · rw [sw.2.1 j hj]
      show oneF g n (uI I2 F 1 1) (if j = i then F else D (A + 21) j) rs ls (if j = i then some f else s.1 j)
      by_cases c : j = i
      · rw [if_pos c, if_pos c]
        exact ⟨uI_eq, hf.fr F3 (fun k q w => by unfold kcS at w; omega) (fun k w => by unfold kcS at w; omega)⟩
      · rw [if_neg c, if_neg c]
        have pj := hP.1 j hj
        have fj := fK hA pj.1
        have nj : D (A + 21) j ≠ F := by rw [← hF]; exact hP.2.2.2 j hj
        have f1j := f1K pj.1 pc.1
        exact (hO j hj).fr F3 (fun k w => by unfold kcS at w; omega) (fun k w => by unfold kcS at w; omega)
    · intro a k q; rw [uD_ne (by omega), uD_ne (by omega)]
  have hoi := hO i hi
  refine S33 he hA ⟨fun q => by omega, fun _ => ⟨fun _ => ?_, fun q => by omega⟩⟩
  rw [Int.toNat_natCast]
  refine ⟨⟨by omega, by omega⟩, pi.1, fun q => ?_, fun q => ?_⟩
  · have hn : s.1 i = none := by
      cases w : s.1 i with
      | none => rfl
      | some f0 => rw [w] at hoi; have := hoi.1; omega
    have cb : cnt s.1 ≤ 61 := by unfold cnt; exact Nat.le_trans (List.length_filter_le _ _) (by simp)
    rw [v11]
    refine ⟨⟨by omega, by omega⟩, s73 _ (Fr.u (Or.inr ⟨rfl, rfl⟩)) ?_ ?_ ?_⟩
    · show MkL (A + 10) _ (s.2.1 ++ (match s.1 i with | some f0 => [(f0.1, f0.1, 4)] | none => []))
      rw [hn, List.append_nil]
      exact m3.fr (S := fun a k => a = A ∧ k = 11) (Fr.u ⟨rfl, rfl⟩) (fun a k q1 q2 q3 => by omega)
    · show MkL (A + 14) _ (s.2.2.1 ++ (match s.1 i with | some _ => [(f.1, f.2.2.1, (i : Int))] | none => []))
      rw [hn, List.append_nil]
      exact m4.fr (S := fun a k => a = A ∧ k = 11) (Fr.u ⟨rfl, rfl⟩) (fun a k q1 q2 q3 => by omega)
    · rw [uI_eq]
      show (cnt s.1 : Int) + 1 = (cnt (fun j => if j = i then some f else s.1 j) : Int)
      rw [cnt_up hi, hn]; simp
  · obtain ⟨f0, hn⟩ : ∃ f0, s.1 i = some f0 := by
      cases w : s.1 i with
      | none => rw [w] at hoi; exact absurd hoi q
      | some f0 => exact ⟨f0, rfl⟩
    rw [hn] at hoi
    rw [hoi.2.1.1]
    refine c26 he hA m3 hm fun I5 f5 M5 => ?_
    rw [hF]
    have x2 : I5 F 2 = f.1 := by rw [f5 _ _ (fun q => by unfold mkS at q; omega)]; exact hf.1.1
    have x4 : I5 F 4 = f.2.2.1 := by rw [f5 _ _ (fun q => by unfold mkS at q; omega)]; exact hf.1.2.2.1
    rw [x2, x4]
    refine ⟨pc.1, c11 he kr.1 (m4.fr f5 (fun a k q1 q2 q3 => by unfold mkS at q3; omega)) hr kr.2 fun I9 f9 M9 => ?_⟩
    refine s73 I9 ((f5.mono fun a k q => by unfold mkS at q; exact Or.inl (by omega)).trans (f9.mono fun a k q => by unfold mkS at q; exact Or.inl (by omega))) ?_ ?_ ?_
    · show MkL (A + 10) _ (s.2.1 ++ (match s.1 i with | some f0 => [(f0.1, f0.1, 4)] | none => []))
      rw [hn]
      exact M5.fr f9 (fun a k q1 q2 q3 => by unfold mkS at q3; omega)
    · show MkL (A + 14) _ (s.2.2.1 ++ (match s.1 i with | some _ => [(f.1, f.2.2.1, (i : Int))] | none => []))
      rw [hn]; exact M9
    · rw [f9 _ _ (fun q => by unfold mkS at q; omega), f5 _ _ (fun q => by unfold mkS at q; omega), v11]
      show (cnt s.1 : Int) = (cnt (fun j => if j = i then some f else s.1 j) : Int)
      rw [cnt_up hi, hn]; simp
end
