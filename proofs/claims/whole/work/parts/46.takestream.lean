/-! Scan.takeStream -/
theorem fK {A F : Nat} (hA : isA A) (h : K0 F = 3) : (F < A ∨ A + 21 < F) ∧ 6 ≤ F := by
  have no : ∀ o : Nat, o ≤ 21 → F ≠ A + o := by
    have c8 : ∀ o, o < 22 → K0 (8 + o) ≠ 3 := by decide
    have c159 : ∀ o, o < 22 → K0 (159 + o) ≠ 3 := by decide
    intro o ho q
    subst q
    rcases hA with rfl | rfl
    · exact c8 o (by omega) h
    · exact c159 o (by omega) h
  refine ⟨?_, ?_⟩
  · rcases Nat.lt_or_ge F A with q | q
    · exact Or.inl q
    · rcases Nat.lt_or_ge (A + 21) F with w | w
      · exact Or.inr w
      · exact absurd (show F = A + (F - A) by omega) (no (F - A) (by omega))
  · rcases Nat.lt_or_ge F 6 with q | q
    · have c : ∀ f, f < 6 → K0 f ≠ 3 := by decide
      exact absurd h (c F q)
    · exact q
def stS (A F a _k : Nat) : Prop := (A + 10 ≤ a ∧ a ≤ A + 13) ∨ a = F
/-- where the stream's last word stands: by its length, or else by the word -/
def stE (g : Int → Int) (n data len : Int) : Int := if 0 ≤ ebL g n data len then ebL g n data len else ebW g n data
def stT (g : Int → Int) (n data len : Int) : Int :=
  if 0 ≤ ebL g n data len then data + len else if 0 ≤ ebW g n data then (if data < ebW g n data ∧ gb g n (ebW g n data - 1) = 10 then ebW g n data - 1 else ebW g n data) else n
def stM (g : Int → Int) (n data len : Int) : RfL := (if 0 ≤ ebL g n data len then [] else [(data, data, 3)]) ++ (if 0 ≤ stE g n data len then [] else [(data, data, 2)])
section
variable {e : En} {g : Int → Int} {n : Int} {A : Nat} {D : HD}
theorem ebL_bd {data len : Int} (h0 : 0 ≤ data) (h : 0 ≤ ebL g n data len) : data ≤ ebL g n data len ∧ ebL g n data len + 9 ≤ n ∧ 0 ≤ len ∧ data + len ≤ n := by
  unfold ebL at *
  split at h
  · omega
  · rename_i c
    rw [if_neg c]
    split at h
    · rename_i c2
      rw [if_pos c2]
      have := esP_le c2; omega
    · rename_i c2
      rw [if_neg c2]
      split at h
      · rename_i c3
        rw [if_pos c3]
        have := esP_le c3.2; omega
      · omega
theorem ebW_bd {data : Int} (h0 : data ≤ n) (h : 0 ≤ ebW g n data) : data ≤ ebW g n data ∧ ebW g n data + 9 ≤ n := by
  unfold ebW at *
  split at h
  · rename_i c
    rw [if_pos c]
    have := esP_le (ff_stop (P := esP g n) h0 c)
    have := ff_bd (P := esP g n) h0
    omega
  · omega
theorem ebW_ge {data : Int} : -1 ≤ ebW g n data ∨ data < 0 := by
  unfold ebW
  split
  · rename_i c
    rcases Int.lt_or_le data 0 with q | q
    · exact Or.inr q
    · left
      rcases Int.lt_or_le n data with w | w
      · rw [ff_ge (by omega)]; omega
      · have := ff_bd (P := esP g n) w; omega
  · left; omega
theorem c29_tail (he : HS e) (hA : isA A) {I : HI} (hS : I A 2 = n) {F : Nat} (hF : D A 10 = F) (hk : K0 F = 3) {p E : Int} (hE0 : -1 ≤ E) (hE1 : E ≤ 3000) {ms : RfL} (hM : MkL (A + 10) I ms) (hc : ms.length < L0 (A + 11)) {Q : Int → HI → HD → Prop}
    (hQ : ∀ I', Fr (fun a k => (A + 10 ≤ a ∧ a ≤ A + 13) ∨ (a = F ∧ (k = 8 ∨ k = 10))) I I' → MkL (A + 10) I' (ms ++ (if 0 ≤ E then [] else [(p, p, 2)])) → I' F 8 = (if 0 ≤ E then 1 else 0) → I' F 10 = (if 0 ≤ E then I F 10 else n) → Q (if 0 ≤ E then E + 9 else n) I' D) :
    RI 29 126 [vR (some A), vI p, vI E, vJ] [] e I D Q := by
  have fk := fK hA hk
  have hl : ((zstr 24).length : Int) = 9 := by decide
  have s139 : ∀ y : Int, y = (if 0 ≤ E then 1 else 0) → RI 29 139 [vR (some A), vI p, vI E, vJ] [vI y, vR (some F)] e I D Q := by
    intro y hy
    have f1 : Fr (fun a k => a = F ∧ k = 8) I (uI I F 8 y) := Fr.u ⟨rfl, rfl⟩
    have M1 := hM.fr f1 (fun a k q1 q2 q3 => by omega)
    refine S29_139 he hA hk ?_
    rw [hF, uI_eq, hl]
    by_cases c : 0 ≤ E
    · rw [if_pos c] at hy
      refine ⟨Or.inr hy, hk, fun _ => ⟨⟨by omega, by omega⟩, ?_⟩, fun q => by omega⟩
      have := hQ (uI I F 8 y) (f1.mono fun a k q => Or.inr ⟨q.1, Or.inl q.2⟩) (by rw [if_pos c, List.append_nil]; exact M1) (by rw [uI_eq, if_pos c]; exact hy) (by rw [if_pos c, uI_ne (by omega)])
      rw [if_pos c] at this; exact this
    · rw [if_neg c] at hy
      refine ⟨Or.inl hy, hk, fun q => absurd hy q, fun _ => c26 he hA M1 hc fun I2 f2 M2 => ?_⟩
      have s2 : I2 A 2 = n := by rw [f2 _ _ (fun q => by unfold mkS at q; omega), uI_ne (by omega)]; exact hS
      rw [hF, s2]
      refine ⟨hk, ?_⟩
      have e1 : uI I2 F 10 n A 2 = n := by rw [uI_ne (by omega)]; exact s2
      rw [e1]
      have f3 : Fr (fun a k => a = F ∧ k = 10) I2 (uI I2 F 10 n) := Fr.u ⟨rfl, rfl⟩
      have := hQ (uI I2 F 10 n) ((f1.mono fun a k q => Or.inr ⟨q.1, Or.inl q.2⟩).trans ((f2.mono fun a k q => by unfold mkS at q; exact Or.inl (by omega)).trans (f3.mono fun a k q => Or.inr ⟨q.1, Or.inr q.2⟩))) (by rw [if_neg c]; exact M2.fr f3 (fun a k q1 q2 q3 => by omega)) (by rw [if_neg c, uI_ne (by omega), f2 _ _ (fun q => by unfold mkS at q; omega), uI_eq]; exact hy) (by rw [if_neg c, uI_eq])
      rw [if_neg c] at this; exact this
  refine S29_126 he hA ⟨fun a => ?_, fun a => ?_⟩
  · rw [hF]; exact s139 0 (by rw [if_neg (by omega)])
  · rw [hF]; exact s139 1 (by rw [if_pos (by omega)])
end
section
variable {e : En} {g : Int → Int} {n : Int} {A : Nat} {D : HD}
theorem c29 (he : HS e) (hA : isA A) {I : HI} (hT : Tk g n A I D) (hS : I A 2 = n) {F : Nat} (hF : D A 10 = F) (hk : K0 F = 3) {p len : Int} (hL : I (F + 1) 5 = len) (h0 : 0 ≤ p) (h1 : p ≤ n) {ms : RfL} (hM : MkL (A + 10) I ms) (hc : ms.length + 1 < L0 (A + 11)) {Q : Int → HI → HD → Prop}
    (hQ : ∀ I', Fr (stS A F) I I' → MkL (A + 10) I' (ms ++ stM g n p len) → (I' F 1 = I F 1 ∧ I' F 2 = I F 2 ∧ I' F 3 = I F 3 ∧ I' F 4 = I F 4 ∧ I' F 5 = I F 5) → I' F 6 = 1 → I' F 7 = (if 0 ≤ ebL g n p len then 1 else 0) → I' F 8 = (if 0 ≤ stE g n p len then 1 else 0) → I' F 9 = p → I' F 10 = stT g n p len → Q (if 0 ≤ stE g n p len then stE g n p len + 9 else n) I' D) :
    CI 29 [vR (some A), vI p] e I D Q := by
  have fk := fK hA hk
  have hn := hT.1.2.2.1
  have hA8 := isA8 hA
  have f1 : Fr (fun a k => a = F ∧ (k = 6 ∨ k = 9)) I (uI (uI I F 6 1) F 9 p) := (Fr.u (S := fun a k => a = F ∧ (k = 6 ∨ k = 9)) ⟨rfl, Or.inl rfl⟩).trans (Fr.u (S := fun a k => a = F ∧ (k = 6 ∨ k = 9)) ⟨rfl, Or.inr rfl⟩)
  have v6 : (uI (uI I F 6 1) F 9 p) F 6 = 1 := by rw [uI_ne (by omega), uI_eq]
  have v9 : (uI (uI I F 6 1) F 9 p) F 9 = p := uI_eq
  refine S29 he hA ?_
  rw [hF]
  refine ⟨hk, ?_⟩
  generalize (uI (uI I F 6 1) F 9 p) = J at f1 v6 v9
  have TJ := hT.fr f1 (fun a k q => by have : F ≠ A + 1 := by omega
                                       omega)
  have SJ : J A 2 = n := by rw [f1 _ _ (by omega)]; exact hS
  have LJ : J (F + 1) 5 = len := by rw [f1 _ _ (by omega)]; exact hL
  have MJ := hM.fr f1 (fun a k q1 q2 q3 => by omega)
  refine c30 he hA TJ SJ hF hk LJ h0 h1 ?_
  rw [hF]
  have s35 : ∀ y : Int, y = (if 0 ≤ ebL g n p len then 1 else 0) → RI 29 35 [vR (some A), vI p, vI (ebL g n p len), vJ] [vI y, vR (some F)] e J D Q := by
    intro y hy
    have f2 : Fr (fun a k => a = F ∧ k = 7) J (uI J F 7 y) := Fr.u ⟨rfl, rfl⟩
    have F2 : Fr (fun a k => a = F ∧ (k = 6 ∨ k = 7 ∨ k = 9)) I (uI J F 7 y) := (f1.mono fun a k q => by omega).trans (f2.mono fun a k q => by omega)
    have T2 := TJ.fr f2 (fun a k q => by have : F ≠ A + 1 := by omega
                                         omega)
    have S2 : uI J F 7 y A 2 = n := by rw [uI_ne (by omega)]; exact SJ
    have L2 : uI J F 7 y (F + 1) 5 = len := by rw [uI_ne (by omega)]; exact LJ
    have M2 := MJ.fr f2 (fun a k q1 q2 q3 => by omega)
    have w6 : uI J F 7 y F 6 = 1 := by rw [uI_ne (by omega)]; exact v6
    have w9 : uI J F 7 y F 9 = p := by rw [uI_ne (by omega)]; exact v9
    have w7 : uI J F 7 y F 7 = y := uI_eq
    refine S29_35 he hA hk ?_
    rw [hF, w7, L2]
    generalize uI J F 7 y = K at F2 T2 S2 L2 M2 w6 w7 w9
    -- what comes behind, once the data's end is set
    have fin : ∀ (J2 : HI) (E : Int) (ms2 : RfL), E = stE g n p len → Fr (fun a k => (A + 10 ≤ a ∧ a ≤ A + 13) ∨ (a = F ∧ k = 10)) K J2 → MkL (A + 10) J2 ms2 → ms2.length < L0 (A + 11) → ms2 ++ (if 0 ≤ E then [] else [(p, p, 2)]) = ms ++ stM g n p len → (0 ≤ E → J2 F 10 = stT g n p len) → (¬ 0 ≤ E → stT g n p len = n) →
        RI 29 126 [vR (some A), vI p, vI E, vJ] [] e J2 D Q := by
      intro J2 E ms2 hE f3 M3 hc3 hms hT10 hT10n
      have S3 : J2 A 2 = n := by rw [f3 _ _ (by omega)]; exact S2
      have Eb : -1 ≤ E ∧ E ≤ 3000 := by
        rw [hE]; unfold stE
        split
        · rename_i c; have := ebL_bd h0 c; omega
        · have a := ebW_ge (g := g) (n := n) (data := p)
          rcases Int.lt_or_le (ebW g n p) 0 with q | q
          · omega
          · have := ebW_bd h1 q; omega
      refine c29_tail he hA S3 hF hk Eb.1 Eb.2 M3 hc3 fun I' f4 M4 v8 v10 => ?_
      rw [hms] at M4
      rw [hE] at v8 v10 hT10 hT10n ⊢
      have f5 : Fr (fun a k => (A + 10 ≤ a ∧ a ≤ A + 13) ∨ (a = F ∧ 6 ≤ k)) I I' := (F2.mono fun a k q => by omega).trans ((f3.mono fun a k q => by omega).trans (f4.mono fun a k q => by omega))
      refine hQ I' (f5.mono fun a k q => by unfold stS; omega) M4 ⟨f5 _ _ (by omega), f5 _ _ (by omega), f5 _ _ (by omega), f5 _ _ (by omega), f5 _ _ (by omega)⟩ ?_ ?_ v8 ?_ ?_
      · rw [f4 _ _ (by omega), f3 _ _ (by omega)]; exact w6
      · rw [f4 _ _ (by omega), f3 _ _ (by omega), w7]; exact hy
      · rw [f4 _ _ (by omega), f3 _ _ (by omega)]; exact w9
      · rw [v10]
        split
        · rename_i c; exact hT10 c
        · rename_i c; exact (hT10n c).symm
    refine ⟨by rw [hy]; split <;> simp, hk, fun a => ?_, fun a => ?_⟩
    · have c : ¬ 0 ≤ ebL g n p len := fun c => by rw [if_pos c] at hy; omega
      have hE : stE g n p len = ebW g n p := if_neg c
      have hsT : stT g n p len = (if 0 ≤ ebW g n p then (if p < ebW g n p ∧ gb g n (ebW g n p - 1) = 10 then ebW g n p - 1 else ebW g n p) else n) := if_neg c
      refine c26 he hA M2 (by omega) fun I4 f4 M4 => ?_
      have T4 := T2.fr f4 (fun a k q => by unfold mkS at q; omega)
      have S4 : I4 A 2 = n := by rw [f4 _ _ (fun q => by unfold mkS at q; omega)]; exact S2
      have hms : (ms ++ [(p, p, 3)]) ++ (if 0 ≤ ebW g n p then [] else [(p, p, 2)]) = ms ++ stM g n p len := by
        unfold stM; rw [if_neg c, hE, List.append_assoc]
      have s123 : ∀ y2 : Int, (0 ≤ ebW g n p → y2 = stT g n p len) → RI 29 123 [vR (some A), vI p, vI (ebW g n p), vJ] [vI y2, vR (some F)] e I4 D Q := by
        intro y2 hy2
        refine S29_123 he hA hk (fin _ _ (ms ++ [(p, p, 3)]) hE.symm ((f4.mono fun a k q => by unfold mkS at q; exact Or.inl (by omega)).trans (Fr.u (Or.inr ⟨rfl, rfl⟩))) (M4.fr (S := fun a k => a = F ∧ k = 10) (Fr.u ⟨rfl, rfl⟩) (fun a k q1 q2 q3 => by omega)) (by simp; omega) hms (fun q => by rw [uI_eq]; exact hy2 q) (fun q => by rw [hsT, if_neg q]))
      have s107 : ∀ z : Int, (z = 0 ↔ ¬ (p < ebW g n p ∧ gb g n (ebW g n p - 1) = 10)) → RI 29 107 [vR (some A), vI p, vI (ebW g n p), vJ] [vI z] e I4 D Q := by
        intro z hz
        have eb := ebW_ge (g := g) (n := n) (data := p)
        refine S29_107 he hA ?_
        rw [hF]
        refine ⟨fun q => s123 _ (fun w => ?_), fun q => ⟨⟨by omega, ?_⟩, s123 _ (fun w => ?_)⟩⟩
        · rw [hsT, if_pos w, if_neg (hz.mp q)]
        · rcases Int.lt_or_le (ebW g n p) 0 with w | w
          · omega
          · have := ebW_bd h1 w; omega
        · have v : p < ebW g n p ∧ gb g n (ebW g n p - 1) = 10 := Decidable.not_not.mp fun v => q (hz.mpr v)
          rw [hsT, if_pos w, if_pos v]
      refine c31 he hA T4 S4 h0 h1 ⟨fun q => S29_106 he hA (s107 0 ⟨fun _ w => by omega, fun _ => rfl⟩), fun q => ⟨⟨by omega, ?_⟩, c50 he T4.1 ⟨fun w => S29_106 he hA (s107 0 ⟨fun _ v => w v.2, fun _ => rfl⟩), fun w => s107 1 ⟨fun v => absurd v (by decide), fun v => absurd ⟨by omega, Decidable.not_not.mp w⟩ v⟩⟩⟩⟩
      have := ebW_bd (g := g) h1 (show 0 ≤ ebW g n p by omega)
      omega
    · have c : 0 ≤ ebL g n p len := Decidable.not_not.mp fun c => by rw [if_neg c] at hy; exact a hy
      have lb := ebL_bd h0 c
      have hE : stE g n p len = ebL g n p len := if_pos c
      refine ⟨⟨by omega, by omega⟩, fin _ _ ms hE.symm (Fr.u (Or.inr ⟨rfl, rfl⟩)) (M2.fr (S := fun a k => a = F ∧ k = 10) (Fr.u ⟨rfl, rfl⟩) (fun a k q1 q2 q3 => by omega)) (by omega) ?_ (fun _ => by rw [uI_eq]; exact (if_pos c).symm) (fun q => absurd c q)⟩
      unfold stM; rw [hE]; simp [c]
  refine ⟨fun a => s35 0 (by rw [if_neg (by omega)]), fun a => s35 1 (by rw [if_pos (by omega)])⟩
end
