/-! Scan.endObject -/
def eoS (A F a k : Nat) : Prop := (A + 10 ≤ a ∧ a ≤ A + 17) ∨ (a = A ∧ (k = 11 ∨ k = 12)) ∨ (a = F ∧ (k = 1 ∨ k = 4 ∨ k = 5))
section
variable {e : En} {g : Int → Int} {n : Int} {A : Nat}
theorem CS.mend {I I' : HI} {D : HD} {s : SC} {rs ls : RfL} (hA : isA A) (hC : CS g n A I D s rs ls) (hf : Fr (mkS (A + 10)) I I') {l : RfL} (hM : MkL (A + 10) I' l) : CS g n A I' D (s.1, l, s.2.2) rs ls := by
  obtain ⟨⟨m1, m2, m3, m4⟩, ⟨v2, v11, v12, v13, v14⟩, hP, hO⟩ := hC
  have no : ∀ k, ¬ mkS (A + 10) A k := fun k q => by unfold mkS at q; omega
  refine ⟨⟨m1.fr hf (fun a k q1 q2 q3 => by unfold mkS at q3; omega), m2.fr hf (fun a k q1 q2 q3 => by unfold mkS at q3; omega), hM, m4.fr hf (fun a k q1 q2 q3 => by unfold mkS at q3; omega)⟩, ⟨by rw [hf _ _ (no 2)]; exact v2, by rw [hf _ _ (no 11)]; exact v11, by rw [hf _ _ (no 12)]; exact v12, by rw [hf _ _ (no 13)]; exact v13, by rw [hf _ _ (no 14)]; exact v14⟩, hP, fun i hi => ?_⟩
  have fk := fK hA (hP.1 i hi).1
  exact (hO i hi).fr hf (fun k q => by unfold mkS at q; omega) (fun k q => by unfold mkS at q; omega)
/-- writing to the current object's own fields, or to the field cut, leaves the rest -/
theorem CS.cur {I I' : HI} {D : HD} {s : SC} {rs ls : RfL} (hA : isA A) (hC : CS g n A I D s rs ls) {F : Nat} (hF : D A 10 = F) (hf : Fr (fun a _ => a = F) I I') : CS g n A I' D s rs ls := by
  obtain ⟨⟨m1, m2, m3, m4⟩, ⟨v2, v11, v12, v13, v14⟩, hP, hO⟩ := hC
  have pc := hP.2.1
  rw [hF] at pc
  have fk := fK hA pc.1
  refine ⟨⟨m1.fr hf (fun a k q1 q2 q3 => by omega), m2.fr hf (fun a k q1 q2 q3 => by omega), m3.fr hf (fun a k q1 q2 q3 => by omega), m4.fr hf (fun a k q1 q2 q3 => by omega)⟩, ⟨by rw [hf _ _ (by omega)]; exact v2, by rw [hf _ _ (by omega)]; exact v11, by rw [hf _ _ (by omega)]; exact v12, by rw [hf _ _ (by omega)]; exact v13, by rw [hf _ _ (by omega)]; exact v14⟩, hP, fun i hi => ?_⟩
  have pi := hP.1 i hi
  have ni : D (A + 21) i ≠ F := by rw [← hF]; exact hP.2.2.2 i hi
  have f1 := f1K pi.1 pc.1
  exact (hO i hi).fr hf (fun k q => ni q) (fun k q => f1.1 q)
theorem c32 (he : HS e) (hA : isA A) {I : HI} {D : HD} (hT : Tk g n A I D) {s : SC} {rs ls : RfL} (hC : CS g n A I D s rs ls) {F : Nat} (hF : D A 10 = F) {h t E df dt : Int} {hs lh : Bool} {Y : Int}
    (hE0 : 0 ≤ E) (hE1 : E ≤ n) (w2 : I F 2 = h) (w3 : I F 3 = t) (w6 : I F 6 = b2i hs) (w7 : I F 7 = b2i lh) (w8 : hs = true → I F 8 = (if 0 ≤ Y then 1 else 0)) (w9 : I F 9 = df) (w10 : I F 10 = dt) (hcd : CD g n I (F + 1) rs ls t)
    {i : Nat} (hi1 : 1 ≤ i) (hi : i < 61) (hm : s.2.1.length + 1 < L0 (A + 11)) (hr : s.2.2.1.length < L0 (A + 15)) {Q : HI → HD → Prop}
    (hcut : kF' g n E = 0 ∧ hs = false → ∀ I', Fr (eoS A F) I I' → CS g n A I' D (s.1, s.2.1 ++ [(h, h, 10)], s.2.2.1, s.2.2.2.1, s.2.2.2.2.1, (i : Int)) rs ls → Q I' D)
    (hkeep : ¬ (kF' g n E = 0 ∧ hs = false) → ∀ I' D', Fr (eoS A F) I I' → CS g n A I' D' (keS i (h, t, E, kF' g n E == 6, hs, lh, df, dt) (s.1, s.2.1 ++ (if kF' g n E ≠ 6 ∧ (hs = false ∨ 0 ≤ Y) then [(E, E, 1)] else []), s.2.2)) rs ls → (∀ a k, a < A ∨ A + 21 < a → D' a k = D a k) → Q I' D') :
    CV 32 [vR (some A), vI (i : Int), vI E] e I D Q := by
  have hA8 := isA8 hA
  have pc := hC.2.2.1.2.1
  rw [hF] at pc
  have fk := fK hA pc.1
  refine S32 he hA (c53 he hT.1 hT.2.1 hE0 hE0 hE1 ?_)
  rw [hF]
  have s32 : ∀ y : Int, y = b2i (kF' g n E == 6) → RV 32 32 [vR (some A), vI (i : Int), vI E, vI (kF' g n E)] [vI y, vR (some F)] e (uI I F 4 E) D Q := by
    intro y hy
    have f1 : Fr (fun a k => a = F ∧ (k = 4 ∨ k = 5)) I (uI (uI I F 4 E) F 5 y) := (Fr.u (S := fun a k => a = F ∧ (k = 4 ∨ k = 5)) ⟨rfl, Or.inl rfl⟩).trans (Fr.u (S := fun a k => a = F ∧ (k = 4 ∨ k = 5)) ⟨rfl, Or.inr rfl⟩)
    have x4 : (uI (uI I F 4 E) F 5 y) F 4 = E := by rw [uI_ne (by omega), uI_eq]
    have x5 : (uI (uI I F 4 E) F 5 y) F 5 = y := uI_eq
    refine S32_32 he hA pc.1 ?_
    rw [hF]
    generalize (uI (uI I F 4 E) F 5 y) = J at f1 x4 x5
    have CJ : CS g n A J D s rs ls := hC.cur hA hF (f1.mono fun a k q => q.1)
    have x2 : J F 2 = h := by rw [f1 _ _ (by omega)]; exact w2
    have x3 : J F 3 = t := by rw [f1 _ _ (by omega)]; exact w3
    have x6 : J F 6 = b2i hs := by rw [f1 _ _ (by omega)]; exact w6
    have x7 : J F 7 = b2i lh := by rw [f1 _ _ (by omega)]; exact w7
    have x8 : J F 8 = I F 8 := f1 _ _ (by omega)
    have x9 : J F 9 = df := by rw [f1 _ _ (by omega)]; exact w9
    have x10 : J F 10 = dt := by rw [f1 _ _ (by omega)]; exact w10
    have hfJ : CF g n J F rs ls (h, t, E, kF' g n E == 6, hs, lh, df, dt) := ⟨⟨x2, x3, x4, by rw [x5]; exact hy, x6, x7, x9, x10⟩, hcd.fr f1 (fun k q => by omega)⟩
    -- keep it
    have s100 : ∀ (K : HI) (l : RfL), Fr (mkS (A + 10)) J K → MkL (A + 10) K l → l.length < L0 (A + 11) → ¬ (kF' g n E = 0 ∧ hs = false) → l = s.2.1 ++ (if kF' g n E ≠ 6 ∧ (hs = false ∨ 0 ≤ Y) then [(E, E, 1)] else []) → RV 32 100 [vR (some A), vI (i : Int), vJ, vJ] [] e K D Q := by
      intro K l fK' MK hl hno hle
      refine S32_100 he hA (c33 he hA (CJ.mend hA fK' MK) hF (hfJ.fr fK' (fun k q w => by unfold mkS at w; omega) (fun k w => by unfold mkS at w; omega)) hi1 hi hl hr fun I' D' f3 C3 d3 => ?_)
      rw [hle] at C3
      exact hkeep hno I' D' ((f1.mono fun a k q => by unfold eoS; omega).trans ((fK'.mono fun a k q => by unfold mkS at q; unfold eoS; omega).trans (f3.mono fun a k q => by unfold kcS at q; unfold eoS; omega))) C3 d3
    have s68 : ¬ (kF' g n E = 0 ∧ hs = false) → RV 32 68 [vR (some A), vI (i : Int), vI E, vI (kF' g n E)] [] e J D Q := by
      intro hno
      have s94 : (hs = false ∨ 0 ≤ Y) → kF' g n E ≠ 6 → RV 32 94 [vR (some A), vI (i : Int), vI E, vJ] [] e J D Q := by
        intro hh h6
        exact S32_94 he hA (c26 he hA CJ.1.2.2.1 (by omega) fun K f3 M3 => s100 K _ f3 M3 (by simp; omega) hno (by rw [if_pos ⟨h6, hh⟩]))
      refine S32_68 he hA ⟨fun q => s100 J s.2.1 Fr.refl CJ.1.2.2.1 (by omega) hno (by rw [if_neg (fun w => w.1 q), List.append_nil]), fun q => ?_⟩
      rw [hF, x6, x8]
      refine ⟨pc.1, fun w => s94 (Or.inl (b2i_0.mp w)) q, fun w => ⟨fun v => ?_, fun v => ?_⟩⟩
      · have hs1 := b2i_n w
        have := w8 hs1
        have nY : ¬ 0 ≤ Y := fun u => by rw [if_pos u] at this; omega
        exact s100 J s.2.1 Fr.refl CJ.1.2.2.1 (by omega) hno (by rw [if_neg (fun u => by rcases u.2 with u | u; rw [hs1] at u; cases u; exact nY u), List.append_nil])
      · have hs1 := b2i_n w
        have := w8 hs1
        exact s94 (Or.inr (Decidable.not_not.mp fun u => by rw [if_neg u] at this; exact v this)) q
    refine ⟨by rw [hy]; exact b2i_01 _, fun q => s68 (fun w => q w.1), fun q => ⟨pc.1, fun w => s68 (fun u => ?_), fun w => ?_⟩⟩
    · rw [x6, u.2] at w; exact w rfl
    · have k0 : kF' g n E = 0 := Decidable.not_not.mp q
      have hs0 : hs = false := by rw [x6] at w; exact b2i_0.mp (Decidable.not_not.mp w)
      have e1 : uI J A 12 (i : Int) F 2 = h := by rw [uI_ne (by omega)]; exact x2
      rw [e1]
      have f4 : Fr (fun a k => a = A ∧ k = 12) J (uI J A 12 (i : Int)) := Fr.u ⟨rfl, rfl⟩
      have C4 : CS g n A (uI J A 12 (i : Int)) D (s.1, s.2.1, s.2.2.1, s.2.2.2.1, s.2.2.2.2.1, (i : Int)) rs ls := by
        obtain ⟨⟨m1, m2, m3, m4⟩, ⟨v2, v11, v12, v13, v14⟩, hP, hO⟩ := CJ
        refine ⟨⟨m1.fr f4 (fun a k q1 q2 q3 => by omega), m2.fr f4 (fun a k q1 q2 q3 => by omega), m3.fr f4 (fun a k q1 q2 q3 => by omega), m4.fr f4 (fun a k q1 q2 q3 => by omega)⟩, ⟨by rw [f4 _ _ (by omega)]; exact v2, by rw [f4 _ _ (by omega)]; exact v11, uI_eq, by rw [f4 _ _ (by omega)]; exact v13, by rw [f4 _ _ (by omega)]; exact v14⟩, hP, fun j hj => ?_⟩
        have fj := (hP.1 j hj).2
        exact (hO j hj).fr f4 (fun k q => by omega) (fun k q => by omega)
      refine c26 he hA C4.1.2.2.1 (by show s.2.1.length < L0 (A + 11); omega) fun K f5 M5 => hcut ⟨k0, hs0⟩ K ((f1.mono fun a k q => by unfold eoS; omega).trans ((f4.mono fun a k q => by unfold eoS; omega).trans (f5.mono fun a k q => by unfold mkS at q; unfold eoS; omega))) (C4.mend hA f5 M5)
  refine ⟨pc.1, fun q => s32 0 ?_, fun q => s32 1 ?_⟩
  · have : (kF' g n E == 6) = false := by simpa using q
    rw [this]; rfl
  · rw [Decidable.not_not.mp q]; rfl
end
