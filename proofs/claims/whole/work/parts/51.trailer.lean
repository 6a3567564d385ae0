/-! Scan.takeTrailer -/
theorem dfF_base {g : Int → Int} {n : Int} {b0 k : Nat} (hk : k ≠ 8 ∧ k ≠ 9) (ps : PrL) : dfF g n b0 ps k = dfF g n 0 ps k := by
  have gen : ∀ (ps : PrL) (S S' : Nat → Int), S k = S' k → (ps.foldl (fun S pr => kpF g n b0 pr S) S) k = (ps.foldl (fun S pr => kpF g n 0 pr S) S') k := by
    intro ps
    induction ps with
    | nil => intro S S' h; exact h
    | cons pr ps ih =>
      intro S S' h
      refine ih _ _ ?_
      unfold kpF
      simp only [h]
      split
      · rfl
      · split
        · rfl
        · simp only [hk.1, hk.2, false_and, if_false]
  exact gen ps _ _ rfl
def trS (A a k : Nat) : Prop := (A + 2 ≤ a ∧ a ≤ A + 9) ∨ a = A + 18 ∨ a = A + 20 ∨ (a = A ∧ (k = 13 ∨ k = 14))
section
variable {e : En} {g : Int → Int} {n : Int} {A : Nat}
theorem c34 (he : HS e) (hA : isA A) {I : HI} {D : HD} (hT : Tk g n A I D) {s : SC} {rs ls : RfL} (hC : CS g n A I D s rs ls) (hcap : n ≤ 5 * L0 (A + 3)) (hcap8 : n ≤ 8 * L0 (A + 7)) {w : Int} (h0 : 0 ≤ w) (h1 : w ≤ n) (h5 : 5 * (rs.length : Int) ≤ w) (h8 : 8 * (ls.length : Int) ≤ w) {Q : HI → HD → Prop}
    (hQ : ∀ I' D', Fr (trS A) I I' → CS g n A I' D' (trX g n w s) rs ls → (∀ a k, a < A ∨ A + 21 < a → D' a k = D a k) → Q I' D') : CV 34 [vR (some A), vI w] e I D Q := by
  have hA8 := isA8 hA
  have nb := nxF_bd (g := g) h1
  have nb2 := nxF_bd (g := g) nb.2.1
  have kd : K0 (A + 20) = 1 := by rcases hA with rfl | rfl <;> decide
  have cp := capA hA
  obtain ⟨⟨m1, m2, m3, m4⟩, ⟨v2, v11, v12, v13, v14⟩, hP, hO⟩ := hC
  refine S34 he hA (c55 he hT.1 hT.2.1 h0 h0 h1 (c53 he hT.1 hT.2.1 (by omega) (by omega) nb.2.1 ⟨fun k9 => ?_, fun k9 => ?_⟩))
  · rw [m1.1.1, m2.1.1]
    have tp : trP g n w = (dicN g n n 4000 (nxF g n (nxF g n w)) [] []).2.2.1 := if_pos k9
    refine c4 he hA (fl := false) Bd_n hE_n hcap hcap8 kd (r0 := rs) (l0 := ls) (by omega) nb.2.1 ⟨by omega, nb2.2.1, skp_skp (eF_bd (g := g) nb.2.1).2.1⟩ hT m1 m2 (by omega) (by omega) fun I1 f1 ok _ _ _ => ?_
    obtain ⟨o1, o2, -, -, o5, -, -⟩ := ok
    refine c12 he cp.1 o1 (by rw [List.length_append]; omega) fun I2 f2 M2 => ?_
    rw [List.take_left] at M2
    refine c12 he cp.2.1 (o2.fr f2 (fun a k q1 q2 q3 => by omega)) (by rw [List.length_append]; omega) fun I3 f3 M3 => ?_
    rw [List.take_left] at M3
    have F3 : Fr (rdS A (A + 20)) I I3 := f1.trans ((f2.mono fun a k q => by unfold rdS; omega).trans (f3.mono fun a k q => by unfold rdS; omega))
    have M23 := M2.fr f3 (fun a k q1 q2 q3 => by omega)
    have x6 : I3 (A + 20) 6 = dfF g n 0 (trP g n w) 6 := by
      rw [f3 _ _ (by omega), f2 _ _ (by omega), o5 6 (by omega) (by omega), dfF_base (by omega), tp]
    have x7 : I3 (A + 20) 7 = dfF g n 0 (trP g n w) 7 := by
      rw [f3 _ _ (by omega), f2 _ _ (by omega), o5 7 (by omega) (by omega), dfF_base (by omega), tp]
    have e1 : ∀ a k, a < A ∨ A + 21 < a → uD D (A + 18) 3 (A + 20) a k = D a k := fun a k q => uD_ne (by omega)
    have eO : ∀ j, uD D (A + 18) 3 (A + 20) (A + 21) j = D (A + 21) j := fun j => uD_ne (by omega)
    have eC : uD D (A + 18) 3 (A + 20) A 10 = D A 10 := uD_ne (by omega)
    generalize uD D (A + 18) 3 (A + 20) = D' at e1 eO eC
    have fin : ∀ J : HI, Fr (fun a k => a = A ∧ (k = 13 ∨ k = 14)) I3 J → J A 13 = (trX g n w s).2.2.2.1 → J A 14 = (trX g n w s).2.2.2.2.1 → Q J D' := by
      intro J fJ j13 j14
      have FJ : Fr (trS A) I J := (F3.mono fun a k q => by unfold rdS at q; unfold trS; omega).trans (fJ.mono fun a k q => by unfold trS; omega)
      refine hQ J D' FJ ⟨⟨M23.fr fJ (fun a k q1 q2 q3 => by omega), M3.fr fJ (fun a k q1 q2 q3 => by omega), m3.fr FJ (fun a k q1 q2 q3 => by unfold trS at q3; omega), m4.fr FJ (fun a k q1 q2 q3 => by unfold trS at q3; omega)⟩, ⟨?_, ?_, ?_, j13, j14⟩, ⟨fun i hi => by rw [eO]; exact hP.1 i hi, by rw [eC]; exact hP.2.1, fun i j hi hj q => by rw [eO, eO] at q; exact hP.2.2.1 i j hi hj q, fun i hi => by rw [eO, eC]; exact hP.2.2.2 i hi⟩, fun i hi => ?_⟩ e1
      · rw [FJ _ _ (fun q => by unfold trS at q; omega)]; exact v2
      · rw [FJ _ _ (fun q => by unfold trS at q; omega)]; exact v11
      · rw [FJ _ _ (fun q => by unfold trS at q; omega)]; exact v12
      · rw [eO]
        have pi := hP.1 i hi
        exact (hO i hi).fr FJ (fun k q => by unfold trS at q; omega) (fun k q => by unfold trS at q; omega)
    have y13 : I3 A 13 = s.2.2.2.1 := by rw [F3 _ _ (fun q => by unfold rdS at q; omega)]; exact v13
    have y14 : I3 A 14 = s.2.2.2.2.1 := by rw [F3 _ _ (fun q => by unfold rdS at q; omega)]; exact v14
    have s92 : ∀ J : HI, Fr (fun a k => a = A ∧ k = 13) I3 J → J A 13 = (trX g n w s).2.2.2.1 → RV 34 92 [vR (some A), vJ, vJ, vJ, vJ] [] e J D' Q := by
      intro J fJ j13
      have j7 : J (A + 20) 7 = dfF g n 0 (trP g n w) 7 := by rw [fJ _ _ (by omega)]; exact x7
      have j14 : J A 14 = s.2.2.2.2.1 := by rw [fJ _ _ (by omega)]; exact y14
      refine S34_92 he hA ?_
      rw [j7]
      refine ⟨fun q => fin J (fJ.mono fun a k q => by omega) j13 ?_, fun q => fin _ ((fJ.mono fun a k q => by omega).trans (Fr.u ⟨rfl, Or.inr rfl⟩)) (by rw [uI_ne (by omega)]; exact j13) ?_⟩
      · rw [j14]; exact (if_neg (by omega)).symm
      · rw [uI_eq]; exact (if_pos (by omega)).symm
    rw [x6]
    refine ⟨fun q => s92 I3 Fr.refl ?_, fun q => s92 _ (Fr.u ⟨rfl, rfl⟩) ?_⟩
    · rw [y13]; exact (if_neg (by omega)).symm
    · rw [uI_eq]; exact (if_pos (by omega)).symm
  · have tp : trP g n w = [] := if_neg k9
    have e6 : dfF g n 0 [] 6 = 0 := rfl
    have e7 : dfF g n 0 [] 7 = -1 := rfl
    have : trX g n w s = s := by
      unfold trX
      rw [tp, e6, e7, if_neg (by decide), if_neg (by decide)]
    exact hQ I D Fr.refl (by rw [this]; exact ⟨⟨m1, m2, m3, m4⟩, ⟨v2, v11, v12, v13, v14⟩, hP, hO⟩) (fun _ _ _ => rfl)
end
