/-! Scan.takeObject -/
def obW (A a _k : Nat) : Prop := (A ≤ a ∧ a ≤ A + 20 ∧ a ≠ A + 1) ∨ (A + 22 ≤ a ∧ a < A + 146)
section
variable {e : En} {g : Int → Int} {n : Int} {A : Nat}
theorem CS.cur2 {I I' : HI} {D : HD} {s : SC} {rs ls : RfL} (hA : isA A) (hC : CS g n A I D s rs ls) {F : Nat} (hF : D A 10 = F) (hf : Fr (fun a _ => a = F ∨ a = F + 1) I I') : CS g n A I' D s rs ls := by
  obtain ⟨⟨m1, m2, m3, m4⟩, ⟨v2, v11, v12, v13, v14⟩, hP, hO⟩ := hC
  have pc := hP.2.1
  rw [hF] at pc
  refine ⟨⟨m1.fr hf (fun a k q1 q2 q3 => by omega), m2.fr hf (fun a k q1 q2 q3 => by omega), m3.fr hf (fun a k q1 q2 q3 => by omega), m4.fr hf (fun a k q1 q2 q3 => by omega)⟩, ⟨by rw [hf _ _ (by omega)]; exact v2, by rw [hf _ _ (by omega)]; exact v11, by rw [hf _ _ (by omega)]; exact v12, by rw [hf _ _ (by omega)]; exact v13, by rw [hf _ _ (by omega)]; exact v14⟩, hP, fun i hi => ?_⟩
  have pi := hP.1 i hi
  have ni : D (A + 21) i ≠ F := by rw [← hF]; exact hP.2.2.2 i hi
  have f1 := f1K pi.1 pc.1
  exact (hO i hi).fr hf (fun k q => by omega) (fun k q => by omega)
theorem c27_tail (he : HS e) (hA : isA A) {I : HI} {D : HD} (hT : Tk g n A I D) {s : SC} {rs ls : RfL} {h : Int} (h0 : 0 ≤ h) (h1 : h ≤ n) (hk : kF' g n h = 5) (hC : CS g n A I D (s.1, s.2.1 ++ obM g n h, s.2.2) rs ls) {F : Nat} (hF : D A 10 = F)
    (w2 : I F 2 = h) (w3 : I F 3 = e3F g n h) (w6 : I F 6 = b2i (obS g n h)) (w7 : I F 7 = b2i (obS g n h && decide (0 ≤ ebL g n (obD g n h) (obL g n h)))) (w8 : obS g n h = true → I F 8 = (if 0 ≤ obY g n h then 1 else 0))
    (w9 : I F 9 = (if obS g n h = true then obD g n h else 0)) (w10 : I F 10 = (if obS g n h = true then stT g n (obD g n h) (obL g n h) else 0)) (hcd : CD g n I (F + 1) rs ls (e3F g n h))
    (hm : (s.2.1 ++ obM g n h).length + 1 < L0 (A + 11)) (hr : s.2.2.1.length < L0 (A + 15)) {Q : Int → HI → HD → Prop}
    (hQ : ∀ I' D', Fr (obW A) I I' → (∀ a k, a < A ∨ A + 21 < a → D' a k = D a k) → Tk g n A I' D' → CS g n A I' D' (obX g n h s) rs ls → Q (obN g n h) I' D') :
    RI 27 158 [vR (some A), vI h, vJ, vI (ob2 g n h), vJ] [] e I D Q := by
  have hA8 := isA8 hA
  obtain ⟨⟨b1, b2, b3, b4⟩, ⟨b5, b6⟩, ⟨b7, b8, b9⟩, b10, ⟨b11, b12, b13⟩, ⟨b14, b15, b16⟩, b17, b18, b19⟩ := ob_bd h0 h1 hk
  have hd := hd_5 h1 hk
  have pc := hC.2.2.1.2.1
  rw [hF] at pc
  refine S27_158 he hA (c27_161 he hA hT _ (ob2 g n h) 0 (by omega) b12 rfl (Int.le_refl _) (by omega) ?_)
  refine S27_198 he hA (c54 he hT.1 hT.2.1 h0 h0 h1 ?_)
  have hmi : mF g n h = ((mF g n h).toNat : Int) := by omega
  have fin : ∀ I' D', Fr (eoS A F) I I' → (∀ a k, a < A ∨ A + 21 < a → D' a k = D a k) → CS g n A I' D' (obX g n h s) rs ls →
      CI 53 [vR (some 1), vI (obE g n h)] e I' D' (fun z7 I8 D9 => ((¬ z7 = 6 → Q (obE g n h) I8 D9) ∧ (¬ (¬ z7 = 6) → CI 55 [vR (some 1), vI (obE g n h)] e I8 D9 (fun z10 I11 D12 => Q z10 I11 D12)))) := by
    intro I' D' f' d' C'
    have F' : Fr (obW A) I I' := f'.mono fun a k q => by unfold eoS at q; unfold obW; omega
    have d14 : D' 1 4 = D 1 4 := d' 1 4 (by omega)
    have T' : Tk g n A I' D' := by
      have := hT.fr F' (fun a k q => by unfold obW at q; omega)
      exact ⟨by unfold TkB at *; rw [d14]; exact this.1, this.2.1, by rw [d14]; exact this.2.2⟩
    have q := hQ I' D' F' d' T' C'
    refine c53 he T'.1 T'.2.1 (by omega) (by omega) b15 ⟨fun w => ?_, fun w => c55 he T'.1 T'.2.1 (by omega) (by omega) b15 ?_⟩
    · have e1 : obN g n h = obE g n h := if_neg w
      rw [e1] at q; exact q
    · have e1 : obN g n h = nxF g n (obE g n h) := if_pos (Decidable.not_not.mp w)
      rw [e1] at q; exact q
  rw [hmi]
  refine c32 he hA hT hC hF (E := obE g n h) (Y := obY g n h) (by omega) b15 w2 w3 w6 w7 w8 w9 w10 hcd (i := (mF g n h).toNat) (by omega) (by omega) hm hr ?_ ?_
  · intro hc I' f' C'
    refine fin I' D f' (fun _ _ _ => rfl) ?_
    have : obC g n h = true := by unfold obC; rw [hc.1, hc.2]; rfl
    unfold obX
    rw [if_pos this, hmi]
    exact C'
  · intro hc I' D' f' C' d'
    refine fin I' D' f' d' ?_
    have : ¬ obC g n h = true := fun w => hc (by unfold obC at w; simp only [Bool.and_eq_true, beq_iff_eq, Bool.not_eq_true'] at w; exact w)
    have e1 : keS (mF g n h).toNat (h, e3F g n h, obE g n h, kF' g n (obE g n h) == 6, obS g n h, obS g n h && decide (0 ≤ ebL g n (obD g n h) (obL g n h)), if obS g n h = true then obD g n h else 0, if obS g n h = true then stT g n (obD g n h) (obL g n h) else 0)
        (s.1, s.2.1 ++ obM g n h ++ (if kF' g n (obE g n h) ≠ 6 ∧ (obS g n h = false ∨ 0 ≤ obY g n h) then [(obE g n h, obE g n h, 1)] else []), s.2.2) = obX g n h s := by
      unfold obX
      rw [if_neg this]
      unfold keS
      rw [← hmi]
      rfl
    rw [e1] at C'
    exact C'
end
section
variable {e : En} {g : Int → Int} {n : Int} {A : Nat}
theorem CS.dict {I I' : HI} {D : HD} {s : SC} {rs ls rs' ls' : RfL} (hA : isA A) (hC : CS g n A I D s rs ls) {F : Nat} (hF : D A 10 = F) (hf : Fr (rdS A (F + 1)) I I') (M1 : MkL (A + 2) I' (rs ++ rs')) (M2 : MkL (A + 6) I' (ls ++ ls')) : CS g n A I' (uD D (A + 18) 3 (F + 1)) s (rs ++ rs') (ls ++ ls') := by
  obtain ⟨⟨m1, m2, m3, m4⟩, ⟨v2, v11, v12, v13, v14⟩, hP, hO⟩ := hC
  have pc := hP.2.1
  rw [hF] at pc
  have no : ∀ k, ¬ rdS A (F + 1) A k := fun k q => by unfold rdS at q; omega
  have eO : ∀ j, uD D (A + 18) 3 (F + 1) (A + 21) j = D (A + 21) j := fun j => uD_ne (by omega)
  have eC : uD D (A + 18) 3 (F + 1) A 10 = D A 10 := uD_ne (by omega)
  refine ⟨⟨M1, M2, m3.fr hf (fun a k q1 q2 q3 => by unfold rdS at q3; omega), m4.fr hf (fun a k q1 q2 q3 => by unfold rdS at q3; omega)⟩, ⟨by rw [hf _ _ (no 2)]; exact v2, by rw [hf _ _ (no 11)]; exact v11, by rw [hf _ _ (no 12)]; exact v12, by rw [hf _ _ (no 13)]; exact v13, by rw [hf _ _ (no 14)]; exact v14⟩,
    ⟨fun i hi => by rw [eO]; exact hP.1 i hi, by rw [eC]; exact hP.2.1, fun i j hi hj q => by rw [eO, eO] at q; exact hP.2.2.1 i j hi hj q, fun i hi => by rw [eO, eC]; exact hP.2.2.2 i hi⟩, fun i hi => ?_⟩
  rw [eO]
  have pi := hP.1 i hi
  have ni : D (A + 21) i ≠ F := by rw [← hF]; exact hP.2.2.2 i hi
  have f1 := f1K pi.1 pc.1
  exact ((hO i hi).fr hf (fun k q => by unfold rdS at q; omega) (fun k q => by unfold rdS at q; omega)).app
theorem c27 (he : HS e) (hA : isA A) {I : HI} {D : HD} (hT : Tk g n A I D) {s : SC} {rs ls : RfL} (hC : CS g n A I D s rs ls) (hcap : n ≤ 5 * L0 (A + 3)) (hcap8 : n ≤ 8 * L0 (A + 7)) (hcm : n + 15 ≤ 3 * L0 (A + 11)) (hcr : n < 7 * L0 (A + 15)) {h : Int} (h0 : 0 ≤ h) (h1 : h ≤ n) (hk : kF' g n h = 5) (h5 : 5 * (rs.length : Int) ≤ h) (h8 : 8 * (ls.length : Int) ≤ h) (hW : WT g n h s) {Q : Int → HI → HD → Prop}
    (hQ : ∀ I' D' rs' ls', Fr (obW A) I I' → (∀ a k, a < A ∨ A + 21 < a → D' a k = D a k) → Tk g n A I' D' → CS g n A I' D' (obX g n h s) rs' ls' → 5 * (rs'.length : Int) ≤ obN g n h → 8 * (ls'.length : Int) ≤ obN g n h → Q (obN g n h) I' D') :
    CI 27 [vR (some A), vI h] e I D Q := by
  have hA8 := isA8 hA
  obtain ⟨⟨b1, b2, b3, b4⟩, ⟨b5, b6⟩, ⟨b7, b8, b9⟩, b10, ⟨b11, b12, b13⟩, ⟨b14, b15, b16⟩, b17, b18, b19⟩ := ob_bd h0 h1 hk
  have hd := hd_5 h1 hk
  have dok := dR_ok (g := g) (n := n) (p0 := obP g n h) (by omega) b3 b4 (r0 := rs.length) (l0 := ls.length) (by omega) (by omega)
  obtain ⟨F, hF⟩ : ∃ F, D A 10 = F := ⟨_, rfl⟩
  have pc := hC.2.2.1.2.1
  rw [hF] at pc
  have fk := fK hA pc.1
  have om := obM_le (g := g) (n := n) (h := h)
  have hS7 : obS g n h = true → h + 14 ≤ n := fun w => by have := b10 w; omega
  have hm : (s.2.1 ++ obM g n h).length + 1 < L0 (A + 11) := by
    have := hW.1
    rw [List.length_append]
    cases w : obS g n h with
    | true => have := hS7 w; omega
    | false => have := om.2 w; omega
  have hr : s.2.2.1.length < L0 (A + 15) := by have := hW.2; omega
  have e1 : nxF g n (nxF g n h) = nxF g n (nxF g n h) := rfl
  refine S27 he hA (c56 he hT.1 hT.2.1 h0 h0 h1 (c51 he hT.1 hT.2.1 (x := e3F g n h) (by omega) (by omega) (by omega) ?_))
  rw [hF, hC.1.1.1.1, hC.1.2.1.1.1]
  refine ⟨pc.1, c9 he pc.1 fun I1 f1 v1 d1 df1 => ?_⟩
  have T1 := hT.fr f1 (fun a k q => by omega)
  have C1 := hC.cur2 hA hF f1
  have F1 : Fr (obW A) I I1 := f1.mono fun a k q => by unfold obW; omega
  obtain ⟨u1, u2, u3, u4, u5, u6, u7, u8, u9, u10⟩ := v1
  refine c53 he T1.1 T1.2.1 (x := obP g n h) (by omega) (by omega) b3 ⟨fun q => ?_, fun q => ?_⟩
  · have eR : dR g n (obP g n h) = (obP g n h, false, [], []) := if_neg q
    have eS : obS g n h = false := by unfold obS; rw [eR]; rfl
    have e1 : ob1 g n h = obP g n h := by unfold ob1; rw [eR]; exact b4
    have e2 : ob2 g n h = obP g n h := by unfold ob2; rw [if_neg (by rw [eS]; decide)]; exact e1
    have eM : obM g n h = [] := if_neg (by rw [eS]; decide)
    have C2 : CS g n A I1 D (s.1, s.2.1 ++ obM g n h, s.2.2) rs ls := by rw [eM, List.append_nil]; exact C1
    have hcd : CD g n I1 (F + 1) rs ls (e3F g n h) := by
      have eR' : dR g n (skp g n (e3F g n h)) = (obP g n h, false, [], []) := eR
      have q' : ¬ kF' g n (skp g n (e3F g n h)) = 9 := q
      refine ⟨rs.length, ls.length, ?_, ?_, ?_, ?_, ?_, ?_, ?_, ?_, ?_, ?_⟩
      · rw [if_neg q']; exact d1.1
      · rw [if_neg q']; exact d1.2.1
      · rw [eR']; exact d1.2.2.1
      · intro k w1 w2; rw [eR']; exact df1 k w1 w2
      · exact d1.2.2.2.1
      · rw [eR']; exact d1.2.2.2.2.1
      · exact d1.2.2.2.2.2.1
      · rw [eR']; exact d1.2.2.2.2.2.2
      · rw [eR']; exact ⟨Nat.le_refl _, fun j r w => by cases w⟩
      · rw [eR']; exact ⟨Nat.le_refl _, fun j r w => by cases w⟩
    have := c27_tail he hA T1 h0 h1 hk C2 hF u2 u3 (by rw [eS]; exact u6) (by rw [eS]; exact u7) (fun w => by rw [eS] at w; cases w) (by rw [eS]; exact u9) (by rw [eS]; exact u10) hcd hm hr (Q := Q) fun I' D' f' d' T' C' => hQ I' D' rs ls (F1.trans f') d' T' C' (by omega) (by omega)
    rw [e2] at this; exact this
  · have k9 : kF' g n (obP g n h) = 9 := Decidable.not_not.mp q
    have eR : dR g n (obP g n h) = dicN g n (enW g n (obP g n h)) 4000 (nxF g n (obP g n h)) [] [] := if_pos k9
    have nb := nxF_bd (g := g) b3
    have k9b := kF_9 k9
    have hB := Bd_en (g := g) b3 b4
    have hE := hE_en (g := g) b3 b4
    have ns : enS g n (obP g n h) = false := by unfold enS; rw [k9]; rfl
    have hP : onW g n (enS g n) (enW g n (obP g n h)) (nxF g n (obP g n h)) := ⟨⟨by omega, nb.2.1⟩, skp_skp (eF_bd (g := g) b3).2.1, (wW_go (fun w => by rcases w with w | w; rw [ns] at w; cases w; omega)).symm⟩
    rw [hF]
    refine ⟨pc.1, c4 he hA (fl := true) hB hE hcap hcap8 (kF pc.1).1 (r0 := rs) (l0 := ls) (by omega) b3 hP T1 C1.1.1 C1.1.2.1 (by omega) (by omega) fun I2 f2 ok z0 z10 z12 => ?_⟩
    rw [← eR] at ok ⊢
    obtain ⟨o1, o2, o3, o4, o5, o6, o7⟩ := ok
    have C2 := C1.dict hA hF f2 o1 o2
    have F2 : Fr (obW A) I I2 := F1.trans (f2.mono fun a k q => by unfold rdS at q; unfold obW; omega)
    have eF10 : uD D (A + 18) 3 (F + 1) A 10 = F := by rw [uD_ne (by omega)]; exact hF
    have dfr : ∀ a k, a < A ∨ A + 21 < a → uD D (A + 18) 3 (F + 1) a k = D a k := fun a k q => uD_ne (by omega)
    have T2 : Tk g n A I2 (uD D (A + 18) 3 (F + 1)) := by
      have := T1.fr f2 (fun a k q => by unfold rdS at q; omega)
      have d14 := dfr 1 4 (by omega)
      exact ⟨by unfold TkB at *; rw [d14]; exact this.1, this.2.1, by rw [d14]; exact this.2.2⟩
    generalize uD D (A + 18) 3 (F + 1) = D2 at C2 eF10 dfr T2
    have hcd : CD g n I2 (F + 1) (rs ++ (dR g n (obP g n h)).2.2.2) (ls ++ lnL g n (dR g n (obP g n h)).2.2.1) (e3F g n h) := by
      have k9' : kF' g n (skp g n (e3F g n h)) = 9 := k9
      refine ⟨rs.length, ls.length, ?_, ?_, o4, o5, z10, ?_, z12, ?_, ?_, ?_⟩
      · rw [if_pos k9']; exact z0
      · rw [if_pos k9']; exact o3
      · rw [o6, List.length_append]; rfl
      · rw [o7, List.length_append]; rfl
      · refine ⟨by rw [List.length_append]; exact Nat.le_refl _, fun j r w => ?_⟩
        rw [List.getElem?_append_right (Nat.le_add_right _ _), Nat.add_sub_cancel_left]; exact w
      · refine ⟨by rw [List.length_append]; exact Nat.le_refl _, fun j r w => ?_⟩
        rw [List.getElem?_append_right (Nat.le_add_right _ _), Nat.add_sub_cancel_left]; exact w
    have g5 : 5 * ((rs ++ (dR g n (obP g n h)).2.2.2).length : Int) ≤ obN g n h := by rw [List.length_append]; omega
    have g8 : 8 * ((ls ++ lnL g n (dR g n (obP g n h)).2.2.1).length : Int) ≤ obN g n h := by rw [List.length_append]; omega
    have frF : ∀ k, I2 F k = I1 F k := fun k => f2 _ _ (fun w => by unfold rdS at w; omega)
    refine c51 he T2.1 T2.2.1 (x := (dR g n (obP g n h)).1) (by omega) (by omega) b6 ?_
    -- no stream
    have plain : obS g n h = false → RI 27 158 [vR (some A), vI h, vJ, vI (ob1 g n h), vJ] [] e I2 D2 Q := by
      intro eS
      have e2 : ob2 g n h = ob1 g n h := if_neg (by rw [eS]; decide)
      have eM : obM g n h = [] := if_neg (by rw [eS]; decide)
      have C3 : CS g n A I2 D2 (s.1, s.2.1 ++ obM g n h, s.2.2) (rs ++ (dR g n (obP g n h)).2.2.2) (ls ++ lnL g n (dR g n (obP g n h)).2.2.1) := by rw [eM, List.append_nil]; exact C2
      have := c27_tail he hA T2 h0 h1 hk C3 eF10 (by rw [frF]; exact u2) (by rw [frF]; exact u3) (by rw [frF, eS]; exact u6) (by rw [frF, eS]; exact u7) (fun w => by rw [eS] at w; cases w) (by rw [frF, eS]; exact u9) (by rw [frF, eS]; exact u10) hcd hm hr (Q := Q)
        fun I' D' f' d' T' C' => hQ I' D' _ _ (F2.trans f') (fun a k w => by rw [d' a k w, dfr a k w]) T' C' g5 g8
      rw [e2] at this; exact this
    have s108 : obS g n h = false → RI 27 108 [vR (some A), vI h, vJ, vI (ob1 g n h), vJ] [] e I2 D2 Q := fun eS => S27_108 he hA (S27_109 he hA ⟨fun _ => plain eS, fun w => absurd rfl w⟩)
    rw [eF10]
    show (K0 F = 3) ∧ ((I2 (F + 1) 2 = 0 → RI 27 108 [vR (some A), vI h, vJ, vI (ob1 g n h), vJ] [] e I2 D2 Q) ∧ (¬ (I2 (F + 1) 2 = 0) → CI 57 [vR (some 1), vI (ob1 g n h), vS 23] e I2 D2 _))
    refine ⟨pc.1, fun w => s108 ?_, fun w => c57 he T2.1 T2.2.1 (by omega) (by omega) b8 (by omega) ⟨fun v => s108 ?_, fun v => S27_109 he hA ⟨fun y => absurd y (by decide), fun _ => ?_⟩⟩⟩
    · rw [o4] at w; unfold obS; rw [b2i_0.mp w]; rfl
    · unfold obS; rw [b2i_0.mp v]; simp
    · rw [o4] at w
      have cl := b2i_n w
      have tv := b2i_n v
      have l6 : (zstr 23).length = 6 := by decide
      have l := tx_len tv
      have eb := eF_bd (g := g) b8
      refine c52 he T2.1 T2.2.1 (by omega) (by omega) b8 (c50 he T2.1 ⟨fun y => plain ?_, fun y => c52 he T2.1 T2.2.1 (by omega) (by omega) b8 ⟨⟨by omega, by have := hT.1.2.2.1; omega⟩, ?_⟩⟩)
      · unfold obS; rw [tv, cl]; simpa using y
      · have eS : obS g n h = true := by unfold obS; rw [tv, cl]; simpa using y
        have bS := b10 eS
        have hcd0 := hcd
        have hL : I2 (F + 1) 5 = obL g n h := by
          rw [o5 5 (by omega) (by omega), dfF_base (by omega)]; rfl
        refine c29 he hA T2 C2.2.1.1 eF10 pc.1 (p := obD g n h) hL (by omega) bS.2.1 C2.1.2.2.1 (by have := hW.1; have := hS7 eS; omega) fun I3 f3 M3 ⟨x1, x2, x3, x4, x5⟩ x6 x7 x8 x9 x10 => ?_
        have T3 : Tk g n A I3 D2 := T2.fr f3 (fun a k q => by unfold stS at q; omega)
        have eM : obM g n h = stM g n (obD g n h) (obL g n h) := if_pos eS
        have C3 : CS g n A I3 D2 (s.1, s.2.1 ++ obM g n h, s.2.2) (rs ++ (dR g n (obP g n h)).2.2.2) (ls ++ lnL g n (dR g n (obP g n h)).2.2.1) := by
          obtain ⟨⟨m1, m2, m3, m4⟩, ⟨v2, v11, v12, v13, v14⟩, hP, hO⟩ := C2
          have no : ∀ k, ¬ stS A F A k := fun k q => by unfold stS at q; omega
          refine ⟨⟨m1.fr f3 (fun a k q1 q2 q3 => by unfold stS at q3; omega), m2.fr f3 (fun a k q1 q2 q3 => by unfold stS at q3; omega), by rw [eM]; exact M3, m4.fr f3 (fun a k q1 q2 q3 => by unfold stS at q3; omega)⟩, ⟨by rw [f3 _ _ (no 2)]; exact v2, by rw [f3 _ _ (no 11)]; exact v11, by rw [f3 _ _ (no 12)]; exact v12, by rw [f3 _ _ (no 13)]; exact v13, by rw [f3 _ _ (no 14)]; exact v14⟩, hP, fun i hi => ?_⟩
          have pi := hP.1 i hi
          have ni : D2 (A + 21) i ≠ F := by rw [← eF10]; exact hP.2.2.2 i hi
          have f1 := f1K pi.1 pc.1
          exact (hO i hi).fr f3 (fun k q => by unfold stS at q; omega) (fun k q => by unfold stS at q; omega)
        have F3 : Fr (obW A) I I3 := F2.trans (f3.mono fun a k q => by unfold stS at q; unfold obW; omega)
        have Yb := stE_bd (g := g) (n := n) (d := obD g n h) (l := obL g n h) (by omega) bS.2.1
        refine c51 he T3.1 T3.2.1 (x := if 0 ≤ stE g n (obD g n h) (obL g n h) then stE g n (obD g n h) (obL g n h) + 9 else n) (by split <;> omega) (by split <;> omega) (by split <;> omega) ?_
        have e2 : ob2 g n h = skp g n (if 0 ≤ stE g n (obD g n h) (obL g n h) then stE g n (obD g n h) (obL g n h) + 9 else n) := if_pos eS
        have := c27_tail he hA T3 h0 h1 hk C3 eF10 (by rw [x2, frF]; exact u2) (by rw [x3, frF]; exact u3) (by rw [x6, eS]; rfl) (by rw [x7, eS]; by_cases c : 0 ≤ ebL g n (obD g n h) (obL g n h) <;> simp [c, b2i]) (fun _ => x8) (by rw [x9, if_pos eS]) (by rw [x10, if_pos eS]) (hcd.fr f3 (fun k q => by unfold stS at q; omega)) hm hr (Q := Q)
          fun I' D' f' d' T' C' => hQ I' D' _ _ (F3.trans f') (fun a k w => by rw [d' a k w, dfr a k w]) T' C' g5 g8
        rw [e2] at this; exact this
end
