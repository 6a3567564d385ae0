/-! again: class and model together -/
section
variable {e : En} {g : Int → Int} {n : Int} {s : SC} {c : Int} {pg w : List Int} {m : Nat} {sc : Bool} {I : HI} {D : HD}
theorem MM.ow {I' : HI} (h : MM 0 I s) (hf : Fr owS I I') : MM 0 I' s := h.fr hf (fun a k q => by unfold owS ouS diS at q; omega)
theorem MoB.ow {I' : HI} (h : MoB g n ((0 : Nat) : Int) I) (hf : Fr owS I I') : MoB g n ((0 : Nat) : Int) I' := h.fr hf (fun q => by unfold owS ouS diS at q; omega) (fun k => ⟨fun q => by unfold owS ouS diS at q; omega, fun q => by unfold owS ouS diS at q; omega⟩)
theorem m135_33 (he : HS e) {I0 : HI} (hM : MoB g n ((0 : Nat) : Int) I0) (hS : MM 0 I0 s) (hok : OKS g n s.1) (hc : I0 330 0 = c) (hc60 : c ≤ 60) {Q : Int → HI → HD → Prop} (k : Nat) : ∀ (i : Nat) (I : HI), i ≤ 60 → 60 - i = k → Fr owS I0 I → OW I (wrN g n s.1 i) →
    (∀ I', Fr owS I0 I' → OW I' (wrA g n s.1 c) → RI 135 112 [vR (some 312), vJ] [] e I' D Q) → RI 135 33 [vR (some 312), vI ((i + 1 : Nat) : Int)] [] e I D Q := by
  induction k with
  | zero =>
    intro i I hi hk f hW hQ
    have : i = 60 := by omega
    subst this
    have g30 : ∀ J, Fr owS I0 J → J 330 0 = c := fun J fJ => by rw [fJ _ _ (fun q => by unfold owS ouS diS at q; omega)]; exact hc
    refine S135_33 he ⟨fun _ => ?_, fun q => by omega⟩
    rw [g30 I f]
    refine ⟨fun q => hQ I f ?_, fun q => ?_⟩
    · unfold wrA; rw [if_neg (by omega), List.append_nil]; exact hW
    · have e8 : txL 8 = ([116, 114, 97, 105, 108, 101] : List Nat).map (fun (c : Nat) => (c : Int)) ++ ([114, 32, 60, 60, 32, 47] : List Nat).map (fun (c : Nat) => (c : Int)) ++ ([82, 111, 111, 116, 32] : List Nat).map (fun (c : Nat) => (c : Int)) := by decide
      have e9 : txL 9 = ([32, 48, 32, 82, 32, 62, 62] : List Nat).map (fun (c : Nat) => (c : Int)) ++ [10] := by decide
      refine m131 he [116, 114, 97, 105, 108, 101] (by decide) (by decide) (by decide) hW fun I1 f1 M1 => m131 he [114, 32, 60, 60, 32, 47] (by decide) (by decide) (by decide) M1 fun I2 f2 M2 => m131 he [82, 111, 111, 116, 32] (by decide) (by decide) (by decide) M2 fun I3 f3 M3 => ?_
      have F3 : Fr owS I0 I3 := f.trans ((f1.trans (f2.trans f3)).mono fun a k q => Or.inl q)
      rw [g30 I3 F3]
      refine m132 he (by omega) (by omega) M3 fun I4 f4 M4 => m131 he [32, 48, 32, 82, 32, 62, 62] (by decide) (by decide) (by decide) M4 fun I5 f5 M5 => m130 he M5 fun I6 f6 M6 => hQ I6 (F3.trans ((f4.trans (f5.trans f6)).mono fun a k q => Or.inl q)) ?_
      unfold wrA
      rw [if_pos (by omega), e8, e9]
      simp only [List.append_assoc] at M6 ⊢
      exact M6
  | succ k ih =>
    intro i I hi hk f hW hQ
    have hMI := hM.ow f
    have hSI := hS.ow f
    have mo := hSI.1 (i + 1) (by omega) (by omega)
    rw [Nat.mul_zero, Nat.zero_add] at mo
    have go : ∀ I', Fr owS I0 I' → OW I' (wrN g n s.1 (i + 1)) → RI 135 53 [vR (some 312), vI ((i + 1 : Nat) : Int)] [] e I' D Q := fun I' f' M' =>
      S135_53 he ⟨⟨by omega, by omega⟩, ih (i + 1) I' (by omega) (by omega) f' M' hQ⟩
    have es : wrN g n s.1 (i + 1) = wrN g n s.1 i ++ (match s.1 (i + 1) with | some f => wrO g n s.1 (i + 1) f | none => []) := rfl
    refine S135_33 he ⟨fun q => by omega, fun _ => ?_⟩
    rw [Int.toNat_natCast]
    cases hf : s.1 (i + 1) with
    | none =>
      rw [hf] at mo es
      have mo : I 316 (i + 1) = 0 := mo
      rw [mo]
      exact ⟨⟨by omega, by omega⟩, fun _ => go I f (by rw [es, List.append_nil]; exact hW), fun q => absurd rfl q⟩
    | some f' =>
      rw [hf] at mo es
      rw [mo.1]
      refine ⟨⟨by omega, by omega⟩, fun q => absurd q (by decide), fun _ => m134 he hMI hSI hf (hok _ _ hf) hW fun I1 f1 M1 => go I1 (f.trans f1) (by rw [es]; exact M1)⟩
theorem m135_129 (he : HS e) {W : Nat} (hW : W ≤ 3000) {Q : Int → HI → HD → Prop} (k : Nat) : ∀ (i : Nat) (I : HI), i ≤ W → W - i = k → I 312 54 = (W : Int) → (∀ j, j < i → I 315 (3000 + j) = I 340 j) →
    (∀ J, Fr (fun a k => a = 315 ∧ 3000 ≤ k) I J → (∀ j, j < W → J 315 (3000 + j) = J 340 j) → CV 117 [vR (some 312)] e J D (fun I2 D3 => Q (I2 323 1) I2 D3)) → RI 135 129 [vR (some 312), vI (i : Int)] [] e I D Q := by
  induction k with
  | zero =>
    intro i I hi hk h1 hz hQ
    refine S135_129 he ?_
    rw [h1]
    exact ⟨fun _ => hQ I Fr.refl (fun j hj => hz j (by omega)), fun q => by omega⟩
  | succ k ih =>
    intro i I hi hk h1 hz hQ
    have ix : ((3000 : Int) + (i : Int)).toNat = 3000 + i := by omega
    refine S135_129 he ?_
    rw [h1, Int.toNat_natCast, ix]
    refine ⟨fun q => by omega, fun _ => ⟨⟨by omega, by omega⟩, ⟨by omega, by omega⟩, ⟨by omega, by omega⟩, ⟨by omega, by omega⟩, ih (i + 1) _ (by omega) (by omega) (by rw [uI_ne (by omega)]; exact h1) (fun j hj => ?_) fun J f1 z1 => hQ J ((Fr.u (S := fun a k => a = 315 ∧ 3000 ≤ k) ⟨rfl, by omega⟩).trans f1) z1⟩⟩
    by_cases cj : j = i
    · rw [cj, uI_eq, uI_ne (by omega)]
    · rw [uI_ne (by omega), uI_ne (by omega)]; exact hz j (by omega)
theorem Lagain (he : HS e) (hI : INV g n s c pg w m sc I D) {Q : Int → Int → HI → HD → Prop} (hQ : ∀ w' v I' D', INV g n s c pg w' m sc I' D' → Q v v I' D') :
    CI 82 [vR (some 0)] e I D (fun z155 I156 D157 => CI 135 [vR (some 312)] e I156 D157 (fun z158 I159 D160 => Q z155 z158 I159 D160)) := by
  obtain ⟨⟨a1, a2, a3, a4⟩, ⟨b1, b2, b3, ⟨b4, b5, b6⟩, b7, b8⟩, hok, hc60, hlen, hsc0, hsc1⟩ := id hI
  obtain ⟨rs, ls, hC, -, -, -, hn, -⟩ := id a2
  refine S82 he ?_
  rw [hC.2.1.1]
  cases hsc : sc with
  | false =>
    rw [hsc] at hsc0 b3
    have h0 := hsc0 rfl
    refine ⟨fun q => absurd h0.1 q, fun _ => S135 he ⟨fun q => absurd b3 q, fun _ => hQ w 0 _ D ?_⟩⟩
    have F : Fr (fun a k => a = 312 ∧ (k = 0 ∨ k = 4 ∨ k = 54)) I (uI (uI (uI I 312 0 0) 312 4 0) 312 54 0) := by
      intro a k q
      rw [uI_ne (by omega), uI_ne (by omega), uI_ne (by omega)]
    refine ⟨⟨by rw [F _ _ (by omega)]; exact a1, a2.fr F (fun a k q => by omega), a3.fr F (fun a k q => by omega) (fun _ _ _ _ => rfl), a4.fr F (fun a k q => by omega)⟩, ⟨by rw [F _ _ (by omega)]; exact b1, fun i hi => by rw [F _ _ (by omega), F _ _ (by omega)]; exact b2 i hi, by rw [F _ _ (by omega), hsc]; exact b3, ⟨by rw [F _ _ (by omega)]; exact b4, b5, fun p p0 p1 => by rw [F _ _ (by omega)]; exact b6 p p0 p1⟩, b7.fr F (fun a k q => by omega), ?_⟩, hok, hc60, hlen, (fun _ => h0), (fun q => by rw [hsc] at q; cases q)⟩
    rw [h0.2.1]
    exact ⟨uI_eq, fun i x hi hx => by cases hx⟩
  | true =>
    have hn1 := hsc1 hsc
    rw [hsc] at b3
    refine ⟨fun _ => c61 he (Or.inl rfl) a2 hok hc60 fun I2 f2 M2 => ?_, fun q => by omega⟩
    -- the bytes that were written
    have nW : (min (wrA g n s.1 c).length 3000 : Nat) ≤ 3000 := Nat.min_le_right _ _
    rw [M2.1]
    have hby : ∀ p : Int, 0 ≤ p → p < ((min (wrA g n s.1 c).length 3000 : Nat) : Int) → I2 311 p.toNat % 256 = ((wrA g n s.1 c)[p.toNat]?).getD 0 := fun p p0 p1 => by
      have hl : p.toNat < (wrA g n s.1 c).length := by omega
      have hr := List.getElem?_eq_getElem hl
      rw [M2.2 p.toNat _ (by omega) hr, hr]; rfl
    have rng : ∀ p : Int, 0 ≤ p → p < ((min (wrA g n s.1 c).length 3000 : Nat) : Int) → 0 ≤ ((wrA g n s.1 c)[p.toNat]?).getD 0 ∧ ((wrA g n s.1 c)[p.toNat]?).getD 0 ≤ 255 := fun p p0 p1 => by
      rw [← hby p p0 p1]; omega
    have L3 : L0 311 = 3000 ∧ L0 (159 + 1) = 3000 := by decide
    have as2 := a3.fr f2 (fun a k q => by unfold wmS at q; omega) (fun _ _ _ _ => rfl)
    obtain ⟨pm, l1, l2, l3, l4, m1, m2, m3, m4⟩ := as2
    refine c24 he (g := fun p => ((wrA g n s.1 c)[p.toNat]?).getD 0) (n := ((min (wrA g n s.1 c).length 3000 : Nat) : Int)) (Or.inr rfl) (by decide) (by decide) (by omega) (by omega) (by omega) hby pm m1 m2 m3 m4 fun I3 D3 f3 d3 R3 W3 => ?_
    obtain ⟨rs3, ls3, hC3, -⟩ := id R3
    have z3 : I3 169 3 = ((scR (fun p => ((wrA g n s.1 c)[p.toNat]?).getD 0) ((min (wrA g n s.1 c).length 3000 : Nat) : Int)).2.1.length : Int) := hC3.1.2.2.1.1.1
    rw [z3]
    have F3 : Fr (fun a k => (a = 310 ∧ k = 1) ∨ a = 311 ∨ (159 ≤ a ∧ a < 310) ∨ (1 ≤ a ∧ a ≤ 5)) I I3 := (f2.mono fun a k q => by unfold wmS at q; omega).trans (f3.mono fun a k q => by unfold rnS at q; omega)
    have b33 : I3 312 3 = 1 := by rw [F3 _ _ (by omega)]; exact b3
    refine S135 he ⟨fun _ => ?_, fun q => absurd b33 (fun w => by have := Decidable.not_not.mp q; omega)⟩
    -- the model writes
    have F4 : Fr (fun a k => a = 312 ∧ (k = 0 ∨ k = 4 ∨ k = 54)) I3 (uI (uI (uI I3 312 0 0) 312 4 0) 312 54 0) := by
      intro a k q
      rw [uI_ne (by omega), uI_ne (by omega), uI_ne (by omega)]
    have v4 : (uI (uI (uI I3 312 0 0) 312 4 0) 312 54 0) 312 4 = 0 := by rw [uI_ne (by omega), uI_eq]
    have W4 : OW (uI (uI (uI I3 312 0 0) 312 4 0) 312 54 0) [] := ⟨uI_eq, fun i x hi hx => by cases hx⟩
    generalize (uI (uI (uI I3 312 0 0) 312 4 0) 312 54 0) = J at F4 v4 W4
    have FJ : Fr (fun a k => (a = 310 ∧ k = 1) ∨ a = 311 ∨ (159 ≤ a ∧ a < 310) ∨ (1 ≤ a ∧ a ≤ 5) ∨ (a = 312 ∧ (k = 0 ∨ k = 4 ∨ k = 54))) I J := (F3.mono fun a k q => by omega).trans (F4.mono fun a k q => by omega)
    have hMJ : MoB g n ((0 : Nat) : Int) J := by
      refine ⟨v4, Or.inl rfl, by rw [Int.toNat_natCast, FJ _ _ (by omega)]; exact b4, hn.1, b5, fun p p0 p1 => ?_⟩
      have : ((3000 : Int) * ((0 : Nat) : Int) + p).toNat = p.toNat := by omega
      rw [this, FJ _ _ (by omega)]; exact b6 p p0 p1
    have SJ := b7.fr FJ (fun a k q => by omega)
    refine m131 he [37, 80, 10] (by decide) (by decide) (by decide) W4 fun I5 f5 M5 => ?_
    have M5 : OW I5 (wrN g n s.1 0) := by
      have e0 : wrN g n s.1 0 = [] ++ ([37, 80, 10] : List Nat).map (fun (c : Nat) => (c : Int)) := by show txL 0 = _; decide
      rw [e0]; exact M5
    refine m135_33 he hMJ SJ.1 hok SJ.2.1 hc60 60 0 I5 (by omega) rfl (f5.mono fun a k q => Or.inl q) M5 fun I6 f6 M6 => S135_112 he ?_
    rw [M6.1]
    have F7 : Fr (fun a k => (a = 312 ∧ k = 4) ∨ (a = 314 ∧ k = 1)) I6 (uI (uI I6 312 4 1) 314 1 ((min (wrA g n s.1 c).length 3000 : Nat) : Int)) := (Fr.u (S := fun a k => (a = 312 ∧ k = 4) ∨ (a = 314 ∧ k = 1)) (Or.inl ⟨rfl, rfl⟩)).trans (Fr.u (Or.inr ⟨rfl, rfl⟩))
    have u4 : (uI (uI I6 312 4 1) 314 1 ((min (wrA g n s.1 c).length 3000 : Nat) : Int)) 312 4 = 1 := by rw [uI_ne (by omega), uI_eq]
    have u14 : (uI (uI I6 312 4 1) 314 1 ((min (wrA g n s.1 c).length 3000 : Nat) : Int)) 314 1 = ((min (wrA g n s.1 c).length 3000 : Nat) : Int) := uI_eq
    generalize (uI (uI I6 312 4 1) 314 1 ((min (wrA g n s.1 c).length 3000 : Nat) : Int)) = K at F7 u4 u14
    have MK : OW K (wrA g n s.1 c) := M6.fr F7 (fun a k q => by omega)
    refine m135_129 he nW _ 0 K (Nat.zero_le _) rfl MK.1 (fun j hj => by omega) fun L f8 z8 => ?_
    have ML : OW L (wrA g n s.1 c) := MK.fr f8 (fun a k q => by omega)
    have FL : Fr (fun a k => (a = 312 ∧ k ≠ 1 ∧ k ≠ 3 ∧ k ≠ 17) ∨ (333 ≤ a ∧ a ≤ 340) ∨ (a = 314 ∧ k = 1) ∨ (a = 315 ∧ 3000 ≤ k)) J L := (f6.mono fun a k q => by unfold owS ouS diS at q; omega).trans ((F7.mono fun a k q => by omega).trans (f8.mono fun a k q => by omega))
    have hML : MoB (fun p => ((wrA g n s.1 c)[p.toNat]?).getD 0) ((min (wrA g n s.1 c).length 3000 : Nat) : Int) ((1 : Nat) : Int) L := by
      refine ⟨by rw [f8 _ _ (by omega)]; exact u4, Or.inr rfl, by rw [Int.toNat_natCast, f8 _ _ (by omega)]; exact u14, by omega, by omega, fun p p0 p1 => ?_⟩
      have ix : ((3000 : Int) * ((1 : Nat) : Int) + p).toNat = 3000 + p.toNat := by omega
      have hl : p.toNat < (wrA g n s.1 c).length := by omega
      have hr := List.getElem?_eq_getElem hl
      rw [ix, z8 p.toNat (by omega), ML.2 p.toNat _ (by omega) hr]
      refine ⟨by dsimp only; rw [hr]; rfl, rng p p0 p1⟩
    refine m117 he hML (fun q => absurd q (by decide)) fun P f9 S9 => ?_
    have z9 : P 323 1 = ((scR (fun p => ((wrA g n s.1 c)[p.toNat]?).getD 0) ((min (wrA g n s.1 c).length 3000 : Nat) : Int)).2.1.length : Int) := S9.1.2.1.1
    rw [z9]
    have FP : Fr (fun a k => a = 310 ∨ a = 311 ∨ (159 ≤ a ∧ a < 310) ∨ (1 ≤ a ∧ a ≤ 5) ∨ (a = 312 ∧ k ≠ 1 ∧ k ≠ 3) ∨ (316 ≤ a ∧ a ≤ 340) ∨ (a = 314 ∧ k = 1) ∨ (a = 315 ∧ 3000 ≤ k)) I P := (FJ.mono fun a k q => by omega).trans ((FL.mono fun a k q => by omega).trans (f9.mono fun a k q => by unfold maS mgS at q; omega))
    have nP : ∀ a k, ((a = 0 ∨ a = 7 ∨ a = 313) ∨ (a = 312 ∧ (k = 1 ∨ k = 3)) ∨ (a = 314 ∧ k = 0) ∨ (a = 315 ∧ k < 3000)) → P a k = I a k := fun a k q => FP _ _ (fun w => by omega)
    refine hQ (wrA g n s.1 c) _ P D3 ⟨⟨by rw [nP _ _ (by omega)]; exact a1, ?_, ?_, ?_⟩, ⟨by rw [nP _ _ (by omega)]; exact b1, fun i hi => by rw [nP _ _ (by omega), nP _ _ (by omega)]; exact b2 i hi, by rw [nP _ _ (by omega), hsc]; exact b3, ⟨by rw [nP _ _ (by omega)]; exact b4, b5, fun p p0 p1 => by rw [nP _ _ (by omega)]; exact b6 p p0 p1⟩, ?_, ?_⟩, hok, hc60, hlen, (fun q => by rw [hsc] at q; cases q), fun _ => hn1⟩
    · -- the class's latest scan
      have R8 := a2.fr FP (fun a k q => by omega)
      obtain ⟨r8, l8, c8, t8⟩ := R8
      refine ⟨r8, l8, ⟨c8.1, c8.2.1, ?_, ?_⟩, t8⟩
      · have eO : ∀ j, D3 (8 + 21) j = D (8 + 21) j := fun j => d3 _ _ (by omega) (by omega)
        have eC : D3 8 10 = D 8 10 := d3 _ _ (by omega) (by omega)
        obtain ⟨p1, p2, p3, p4⟩ := c8.2.2.1
        exact ⟨fun i hi => by rw [eO]; exact p1 i hi, by rw [eC]; exact p2, fun i j hi hj q => by rw [eO, eO] at q; exact p3 i j hi hj q, fun i hi => by rw [eO, eC]; exact p4 i hi⟩
      · intro i hi
        have eO : D3 (8 + 21) i = D (8 + 21) i := d3 _ _ (by omega) (by omega)
        rw [eO]; exact c8.2.2.2 i hi
    · -- the one aside
      have fr3 : Fr (fun a k => (a = 312) ∨ 314 ≤ a) I3 P := (F4.mono fun a k q => by omega).trans ((FL.mono fun a k q => by omega).trans (f9.mono fun a k q => by unfold maS mgS at q; omega))
      have c3 := hC3.out fr3 (fun a k q1 q2 q => by omega)
      exact ⟨c3.2.2.1, rs3, ls3, _, _, c3.1.1, c3.1.2.1, c3.1.2.2.1, c3.1.2.2.2⟩
    · have fr3 : Fr (fun a k => a ≠ 310 ∧ a ≠ 311) I2 P := (f3.mono fun a k q => by unfold rnS at q; omega).trans ((F4.mono fun a k q => by omega).trans ((FL.mono fun a k q => by omega).trans (f9.mono fun a k q => by unfold maS mgS at q; omega)))
      exact M2.fr fr3 (fun a k q => q)
    · -- the model's side 0
      have SL := SJ.fr FL (fun a k q => by omega)
      obtain ⟨⟨h1, h2, h3, h4, h5, h6⟩, h7, h8⟩ := SL
      have n9 : ∀ a k, ¬ maS 1 a k → P a k = L a k := fun a k q => f9 a k q
      refine ⟨⟨fun i i1 i2 => (h1 i i1 i2).fr f9 (fun a q1 q2 q => by unfold maS mgS at q; omega), h2.fr f9 (fun q => by unfold maS mgS at q; omega) (fun k k1 k2 => ⟨fun q => by unfold maS mgS at q; omega, fun q => by unfold maS mgS at q; omega⟩), fun hd0 => (h3 hd0).fr f9 (fun q => by unfold maS mgS at q; omega) (fun k q => by unfold maS mgS at q; omega), by rw [n9 _ _ (fun q => by unfold maS mgS at q; omega)]; exact h4, by rw [n9 _ _ (fun q => by unfold maS mgS at q; omega)]; exact h5, by rw [n9 _ _ (fun q => by unfold maS mgS at q; omega)]; exact h6⟩, by rw [n9 _ _ (fun q => by unfold maS mgS at q; omega)]; exact h7, ?_⟩
      have p61 := (show pg.length ≤ 61 from by obtain ⟨_, _, _, _, _, h, _⟩ := a2; exact h)
      refine ⟨by rw [n9 _ _ (fun q => by unfold maS mgS at q; omega)]; exact h8.1, fun i x hx => ?_⟩
      have := (List.getElem?_eq_some_iff.mp hx).1
      rw [n9 _ _ (fun q => by unfold maS mgS at q; omega)]; exact h8.2 i x hx
    · exact ML.fr f9 (fun a k q => by unfold maS mgS at q; omega)
end
