/-! Scan.takeBytes and the loop of Scan.run -/
def sc0 (g : Int → Int) (n : Int) : SC := (fun _ => none, if stF g n 0 (zstr 14) = true then [] else [(0, 0, 9)], [], 0, 0, 0)
def tbS (A a _k : Nat) : Prop := (A ≤ a ∧ a < A + 146) ∨ (1 ≤ a ∧ a ≤ 5)
section
variable {e : En} {g : Int → Int} {n : Int} {A : Nat}
theorem cnt_0 : cnt (fun _ => none) = 0 := by unfold cnt; simp
theorem c25_85 (he : HS e) (hA : isA A) {D : HD} (hP : PM A D) {Q : HI → HD → Prop} (k : Nat) : ∀ (x : Int) (I : HI), 0 ≤ x → x ≤ 61 → (61 - x).toNat = k → (∀ i, i < x.toNat → I (D (A + 21) i) 1 = 0) →
    (∀ J, Fr (fun a _ => A + 22 ≤ a ∧ a < A + 146) I J → (∀ i, i < 61 → J (D (A + 21) i) 1 = 0) → CI 58 [vR (some 1), vI 0, vS 14] e (uI (uI (uI (uI (uI J A 11 0) A 12 0) A 13 0) A 14 0) A 15 0) D (fun z1 I2 D3 => ((¬ z1 = 0 → Q I2 D3) ∧ (¬ (¬ z1 = 0) → CV 26 [vR (some A), vI 9, vI 0] e I2 D3 (fun I5 D6 => Q I5 D6))))) →
    RV 25 85 [vR (some A), vJ, vJ, vI x] [] e I D Q := by
  induction k with
  | zero =>
    intro x I h0 h1 hk hz hQ
    exact S25_85 he hA ⟨fun _ => hQ I Fr.refl (fun i hi => hz i (by omega)), fun q => by omega⟩
  | succ k ih =>
    intro x I h0 h1 hk hz hQ
    have px := hP.1 x.toNat (by omega)
    refine S25_85 he hA ⟨fun q => by omega, fun _ => ⟨⟨h0, by omega⟩, px.1, ⟨by omega, by omega⟩, ih (x + 1) _ (by omega) (by omega) (by omega) (fun i hi => ?_) (fun J f1 z1 => hQ J ((Fr.u ⟨px.2.1, by omega⟩).trans f1) z1)⟩⟩
    by_cases c : i = x.toNat
    · rw [c, uI_eq]
    · rw [uI_ne (fun q => c (hP.2.2.1 i x.toNat (by omega) (by omega) q.1))]; exact hz i (by omega)
theorem c25 (he : HS e) (hA : isA A) {I : HI} {D : HD} {q1 : Nat} (hq1 : K0 q1 = 22) (hqA : q1 ≠ A) (h0 : 0 ≤ n) (h1 : n ≤ 3000) (h2 : n ≤ L0 q1) (h3 : n ≤ L0 (A + 1)) (hb : ∀ p : Int, 0 ≤ p → p < n → I q1 p.toNat % 256 = g p) (hP : PM A D)
    {l1 l2 l3 l4 : RfL} (m1 : MkL (A + 2) I l1) (m2 : MkL (A + 6) I l2) (m3 : MkL (A + 10) I l3) (m4 : MkL (A + 14) I l4) {Q : HI → HD → Prop}
    (hQ : ∀ I', Fr (tbS A) I I' → Tk g n A I' (uD D 1 4 (A + 1)) → CS g n A I' (uD D 1 4 (A + 1)) (sc0 g n) [] [] → Q I' (uD D 1 4 (A + 1))) : CV 25 [vR (some A), vR (some q1), vI n] e I D Q := by
  have hA8 := isA8 hA
  have kk : K0 (A + 1) = 22 ∧ K0 (A + 2) = 4 ∧ K0 (A + 6) = 4 ∧ K0 (A + 10) = 4 ∧ K0 (A + 14) = 4 ∧ 0 < L0 (A + 11) := by rcases hA with rfl | rfl <;> decide
  have hz : max 0 (min n (min ((L0 q1) : Int) ((L0 (A + 1)) : Int))) = n := by omega
  refine S25 he hA hq1 ?_
  rw [hz, uI_eq]
  have F1 : Fr (fun a k => (a = A ∧ k = 2) ∨ a = A + 1) I (cI (uI I A 2 n) q1 0 (A + 1) 0 n.toNat) := by
    intro a k q
    unfold cI
    rw [if_neg (fun w => q (Or.inr w.1)), uI_ne (fun w => q (Or.inl w))]
  have c2 : (cI (uI I A 2 n) q1 0 (A + 1) 0 n.toNat) A 2 = n := by
    unfold cI
    rw [if_neg (fun w => by omega), uI_eq]
  have cb : ∀ p : Int, 0 ≤ p → p < n → (cI (uI I A 2 n) q1 0 (A + 1) 0 n.toNat) (A + 1) p.toNat % 256 = g p := by
    intro p p0 p1
    unfold cI
    rw [if_pos ⟨rfl, by omega, by omega⟩, uI_ne (fun w => hqA w.1), Nat.zero_add, Nat.sub_zero]
    exact hb p p0 p1
  refine ⟨⟨h0, h2, h3⟩, ?_⟩
  rw [c2]
  generalize cI (uI I A 2 n) q1 0 (A + 1) 0 n.toNat = J at F1 c2 cb
  refine c43 he kk.1 h0 h1 h3 cb fun I2 ft tb tt => ?_
  have F2 : Fr (fun a k => (a = A ∧ k = 2) ∨ a = A + 1 ∨ (1 ≤ a ∧ a ≤ 5)) I I2 := (F1.mono fun a k q => by omega).trans (fun a k q => by rw [ft a k (by omega), uI_ne (by omega)])
  have n2 : I2 A 2 = n := by rw [ft _ _ (by omega), uI_ne (by omega)]; exact c2
  have M1 := m1.fr F2 (fun a k q1 q2 q3 => by omega)
  have M2 := m2.fr F2 (fun a k q1 q2 q3 => by omega)
  have M3 := m3.fr F2 (fun a k q1 q2 q3 => by omega)
  have M4 := m4.fr F2 (fun a k q1 q2 q3 => by omega)
  refine c12 he kk.2.1 (m := 0) M1 (Nat.zero_le _) fun I3 f3 n1 => c12 he kk.2.2.1 (m := 0) (M2.fr f3 (fun a k q1 q2 q3 => by omega)) (Nat.zero_le _) fun I4 f4 n2' => c12 he kk.2.2.2.1 (m := 0) ((M3.fr f3 (fun a k q1 q2 q3 => by omega)).fr f4 (fun a k q1 q2 q3 => by omega)) (Nat.zero_le _) fun I5 f5 n3 =>
    c12 he kk.2.2.2.2.1 (m := 0) (((M4.fr f3 (fun a k q1 q2 q3 => by omega)).fr f4 (fun a k q1 q2 q3 => by omega)).fr f5 (fun a k q1 q2 q3 => by omega)) (Nat.zero_le _) fun I6 f6 n4 => ?_
  rw [List.take_zero] at n1 n2' n3 n4
  have F6 : Fr (fun a k => (A + 2 ≤ a ∧ a ≤ A + 17)) I2 I6 := (f3.mono fun a k q => by omega).trans ((f4.mono fun a k q => by omega).trans ((f5.mono fun a k q => by omega).trans (f6.mono fun a k q => by omega)))
  have N1 := ((n1.fr f4 (fun a k q1 q2 q3 => by omega)).fr f5 (fun a k q1 q2 q3 => by omega)).fr f6 (fun a k q1 q2 q3 => by omega)
  have N2 := (n2'.fr f5 (fun a k q1 q2 q3 => by omega)).fr f6 (fun a k q1 q2 q3 => by omega)
  have N3 := n3.fr f6 (fun a k q1 q2 q3 => by omega)
  have PD : PM A (uD D 1 4 (A + 1)) := by
    have eO : ∀ j, uD D 1 4 (A + 1) (A + 21) j = D (A + 21) j := fun j => uD_ne (by omega)
    have eC : uD D 1 4 (A + 1) A 10 = D A 10 := uD_ne (by omega)
    exact ⟨fun i hi => by rw [eO]; exact hP.1 i hi, by rw [eC]; exact hP.2.1, fun i j hi hj q => by rw [eO, eO] at q; exact hP.2.2.1 i j hi hj q, fun i hi => by rw [eO, eC]; exact hP.2.2.2 i hi⟩
  have d14 : uD D 1 4 (A + 1) 1 4 = A + 1 := uD_eq
  generalize uD D 1 4 (A + 1) = D2 at tb PD d14 hQ ⊢
  refine c25_85 he hA PD 61 0 I6 (Int.le_refl _) (by omega) rfl (fun i hi => by omega) fun J7 f7 z7 => ?_
  have F8 : Fr (fun a k => a = A ∧ 11 ≤ k ∧ k ≤ 15) J7 (uI (uI (uI (uI (uI J7 A 11 0) A 12 0) A 13 0) A 14 0) A 15 0) := by
    intro a k q
    rw [uI_ne (by omega), uI_ne (by omega), uI_ne (by omega), uI_ne (by omega), uI_ne (by omega)]
  have v11 : uI (uI (uI (uI (uI J7 A 11 0) A 12 0) A 13 0) A 14 0) A 15 0 A 11 = 0 := by rw [uI_ne (by omega), uI_ne (by omega), uI_ne (by omega), uI_ne (by omega), uI_eq]
  have v12 : uI (uI (uI (uI (uI J7 A 11 0) A 12 0) A 13 0) A 14 0) A 15 0 A 12 = 0 := by rw [uI_ne (by omega), uI_ne (by omega), uI_ne (by omega), uI_eq]
  have v13 : uI (uI (uI (uI (uI J7 A 11 0) A 12 0) A 13 0) A 14 0) A 15 0 A 13 = 0 := by rw [uI_ne (by omega), uI_ne (by omega), uI_eq]
  have v14 : uI (uI (uI (uI (uI J7 A 11 0) A 12 0) A 13 0) A 14 0) A 15 0 A 14 = 0 := by rw [uI_ne (by omega), uI_eq]
  generalize uI (uI (uI (uI (uI J7 A 11 0) A 12 0) A 13 0) A 14 0) A 15 0 = K at F8 v11 v12 v13 v14
  have F9 : Fr (fun a k => (A + 2 ≤ a ∧ a ≤ A + 17) ∨ (A + 22 ≤ a ∧ a < A + 146) ∨ (a = A ∧ 11 ≤ k ∧ k ≤ 15)) I2 K := (F6.mono fun a k q => by omega).trans ((f7.mono fun a k q => by omega).trans (F8.mono fun a k q => by omega))
  have F7 : Fr (fun a k => (A + 22 ≤ a ∧ a < A + 146) ∨ (a = A ∧ 11 ≤ k ∧ k ≤ 15)) I6 K := (f7.mono fun a k q => by omega).trans (F8.mono fun a k q => by omega)
  have TK : Tk g n A K D2 := by
    have a1 : Tk g n A I2 D2 := ⟨tb, tt, d14⟩
    exact a1.fr F9 (fun a k q => by omega)
  have FF : Fr (tbS A) I K := (F2.mono fun a k q => by unfold tbS; omega).trans (F9.mono fun a k q => by unfold tbS; omega)
  have CK : CS g n A K D2 (fun _ => none, [], [], 0, 0, 0) [] [] := by
    refine ⟨⟨N1.fr F7 (fun a k q1 q2 q3 => by omega), N2.fr F7 (fun a k q1 q2 q3 => by omega), N3.fr F7 (fun a k q1 q2 q3 => by omega), n4.fr F7 (fun a k q1 q2 q3 => by omega)⟩, ⟨by rw [F9 _ _ (by omega)]; exact n2, by rw [v11]; show (0 : Int) = ((cnt fun _ => none : Nat) : Int); rw [cnt_0]; rfl, v12, v13, v14⟩, PD, fun i hi => ?_⟩
    show K (D2 (A + 21) i) 1 = 0
    have := (PD.1 i hi).2
    rw [F8 _ _ (by omega)]; exact z7 i hi
  refine c58 he TK.1 (by omega) ⟨fun q => ?_, fun q => ?_⟩
  · have w := b2i_n q
    refine hQ K FF TK ?_
    unfold sc0; rw [if_pos w]; exact CK
  · have w := b2i_0.mp (Decidable.not_not.mp q)
    refine c26 he hA CK.1.2.2.1 (by show 0 < L0 (A + 11); exact kk.2.2.2.2.2) fun L fL ML => hQ L (FF.trans (fL.mono fun a k q => by unfold mkS at q; unfold tbS; omega)) (TK.fr fL (fun a k q => by unfold mkS at q; omega)) ?_
    unfold sc0; rw [if_neg (by rw [w]; decide)]
    exact CK.mend hA fL ML
end
section
variable {e : En} {g : Int → Int} {n : Int} {A : Nat}
theorem WT.le {p q : Int} {s : SC} (h : WT g n p s) (hpq : p ≤ q) : WT g n q s := ⟨by have := h.1; omega, by have := h.2; omega⟩
theorem WT_0 : WT g n 0 (sc0 g n) := by
  unfold WT sc0
  dsimp only
  rw [tot_0]
  split <;> simp
theorem c24_18 (he : HS e) (hA : isA A) (hcap : n ≤ 5 * L0 (A + 3)) (hcap8 : n ≤ 8 * L0 (A + 7)) (hcm : n + 15 ≤ 3 * L0 (A + 11)) (hcr : n < 7 * L0 (A + 15)) {Q : HI → HD → Prop} (k : Nat) : ∀ (p x : Int) (s : SC) (rs ls : RfL) (I : HI) (D : HD), 0 ≤ p → p ≤ n → skp g n p = p → (n - p).toNat < k → 0 ≤ x → x ≤ p →
    Tk g n A I D → CS g n A I D s rs ls → 5 * (rs.length : Int) ≤ p → 8 * (ls.length : Int) ≤ p → WT g n p s →
    (∀ I' D' rs' ls', Fr (obW A) I I' → (∀ a k, a < A ∨ A + 21 < a → D' a k = D a k) → Tk g n A I' D' → CS g n A I' D' (scN g n k p s) rs' ls' → WT g n n (scN g n k p s) → 5 * (rs'.length : Int) ≤ n → 8 * (ls'.length : Int) ≤ n → RV 24 89 [vR (some A), vJ, vJ, vJ, vJ, vJ] [] e I' D' Q) →
    RV 24 18 [vR (some A), vJ, vJ, vI p, vI x, vJ] [] e I D Q := by
  induction k with
  | zero => intro p x s rs ls I D h0 h1 hs hk; omega
  | succ k ih =>
    intro p x s rs ls I D h0 h1 hs hk hx0 hx1 hT hC h5 h8 hW hQ
    have hn := hT.1.2.2.1
    have hA8 := isA8 hA
    have nb := nxF_bd (g := g) h1
    refine S24_18 he hA ⟨fun q => by omega, fun _ => c53 he hT.1 hT.2.1 h0 h0 h1 ⟨fun q => ?_, fun q => c53 he hT.1 hT.2.1 h0 h0 h1 ⟨fun q5 => ?_, fun q5 => ?_⟩⟩⟩
    · have e1 : scN g n (k + 1) p s = s := by unfold scN; rw [if_pos q]
      rw [e1] at hQ
      exact hQ I D rs ls Fr.refl (fun _ _ _ => rfl) hT hC (hW.le h1) (by omega) (by omega)
    · have hp : p < n := by
        rcases Int.lt_or_le p n with w | w
        · exact w
        · exact absurd (kF_end w) q
      have nb3 := nb.2.2 hp
      have hsn : skp g n (nxF g n p) = nxF g n p := skp_skp (eF_bd (g := g) h1).2.1
      have go : ∀ (s' : SC) (rs' ls' : RfL) (I' : HI) (D' : HD), Fr (obW A) I I' → (∀ a k, a < A ∨ A + 21 < a → D' a k = D a k) → Tk g n A I' D' → CS g n A I' D' s' rs' ls' → 5 * (rs'.length : Int) ≤ p → 8 * (ls'.length : Int) ≤ p → WT g n p s' → scN g n (k + 1) p s = scN g n k (nxF g n p) s' → RV 24 74 [vR (some A), vJ, vJ, vI p, vI x, vJ] [] e I' D' Q := by
        intro s' rs' ls' I' D' f' d' T' C' k5 k8 W' hsc
        refine S24_74 he hA (c55 he T'.1 T'.2.1 h0 h0 h1 (S24_83 he hA ⟨⟨by omega, by omega⟩, ih (nxF g n p) (x + 1) s' rs' ls' I' D' (by omega) nb.2.1 hsn (by omega) (by omega) (by omega) T' C' (by omega) (by omega) (W'.le (by omega)) fun I'' D'' rs'' ls'' f'' d'' T'' C'' W'' r5 r8 => ?_⟩))
        exact hQ I'' D'' rs'' ls'' (f'.trans f'') (fun a k w => by rw [d'' a k w, d' a k w]) T'' (by rw [hsc]; exact C'') (by rw [hsc]; exact W'') r5 r8
      refine ⟨fun q7 => go s rs ls I D Fr.refl (fun _ _ _ => rfl) hT hC h5 h8 hW ?_, fun q7 => c34 he hA hT hC hcap hcap8 h0 h1 h5 h8 fun I' D' f' C' d' => ?_⟩
      · show (if kF' g n p = 0 then s else if kF' g n p = 5 then scN g n k (obN g n p) (obX g n p s) else if kF' g n p = 7 then scN g n k (nxF g n p) (trX g n p s) else scN g n k (nxF g n p) s) = _
        rw [if_neg q, if_neg q5, if_neg q7]
      · have d14 : D' 1 4 = D 1 4 := d' 1 4 (by omega)
        have T' : Tk g n A I' D' := by
          have := hT.fr f' (fun a k q => by unfold trS at q; omega)
          exact ⟨by unfold TkB at *; rw [d14]; exact this.1, this.2.1, by rw [d14]; exact this.2.2⟩
        refine go (trX g n p s) rs ls I' D' (f'.mono fun a k q => by unfold trS at q; unfold obW; omega) d' T' C' h5 h8 hW ?_
        show (if kF' g n p = 0 then s else if kF' g n p = 5 then scN g n k (obN g n p) (obX g n p s) else if kF' g n p = 7 then scN g n k (nxF g n p) (trX g n p s) else scN g n k (nxF g n p) s) = _
        rw [if_neg q, if_neg q5, if_pos (Decidable.not_not.mp q7)]
    · have k5 := Decidable.not_not.mp q5
      obtain ⟨⟨b1, b2, b3, b4⟩, ⟨b5, b6⟩, ⟨b7, b8, b9⟩, b10, ⟨b11, b12, b13⟩, ⟨b14, b15, b16⟩, b17, b18, b19⟩ := ob_bd h0 h1 k5
      have hsc : scN g n (k + 1) p s = scN g n k (obN g n p) (obX g n p s) := by
        show (if kF' g n p = 0 then s else if kF' g n p = 5 then scN g n k (obN g n p) (obX g n p s) else if kF' g n p = 7 then scN g n k (nxF g n p) (trX g n p s) else scN g n k (nxF g n p) s) = _
        rw [if_neg q, if_pos k5]
      refine c27 he hA hT hC hcap hcap8 hcm hcr h0 h1 k5 h5 h8 hW fun I' D' rs' ls' f' d' T' C' r5 r8 => S24_83 he hA ⟨⟨by omega, by omega⟩, ih (obN g n p) (x + 1) (obX g n p s) rs' ls' I' D' (by omega) b18 b19 (by omega) (by omega) (by omega) T' C' r5 r8 (WT_ob h0 h1 k5 hW) fun I'' D'' rs'' ls'' f'' d'' T'' C'' W'' r5 r8 => ?_⟩
      exact hQ I'' D'' rs'' ls'' (f'.trans f'') (fun a k w => by rw [d'' a k w, d' a k w]) T'' (by rw [hsc]; exact C'') (by rw [hsc]; exact W'') r5 r8
end
