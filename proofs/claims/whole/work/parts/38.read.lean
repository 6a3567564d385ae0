/-! DictionaryReader.read -/
def kpS (A d a k : Nat) : Prop := (A + 6 ≤ a ∧ a ≤ A + 9) ∨ (a = d ∧ 3 ≤ k ∧ k ≤ 9)
def lpS (A d a k : Nat) : Prop := (A + 2 ≤ a ∧ a ≤ A + 9) ∨ (a = d ∧ k ≠ 0 ∧ k ≠ 10 ∧ k ≠ 12)
theorem k39 {Pk : Nat → Prop} (h3 : Pk 3) (h4 : Pk 4) (h5 : Pk 5) (h6 : Pk 6) (h7 : Pk 7) (h8 : Pk 8) (h9 : Pk 9) : ∀ k, 3 ≤ k → k ≤ 9 → Pk k := by
  intro k a b
  have : k = 3 ∨ k = 4 ∨ k = 5 ∨ k = 6 ∨ k = 7 ∨ k = 8 ∨ k = 9 := by omega
  rcases this with rfl | rfl | rfl | rfl | rfl | rfl | rfl <;> assumption
section
variable {e : En} {g : Int → Int} {n lim : Int} {A : Nat}
theorem c1 (he : HS e) {I : HI} {D : HD} {d : Nat} (hd : K0 d = 1) {a b c : Int} {Q : HI → HD → Prop}
    (hQ : ∀ I', Fr (fun x _ => x = d) I I' → (I' d 0 = a ∧ I' d 1 = a ∧ I' d 2 = 0 ∧ I' d 10 = b ∧ I' d 11 = b ∧ I' d 12 = c ∧ I' d 13 = c) → (∀ k, 3 ≤ k → k ≤ 9 → I' d k = df0 k) → Q I' D) : CV 1 [vR (some d), vI a, vI b, vI c] e I D Q := by
  refine S1 he hd (hQ _ (fun x k q => ?_) ⟨?_, ?_, ?_, ?_, ?_, ?_, ?_⟩ (k39 ?_ ?_ ?_ ?_ ?_ ?_ ?_))
  · have : x ≠ d := q
    simp [uI, this]
  all_goals simp [uI, df0]
theorem c2 (he : HS e) {I : HI} {D : HD} {d : Nat} (hd : K0 d = 1) {a b c : Int} {Q : HI → HD → Prop}
    (hQ : ∀ I', Fr (fun x k => x = d ∧ (k = 1 ∨ k = 11 ∨ k = 13)) I I' → (I' d 1 = a ∧ I' d 11 = b ∧ I' d 13 = c) → Q I' D) : CV 2 [vR (some d), vI a, vI b, vI c] e I D Q := by
  refine S2 he hd (hQ _ (fun x k q => ?_) ⟨?_, ?_, ?_⟩)
  · rw [uI_ne (fun w => q ⟨w.1, by omega⟩), uI_ne (fun w => q ⟨w.1, by omega⟩), uI_ne (fun w => q ⟨w.1, by omega⟩)]
  all_goals simp [uI]
theorem c7 (he : HS e) (hA : isA A) {I : HI} {D : HD} (hT : Tk g n A I D) {d : Nat} (hD : D (A + 18) 3 = d) (hd : K0 d = 1) {nm vl bh : Int} (hn0 : 0 ≤ nm) (hn1 : nm ≤ n) (hv0 : 0 ≤ vl) (hv1 : vl ≤ n) {b0 fr tr : Nat} (hM : I (A + 2) 3 = ((b0 + tr : Nat) : Int))
    {ls : RfL} (hL : MkL (A + 6) I ls) (hc : n ≤ 8 * L0 (A + 7)) (h8 : 8 * (ls.length : Int) ≤ nm) {Q : HI → HD → Prop}
    (hQ : ∀ I', Fr (kpS A d) I I' → (∀ k, 3 ≤ k → k ≤ 9 → I' d k = kpF g n b0 (nm, vl, bh, fr, tr) (I d) k) → MkL (A + 6) I' (ls ++ lnL g n [(nm, vl, bh, fr, tr)]) → Q I' D) :
    CV 7 [vR (some (A + 18)), vI nm, vI vl, vI bh, vI ((b0 + fr : Nat) : Int)] e I D Q := by
  have dk := dK hA hd
  have hA8 := isA8 hA
  have fin1 : tx g n nm 20 = false → ∀ (j : Nat) (y : Int), 3 ≤ j → j ≤ 9 → (∀ k, 3 ≤ k → k ≤ 9 → (if k = j then y else I d k) = kpF g n b0 (nm, vl, bh, fr, tr) (I d) k) → Q (uI I d j y) D := by
    intro t20 j y h3 h9 hk
    refine hQ _ (Fr.u (Or.inr ⟨rfl, h3, h9⟩)) (fun k a b => ?_) ?_
    · rw [← hk k a b]
      by_cases q : k = j
      · rw [q, uI_eq, if_pos rfl]
      · rw [uI_ne (by omega), if_neg q]
    · have : lnL g n [(nm, vl, bh, fr, tr)] = [] := by simp [lnL, t20]
      rw [this, List.append_nil]
      exact hL.fr (S := fun a _ => a = d) (Fr.u rfl) (fun a k q1 q2 => by omega)
  have s17 : ∀ y0 : Int, (y0 = 0 ↔ kF' g n vl ≠ 4) → RV 7 17 [vR (some (A + 18)), vI nm, vI vl, vI bh, vI ((b0 + fr : Nat) : Int), vJ, vJ, vJ, vJ, vJ] [vI y0] e I D Q := by
    intro y0 hy
    refine S7_17 he hA (c54 he hT.1 hT.2.1 hv0 hv0 hv1 (c57 he hT.1 hT.2.1 hn0 hn0 hn1 (by decide) ⟨fun z15 => ?_, fun z15 => ?_⟩))
    · have t15 := b2i_0.mp z15
      refine c57 he hT.1 hT.2.1 hn0 hn0 hn1 (by decide) ⟨fun z17 => ?_, fun z17 => ?_⟩
      · have t17 := b2i_0.mp z17
        refine c57 he hT.1 hT.2.1 hn0 hn0 hn1 (by decide) ⟨fun z19 => ?_, fun z19 => ?_⟩
        · have t19 := b2i_0.mp z19
          refine c57 he hT.1 hT.2.1 hn0 hn0 hn1 (by decide) ⟨fun z20 => ?_, fun z20 => ?_⟩
          · have t20 := b2i_0.mp z20
            refine c57 he hT.1 hT.2.1 hn0 hn0 hn1 (by decide) ⟨fun z21 => ?_, fun z21 => ?_⟩
            · have t21 := b2i_0.mp z21
              refine c57 he hT.1 hT.2.1 hn0 hn0 hn1 (by decide) ⟨fun z22 => ?_, fun z22 => ?_⟩
              · have t22 := b2i_0.mp z22
                have := fin1 t20 3 (I d 3) (by omega) (by omega) (k39 (by simp [kpF, t15, t17, t19, t20, t21, t22]) (by simp [kpF, t15, t17, t19, t20, t21, t22]) (by simp [kpF, t15, t17, t19, t20, t21, t22]) (by simp [kpF, t15, t17, t19, t20, t21, t22]) (by simp [kpF, t15, t17, t19, t20, t21, t22]) (by simp [kpF, t15, t17, t19, t20, t21, t22]) (by simp [kpF, t15, t17, t19, t20, t21, t22]))
                rw [uI_self rfl] at this; exact this
              · have t22 := b2i_n z22
                rw [hD]
                refine ⟨fun w => ⟨hd, ?_⟩, fun w => ⟨hd, ?_⟩⟩
                · have w := hy.mp w
                  exact fin1 t20 7 _ (by omega) (by omega) (k39 (by simp [kpF, t15, t17, t19, t20, t21, t22, w]) (by simp [kpF, t15, t17, t19, t20, t21, t22, w]) (by simp [kpF, t15, t17, t19, t20, t21, t22, w]) (by simp [kpF, t15, t17, t19, t20, t21, t22, w]) (by simp [kpF, t15, t17, t19, t20, t21, t22, w]) (by simp [kpF, t15, t17, t19, t20, t21, t22, w]) (by simp [kpF, t15, t17, t19, t20, t21, t22, w]))
                · have w : kF' g n vl = 4 := Decidable.not_not.mp fun u => w (hy.mpr u)
                  exact fin1 t20 7 _ (by omega) (by omega) (k39 (by simp [kpF, t15, t17, t19, t20, t21, t22, w]) (by simp [kpF, t15, t17, t19, t20, t21, t22, w]) (by simp [kpF, t15, t17, t19, t20, t21, t22, w]) (by simp [kpF, t15, t17, t19, t20, t21, t22, w]) (by simp [kpF, t15, t17, t19, t20, t21, t22, w]) (by simp [kpF, t15, t17, t19, t20, t21, t22, w]) (by simp [kpF, t15, t17, t19, t20, t21, t22, w]))
            · have t21 := b2i_n z21
              have t22 : tx g n nm 22 = false := tx_no t21 (by decide)
              rw [hD]
              refine ⟨fun w => S7_261 he hd ?_, fun w => S7_261 he hd ?_⟩
              · have w := hy.mp w
                exact fin1 t20 6 _ (by omega) (by omega) (k39 (by simp [kpF, t15, t17, t19, t20, t21, t22, w]) (by simp [kpF, t15, t17, t19, t20, t21, t22, w]) (by simp [kpF, t15, t17, t19, t20, t21, t22, w]) (by simp [kpF, t15, t17, t19, t20, t21, t22, w]) (by simp [kpF, t15, t17, t19, t20, t21, t22, w]) (by simp [kpF, t15, t17, t19, t20, t21, t22, w]) (by simp [kpF, t15, t17, t19, t20, t21, t22, w]))
              · have w : kF' g n vl = 4 := Decidable.not_not.mp fun u => w (hy.mpr u)
                exact fin1 t20 6 _ (by omega) (by omega) (k39 (by simp [kpF, t15, t17, t19, t20, t21, t22, w]) (by simp [kpF, t15, t17, t19, t20, t21, t22, w]) (by simp [kpF, t15, t17, t19, t20, t21, t22, w]) (by simp [kpF, t15, t17, t19, t20, t21, t22, w]) (by simp [kpF, t15, t17, t19, t20, t21, t22, w]) (by simp [kpF, t15, t17, t19, t20, t21, t22, w]) (by simp [kpF, t15, t17, t19, t20, t21, t22, w]))
          · have t20 := b2i_n z20
            have t21 : tx g n nm 21 = false := tx_no t20 (by decide)
            have t22 : tx g n nm 22 = false := tx_no t20 (by decide)
            have ll := tx_len t20
            have lz : (zstr 20).length = 7 := by decide
            have eb := eF_bd (g := g) hn1
            have cp := capA hA
            have put : ∀ y : Int, (∀ k, 3 ≤ k → k ≤ 9 → (if k = 5 then y else I d k) = kpF g n b0 (nm, vl, bh, fr, tr) (I d) k) → RV 7 217 [vR (some (A + 18)), vI nm, vJ, vI bh, vJ, vJ, vJ, vJ, vJ, vJ] [vI y, vR (some d)] e I D Q := by
              intro y hk
              refine S7_217 he hA hd ?_
              have L1 : MkL (A + 6) (uI I d 5 y) ls := hL.fr (S := fun a _ => a = d) (Fr.u rfl) (fun a k q1 q2 => by omega)
              refine c11 he cp.2.1 L1 (by show ls.length < L0 (A + 7); omega) cp.2.2.2 fun I' f1 M1 => hQ I' ?_ (fun k a b => ?_) ?_
              · exact (Fr.u (Or.inr ⟨rfl, by omega, by omega⟩)).trans (f1.mono fun a k q => Or.inl (by unfold mkS at q; omega))
              · rw [f1 _ _ (fun q => by unfold mkS at q; omega), ← hk k a b]
                by_cases q : k = 5
                · rw [q, uI_eq, if_pos rfl]
                · rw [uI_ne (by omega), if_neg q]
              · have : lnL g n [(nm, vl, bh, fr, tr)] = [(nm, bh, 0)] := by simp [lnL, t20]
                rw [this]; exact M1
            rw [hD]
            refine ⟨fun w => put _ ?_, fun w => put _ ?_⟩
            · have w := hy.mp w
              exact k39 (by simp [kpF, t15, t17, t19, t20, t21, t22, w]) (by simp [kpF, t15, t17, t19, t20, t21, t22, w]) (by simp [kpF, t15, t17, t19, t20, t21, t22, w]) (by simp [kpF, t15, t17, t19, t20, t21, t22, w]) (by simp [kpF, t15, t17, t19, t20, t21, t22, w]) (by simp [kpF, t15, t17, t19, t20, t21, t22, w]) (by simp [kpF, t15, t17, t19, t20, t21, t22, w])
            · have w : kF' g n vl = 4 := Decidable.not_not.mp fun u => w (hy.mpr u)
              exact k39 (by simp [kpF, t15, t17, t19, t20, t21, t22, w]) (by simp [kpF, t15, t17, t19, t20, t21, t22, w]) (by simp [kpF, t15, t17, t19, t20, t21, t22, w]) (by simp [kpF, t15, t17, t19, t20, t21, t22, w]) (by simp [kpF, t15, t17, t19, t20, t21, t22, w]) (by simp [kpF, t15, t17, t19, t20, t21, t22, w]) (by simp [kpF, t15, t17, t19, t20, t21, t22, w])
        · have t19 := b2i_n z19
          have t20 : tx g n nm 20 = false := tx_no t19 (by decide)
          have t21 : tx g n nm 21 = false := tx_no t19 (by decide)
          have t22 : tx g n nm 22 = false := tx_no t19 (by decide)
          rw [hD]
          have e1 : uI I d 8 ((b0 + fr : Nat) : Int) (A + 2) 3 = ((b0 + tr : Nat) : Int) := by rw [uI_ne (by omega)]; exact hM
          rw [e1]
          refine ⟨hd, hQ _ ((Fr.u (Or.inr ⟨rfl, by omega, by omega⟩)).trans (Fr.u (Or.inr ⟨rfl, by omega, by omega⟩))) (k39 ?_ ?_ ?_ ?_ ?_ ?_ ?_) ?_⟩
          iterate 7
            · simp [kpF, t15, t17, t19, t20, t21, t22, uI]
          have : lnL g n [(nm, vl, bh, fr, tr)] = [] := by simp [lnL, t20]
          rw [this, List.append_nil]
          have f2 : Fr (fun a _ => a = d) I (uI (uI I d 8 ((b0 + fr : Nat) : Int)) d 9 ((b0 + tr : Nat) : Int)) := Fr.trans (S := fun a _ => a = d) (Fr.u (S := fun a _ => a = d) rfl) (Fr.u (S := fun a _ => a = d) rfl)
          exact hL.fr f2 (fun a k q1 q2 => by omega)
      · have t17 := b2i_n z17
        have t19 : tx g n nm 19 = false := tx_no t17 (by decide)
        have t20 : tx g n nm 20 = false := tx_no t17 (by decide)
        have t21 : tx g n nm 21 = false := tx_no t17 (by decide)
        have t22 : tx g n nm 22 = false := tx_no t17 (by decide)
        rw [hD]
        refine ⟨fun w => S7_144 he hd ?_, fun w => S7_144 he hd ?_⟩
        · have w := hy.mp w
          exact fin1 t20 4 _ (by omega) (by omega) (k39 (by simp [kpF, t15, t17, t19, t20, t21, t22, w]) (by simp [kpF, t15, t17, t19, t20, t21, t22, w]) (by simp [kpF, t15, t17, t19, t20, t21, t22, w]) (by simp [kpF, t15, t17, t19, t20, t21, t22, w]) (by simp [kpF, t15, t17, t19, t20, t21, t22, w]) (by simp [kpF, t15, t17, t19, t20, t21, t22, w]) (by simp [kpF, t15, t17, t19, t20, t21, t22, w]))
        · have w : kF' g n vl = 4 := Decidable.not_not.mp fun u => w (hy.mpr u)
          exact fin1 t20 4 _ (by omega) (by omega) (k39 (by simp [kpF, t15, t17, t19, t20, t21, t22, w]) (by simp [kpF, t15, t17, t19, t20, t21, t22, w]) (by simp [kpF, t15, t17, t19, t20, t21, t22, w]) (by simp [kpF, t15, t17, t19, t20, t21, t22, w]) (by simp [kpF, t15, t17, t19, t20, t21, t22, w]) (by simp [kpF, t15, t17, t19, t20, t21, t22, w]) (by simp [kpF, t15, t17, t19, t20, t21, t22, w]))
    · have t15 := b2i_n z15
      have t17 : tx g n nm 17 = false := tx_no t15 (by decide)
      have t19 : tx g n nm 19 = false := tx_no t15 (by decide)
      have t20 : tx g n nm 20 = false := tx_no t15 (by decide)
      have t21 : tx g n nm 21 = false := tx_no t15 (by decide)
      have t22 : tx g n nm 22 = false := tx_no t15 (by decide)
      have p3 : ∀ y, y = (if tx g n vl 16 = true then (1 : Int) else if tx g n vl 17 = true then 2 else if tx g n vl 18 = true then 3 else 0) → Q (uI I d 3 y) D := by
        intro y hy
        exact fin1 t20 3 _ (by omega) (by omega) (k39 (by rw [hy]; simp [kpF, t15]) (by simp [kpF, t15, t17, t19, t20, t21, t22]) (by simp [kpF, t15, t17, t19, t20, t21, t22]) (by simp [kpF, t15, t17, t19, t20, t21, t22]) (by simp [kpF, t15, t17, t19, t20, t21, t22]) (by simp [kpF, t15, t17, t19, t20, t21, t22]) (by simp [kpF, t15, t17, t19, t20, t21, t22]))
      refine c57 he hT.1 hT.2.1 hv0 hv0 hv1 (by decide) (c57 he hT.1 hT.2.1 hv0 hv0 hv1 (by decide) (c57 he hT.1 hT.2.1 hv0 hv0 hv1 (by decide) ?_))
      rw [hD]
      refine ⟨fun a => ⟨fun b => ⟨fun c => S7_110 he hd (p3 _ ?_), fun c => S7_110 he hd (p3 _ ?_)⟩, fun b => S7_110 he hd (p3 _ ?_)⟩, fun a => S7_110 he hd (p3 _ ?_)⟩
      · rw [b2i_0.mp a, b2i_0.mp b, b2i_0.mp c]; rfl
      · rw [b2i_0.mp a, b2i_0.mp b, b2i_n c]; rfl
      · rw [b2i_0.mp a, b2i_n b]; rfl
      · rw [b2i_n a]; rfl
  refine S7 he hA (c53 he hT.1 hT.2.1 hv0 hv0 hv1 ⟨fun a => s17 0 ⟨fun _ => a, fun _ => rfl⟩, fun a => s17 1 ⟨fun q => absurd q (by decide), fun q => absurd q a⟩⟩)
/-- what is known when a dictionary was read -/
def DOK (g : Int → Int) (n : Int) (A d : Nat) (r0 l0 : RfL) (R : Int × Bool × PrL × RfL) (I : HI) : Prop :=
  MkL (A + 2) I (r0 ++ R.2.2.2) ∧ MkL (A + 6) I (l0 ++ lnL g n R.2.2.1) ∧ I d 1 = R.1 ∧ I d 2 = b2i R.2.1 ∧ (∀ k, 3 ≤ k → k ≤ 9 → I d k = dfF g n r0.length R.2.2.1 k) ∧ I d 11 = ((r0 ++ R.2.2.2).length : Nat) ∧ I d 13 = ((l0 ++ lnL g n R.2.2.1).length : Nat)
theorem lnL_app {ps qs : PrL} : lnL g n (ps ++ qs) = lnL g n ps ++ lnL g n qs := by simp [lnL]
theorem lnL_le {pr : Int × Int × Int × Nat × Nat} : (lnL g n [pr]).length ≤ 1 ∧ (tx g n pr.1 20 = false → (lnL g n [pr]).length = 0) := by
  by_cases q : tx g n pr.1 20 = true
  · simp [lnL, q]
  · simp [lnL, q]
theorem dfF_app {b0 : Nat} {ps : PrL} {pr : Int × Int × Int × Nat × Nat} : dfF g n b0 (ps ++ [pr]) = kpF g n b0 pr (dfF g n b0 ps) := by simp [dfF]
theorem kpF_ext {b0 : Nat} {pr : Int × Int × Int × Nat × Nat} {S S' : Nat → Int} {k : Nat} (h : S k = S' k) : kpF g n b0 pr S k = kpF g n b0 pr S' k := by
  unfold kpF; rw [h]
theorem c4_200 (he : HS e) (hA : isA A) {D : HD} {d : Nat} (hD : D (A + 18) 3 = d) (hd : K0 d = 1) {r0 l0 : RfL} {I : HI} {p : Int} {cl : Bool} {ps : PrL} {rs : RfL} (hM : MkL (A + 2) I (r0 ++ rs)) (hL : MkL (A + 6) I (l0 ++ lnL g n ps))
    (h2 : I d 2 = b2i cl) (hk : ∀ k, 3 ≤ k → k ≤ 9 → I d k = dfF g n r0.length ps k) {Q : Int → HI → HD → Prop} (hQ : ∀ I', Fr (lpS A d) I I' → DOK g n A d r0 l0 (p, cl, ps, rs) I' → Q p I' D) :
    RI 4 200 [vR (some (A + 18)), vJ, vJ, vJ, vI p, vJ, vJ, vJ, vJ, vJ] [] e I D Q := by
  have dk := dK hA hd
  refine S4_200 he hA ?_
  rw [hD, hM.1.1, hL.1.1]
  refine ⟨hd, c2 he hd fun I' f1 v => hQ I' (f1.mono fun a k q => Or.inr ⟨q.1, by omega, by omega, by omega⟩) ?_⟩
  refine ⟨hM.fr f1 (fun a k q1 q2 q3 => by omega), hL.fr f1 (fun a k q1 q2 q3 => by omega), v.1, ?_, fun k a b => ?_, v.2.1, v.2.2⟩
  · show I' d 2 = b2i cl
    rw [f1 _ _ (by omega)]; exact h2
  · rw [f1 _ _ (by omega)]; exact hk k a b
theorem c4_52 (he : HS e) (hA : isA A) {D : HD} {P : Int → Prop} (hB : Bd g n lim P) {fl : Bool} (hE : ∀ p, P p → (isEk fl (kF' g n p) = true ↔ lim ≤ p)) (hcap : n ≤ 5 * L0 (A + 3)) (hcap8 : n ≤ 8 * L0 (A + 7)) {d : Nat} (hD : D (A + 18) 3 = d) (hd : K0 d = 1) {r0 l0 : RfL} {Q : Int → HI → HD → Prop} (k : Nat) :
    ∀ (p x5 : Int) (ps : PrL) (rs : RfL) (I : HI), (lim - p).toNat < k → P p → 0 ≤ x5 → x5 ≤ p → Tk g n A I D → I (A + 18) 4 = b2i fl → MkL (A + 2) I (r0 ++ rs) → MkL (A + 6) I (l0 ++ lnL g n ps) →
    5 * ((r0.length + rs.length : Nat) : Int) ≤ p → 8 * ((l0.length + (lnL g n ps).length : Nat) : Int) ≤ p → I d 2 = 0 → (∀ k, 3 ≤ k → k ≤ 9 → I d k = dfF g n r0.length ps k) →
    (∀ I', Fr (lpS A d) I I' → DOK g n A d r0 l0 (dicN g n lim k p ps rs) I' → Q (dicN g n lim k p ps rs).1 I' D) →
    RI 4 52 [vR (some (A + 18)), vJ, vJ, vJ, vI p, vI x5, vJ, vJ, vJ, vJ] [] e I D Q := by
  have dk := dK hA hd
  have h8' := isA8 hA
  induction k with
  | zero => intro p x5 ps rs I hk; omega
  | succ k ih =>
    intro p x5 ps rs I hk hp hx0 hx1 hT hf hM hL h5 h8 h2 hK hQ
    have hb := (hB.2 p hp).1
    have hln := hB.1
    have hn := hT.1.2.2.1
    refine S4_52 he hA ⟨fun a => by omega, fun _ => c5 he hA hT hf hb.1 (by omega) ⟨fun a => ?_, fun a => ?_⟩⟩
    · have hl : lim ≤ p := (hE p hp).mp (b2i_n a)
      have e1 : dicN g n lim (k + 1) p ps rs = (p, false, ps, rs) := if_pos hl
      rw [e1] at hQ
      exact c4_200 he hA hD hd (cl := false) hM hL h2 hK hQ
    · have a := b2i_0.mp (Decidable.not_not.mp a)
      have hl : ¬ lim ≤ p := fun q => by rw [(hE p hp).mpr q] at a; cases a
      have hlt : p < lim := by omega
      have hnx := hB.nx hp hlt
      have nb := nxF_bd (g := g) (show p ≤ n by omega)
      have nb3 := nb.2.2 (by omega)
      have eb := hB.eFle hp hlt
      have hnb := (hB.2 _ hnx).1
      have e1 : dicN g n lim (k + 1) p ps rs = if kF' g n p = 10 then (eF g n p, true, ps, rs)
        else if kF' g n p = 8 ∧ kF' g n (nxF g n p) ≠ 10 ∧ nxF g n p < lim then
          dicN g n lim k (skp g n (valF g n lim (nxF g n p) rs).1) (ps ++ [(p, nxF g n p, (valF g n lim (nxF g n p) rs).1, rs.length, (valF g n lim (nxF g n p) rs).2.length)]) (valF g n lim (nxF g n p) rs).2
        else dicN g n lim k (nxF g n p) ps rs := if_neg hl
      refine c53 he hT.1 hT.2.1 hb.1 hb.1 (by omega) ⟨fun b => ?_, fun b => ?_⟩
      · rw [if_neg b] at e1
        have skip : dicN g n lim (k + 1) p ps rs = dicN g n lim k (nxF g n p) ps rs → RI 4 190 [vR (some (A + 18)), vJ, vJ, vJ, vJ, vI x5, vJ, vI (nxF g n p), vJ, vJ] [] e I D Q := by
          intro w
          rw [w] at hQ
          exact S4_190 he hA ⟨⟨by omega, by omega⟩, ih (nxF g n p) (x5 + 1) ps rs I (by omega) hnx (by omega) (by omega) hT hf hM hL (by omega) (by omega) h2 hK hQ⟩
        refine c55 he hT.1 hT.2.1 hb.1 hb.1 (by omega) ⟨fun c => skip (by rw [e1, if_neg (fun q => c q.1)]), fun c => c53 he hT.1 hT.2.1 (by omega) (by omega) nb.2.1 ⟨fun f => skip (by rw [e1, if_neg (fun q => q.2.1 f)]), fun f => c5 he hA hT hf (by omega) nb.2.1 ⟨fun w => skip (by rw [e1, if_neg (fun q => by have := (hE _ hnx).mp (b2i_n w); omega)]), fun w => ?_⟩⟩⟩
        have w := b2i_0.mp (Decidable.not_not.mp w)
        have hvl : nxF g n p < lim := by
          rcases Int.lt_or_le (nxF g n p) lim with q | q
          · exact q
          · rw [(hE _ hnx).mpr q] at w; cases w
        rw [if_pos ⟨Decidable.not_not.mp c, f, hvl⟩] at e1
        have vo := valF_ok hB r0.length hnx hvl (rs := rs) (by omega)
        rw [hM.1.1]
        refine c6 he hA hB hE hcap hnx hvl hT hf hM (by omega) fun I1 f1 M1 => ?_
        have T1 : Tk g n A I1 D := hT.fr f1 (fun a k q => by unfold mkS at q; omega)
        have L1 := hL.fr f1 (fun a k q1 q2 q3 => by unfold mkS at q3; omega)
        have d1 : ∀ k, I1 d k = I d k := fun k => f1 _ _ (fun q => by unfold mkS at q; omega)
        have x4 : ((r0 ++ rs).length : Int) = ((r0.length + rs.length : Nat) : Int) := by rw [List.length_append]
        rw [x4]
        refine c7 he hA T1 hD hd (tr := (valF g n lim (nxF g n p) rs).2.length) hb.1 (by omega) (by omega) nb.2.1 (by rw [M1.1.1, List.length_append]) L1 hcap8 (by rw [List.length_append]; exact h8) fun I2 f2 k2 L2 => ?_
        have T2 : Tk g n A I2 D := T1.fr f2 (fun a k q => by unfold kpS at q; omega)
        have M2 := M1.fr f2 (fun a k q1 q2 q3 => by unfold kpS at q3; omega)
        refine c51 he T2.1 T2.2.1 (by omega) (by omega) (by omega) (S4_190 he hA ⟨⟨by omega, by omega⟩, ?_⟩)
        rw [List.append_assoc, ← lnL_app] at L2
        have sb := skp_bd (g := g) (show (valF g n lim (nxF g n p) rs).1 ≤ n by omega)
        rw [e1] at hQ
        refine ih _ (x5 + 1) _ _ I2 (by omega) vo.2.2.1 (by omega) (by omega) T2 ?_ M2 L2 (by omega) ?_ ?_ ?_ fun I3 f3 => hQ I3 ?_
        · rw [f2 _ _ (fun q => by unfold kpS at q; omega), f1 _ _ (fun q => by unfold mkS at q; omega)]; exact hf
        · rw [lnL_app, List.length_append]
          have ll := lnL_le (g := g) (n := n) (pr := (p, nxF g n p, (valF g n lim (nxF g n p) rs).1, rs.length, (valF g n lim (nxF g n p) rs).2.length))
          cases t : tx g n p 20 with
          | false => have := ll.2 t; omega
          | true =>
            have t2 := tx_len t
            have t3 : (zstr 20).length = 7 := by decide
            have := skp_bd (g := g) (eF_bd (g := g) (show p ≤ n by omega)).2.1
            have : eF g n p ≤ nxF g n p := by unfold nxF; omega
            omega
        · rw [f2 _ _ (fun q => by unfold kpS at q; omega), d1]; exact h2
        · intro k a b
          rw [k2 k a b, dfF_app]
          exact kpF_ext (by rw [d1]; exact hK k a b)
        · exact (f1.mono fun a k q => by unfold mkS at q; exact Or.inl (by omega)).trans ((f2.mono fun a k q => by unfold kpS at q; unfold lpS; omega).trans f3)
      · have b := Decidable.not_not.mp b
        rw [if_pos b] at e1
        rw [e1] at hQ
        rw [hD]
        have f1 : Fr (fun a k => a = d ∧ k = 2) I (uI I d 2 1) := Fr.u ⟨rfl, rfl⟩
        have T1 : Tk g n A (uI I d 2 1) D := hT.fr f1 (fun a k q => by omega)
        refine ⟨hd, c52 he T1.1 T1.2.1 hb.1 hb.1 (by omega) (c4_200 he hA hD hd (cl := true) (hM.fr f1 (fun a k q1 q2 q3 => by omega)) (hL.fr f1 (fun a k q1 q2 q3 => by omega)) uI_eq (fun k a b => by rw [uI_ne (by omega)]; exact hK k a b) fun I' f2 => hQ I' ((f1.mono fun a k q => Or.inr ⟨q.1, by omega, by omega, by omega⟩).trans f2))⟩
def rdS (A d a _k : Nat) : Prop := (A + 2 ≤ a ∧ a ≤ A + 9) ∨ a = A + 18 ∨ a = d
theorem c4 (he : HS e) (hA : isA A) {I : HI} {D : HD} {P : Int → Prop} (hB : Bd g n lim P) {fl : Bool} (hE : ∀ p, P p → (isEk fl (kF' g n p) = true ↔ lim ≤ p)) (hcap : n ≤ 5 * L0 (A + 3)) (hcap8 : n ≤ 8 * L0 (A + 7)) {d : Nat} (hd : K0 d = 1) {r0 l0 : RfL} {p : Int} (h0 : 0 ≤ p) (h1 : p ≤ n) (hP : P (nxF g n p))
    (hT : Tk g n A I D) (hM : MkL (A + 2) I r0) (hL : MkL (A + 6) I l0) (h5 : 5 * (r0.length : Int) ≤ nxF g n p) (h8 : 8 * (l0.length : Int) ≤ nxF g n p) {Q : Int → HI → HD → Prop}
    (hQ : ∀ I', Fr (rdS A d) I I' → DOK g n A d r0 l0 (dicN g n lim 4000 (nxF g n p) [] []) I' → I' d 0 = eF g n p → I' d 10 = r0.length → I' d 12 = l0.length → Q (dicN g n lim 4000 (nxF g n p) [] []).1 I' (uD D (A + 18) 3 d)) :
    CI 4 [vR (some (A + 18)), vR (some d), vI p, vI (b2i fl)] e I D Q := by
  have dk := dK hA hd
  have h8' := isA8 hA
  have hn := hT.1.2.2.1
  have hD : uD D (A + 18) 3 d (A + 18) 3 = d := uD_eq
  have f1 : Fr (rdS A d) I (uI I (A + 18) 4 (b2i fl)) := Fr.u (Or.inr (Or.inl rfl))
  have T1 : Tk g n A (uI I (A + 18) 4 (b2i fl)) (uD D (A + 18) 3 d) := (hT.fr (S := fun a _ => a = A + 18) (Fr.u rfl) (fun a k q => by omega)).fd (uD_ne (by omega))
  have f0 : Fr (fun a _ => a = A + 18) I (uI I (A + 18) 4 (b2i fl)) := Fr.u rfl
  refine S4 he hA hd ⟨b2i_01 fl, c52 he T1.1 T1.2.1 h0 h0 h1 ?_⟩
  have M1 := hM.fr f0 (fun a k q1 q2 q3 => by omega)
  have L1 := hL.fr f0 (fun a k q1 q2 q3 => by omega)
  rw [hD, M1.1.1, L1.1.1]
  refine ⟨hd, c1 he hd fun I2 f2 v2 k2 => ?_⟩
  have T2 := T1.fr f2 (fun a k q => by omega)
  have nb := nxF_bd (g := g) h1
  refine c55 he T2.1 T2.2.1 h0 h0 h1 (c4_52 he hA hB hE hcap hcap8 hD hd (r0 := r0) (l0 := l0) 4000 (nxF g n p) 0 [] [] I2 ?_ hP (by omega) (by omega) T2 ?_ ?_ ?_ (by simpa using h5) ?_ v2.2.2.1 k2 fun I3 f3 ok => hQ I3 ?_ ok ?_ ?_ ?_)
  · have := hB.1; omega
  · rw [f2 _ _ (by omega)]; exact uI_eq
  · rw [List.append_nil]; exact M1.fr f2 (fun a k q1 q2 q3 => by omega)
  · simp only [lnL, List.filterMap_nil, List.append_nil]; exact L1.fr f2 (fun a k q1 q2 q3 => by omega)
  · simpa [lnL] using h8
  · exact f1.trans ((f2.mono fun a k q => Or.inr (Or.inr q)).trans (f3.mono fun a k q => by unfold lpS at q; omega))
  · rw [f3 _ _ (fun q => by unfold lpS at q; omega)]; exact v2.1
  · rw [f3 _ _ (fun q => by unfold lpS at q; omega)]; exact v2.2.2.2.1
  · rw [f3 _ _ (fun q => by unfold lpS at q; omega)]; exact v2.2.2.2.2.2.1
end
