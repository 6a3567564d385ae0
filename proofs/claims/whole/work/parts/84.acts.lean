/-! add, scan, again: class and model together -/
section
variable {e : En} {g : Int → Int} {n : Int} {s : SC} {c : Int} {pg w : List Int} {m : Nat} {sc : Bool} {I : HI} {D : HD}
theorem Ladd (he : HS e) (hI : INV g n s c pg w m sc I D) (hm : m < 1500) {x : Int} {Q : En → Int → Int → HI → HD → Prop} (hQ : ∀ I', INV g n s c pg w (m + 1) sc I' D → Q e 0 0 I' D) :
    CY 137 [vR (some 0), vI x] e I D (fun e8 z5 I6 D7 => e8 = e ∧ CV 87 [vR (some 312), vI x] e8 I6 D7 (fun I12 D13 => CI 86 [vR (some 312)] e8 I12 D13 (fun z14 I15 D16 => Q e8 z5 z14 I15 D16))) := by
  obtain ⟨⟨a1, a2, a3, a4⟩, ⟨b1, b2, b3, ⟨b4, b5, b6⟩, b7, b8⟩, p⟩ := hI
  refine S137 he (S70 he ?_)
  rw [a1]
  refine ⟨fun q => by omega, fun _ => ⟨fun _ => ⟨⟨by omega, by omega⟩, ⟨by omega, by omega⟩, Or.inl ⟨rfl, rfl, S87 he ?_⟩⟩, fun q => by omega⟩⟩
  rw [Int.toNat_natCast]
  have c1 : (uI (uI I 7 m ((x + 128) % 256 - 128)) 0 1 ((m : Int) + 1)) 312 1 = (m : Int) := by rw [uI_ne (by omega), uI_ne (by omega)]; exact b1
  rw [c1]
  refine ⟨fun _ => S87_16 he ⟨fun q => absurd rfl q, fun _ => ?_⟩, fun q => by omega⟩
  rw [c1, Int.toNat_natCast]
  refine ⟨⟨by omega, by omega⟩, ⟨by omega, by omega⟩, S86 he ?_⟩
  have F : Fr (fun a k => (a = 7 ∧ k = m) ∨ (a = 0 ∧ k = 1) ∨ (a = 312 ∧ (k = 0 ∨ k = 1)) ∨ (a = 313 ∧ k = m)) I (uI (uI (uI (uI (uI I 7 m ((x + 128) % 256 - 128)) 0 1 ((m : Int) + 1)) 312 0 0) 313 m (x % 256)) 312 1 ((m : Int) + 1)) := by
    intro a k q
    rw [uI_ne (by omega), uI_ne (by omega), uI_ne (by omega), uI_ne (by omega), uI_ne (by omega)]
  have v7 : (uI (uI (uI (uI (uI I 7 m ((x + 128) % 256 - 128)) 0 1 ((m : Int) + 1)) 312 0 0) 313 m (x % 256)) 312 1 ((m : Int) + 1)) 7 m = (x + 128) % 256 - 128 := by rw [uI_ne (by omega), uI_ne (by omega), uI_ne (by omega), uI_ne (by omega), uI_eq]
  have v313 : (uI (uI (uI (uI (uI I 7 m ((x + 128) % 256 - 128)) 0 1 ((m : Int) + 1)) 312 0 0) 313 m (x % 256)) 312 1 ((m : Int) + 1)) 313 m = x % 256 := by rw [uI_ne (by omega), uI_eq]
  have v0 : (uI (uI (uI (uI (uI I 7 m ((x + 128) % 256 - 128)) 0 1 ((m : Int) + 1)) 312 0 0) 313 m (x % 256)) 312 1 ((m : Int) + 1)) 312 0 = 0 := by rw [uI_ne (by omega), uI_ne (by omega), uI_eq]
  have v01 : (uI (uI (uI (uI (uI I 7 m ((x + 128) % 256 - 128)) 0 1 ((m : Int) + 1)) 312 0 0) 313 m (x % 256)) 312 1 ((m : Int) + 1)) 0 1 = (m : Int) + 1 := by rw [uI_ne (by omega), uI_ne (by omega), uI_ne (by omega), uI_eq]
  have v1 : (uI (uI (uI (uI (uI I 7 m ((x + 128) % 256 - 128)) 0 1 ((m : Int) + 1)) 312 0 0) 313 m (x % 256)) 312 1 ((m : Int) + 1)) 312 1 = (m : Int) + 1 := uI_eq
  generalize (uI (uI (uI (uI (uI I 7 m ((x + 128) % 256 - 128)) 0 1 ((m : Int) + 1)) 312 0 0) 313 m (x % 256)) 312 1 ((m : Int) + 1)) = J at F v7 v313 v0 v01 v1
  rw [v0]
  refine hQ J ⟨⟨by rw [v01]; rfl, a2.fr F (fun a k q => by omega), a3.fr F (fun a k q => by omega) (fun _ _ _ _ => rfl), a4.fr F (fun a k q => by omega)⟩, ⟨by rw [v1]; rfl, fun i hi => ?_, by rw [F _ _ (by omega)]; exact b3, ⟨by rw [F _ _ (by omega)]; exact b4, b5, fun p p0 p1 => by rw [F _ _ (by omega)]; exact b6 p p0 p1⟩, b7.fr F (fun a k q => by omega), b8.fr F (fun a k q => by omega)⟩, p⟩
  by_cases ci : i = m
  · rw [ci, v7, v313]; omega
  · rw [F _ _ (by omega), F _ _ (by omega)]; exact b2 i (by omega)
theorem cnt_part {fo : Nat → Option FR} (k : Nat) : ((List.range (k + 2)).filter fun i => (fo i).isSome).length = ((List.range (k + 1)).filter fun i => (fo i).isSome).length + (if (fo (k + 1)).isSome = true then 1 else 0) := by
  rw [List.range_succ, List.filter_append, List.length_append]
  by_cases q : (fo (k + 1)).isSome = true
  · simp [q]
  · simp [q]
theorem m118_91 (he : HS e) {s : SC} (hS : MM 0 I s) {Q : Int → HI → HD → Prop} (hQ : Q (cnt s.1 : Int) I D) (k : Nat) : ∀ i : Nat, i ≤ 60 → 60 - i = k → RI 118 91 [vR (some 312), vI (((List.range (i + 1)).filter fun j => (s.1 j).isSome).length : Int), vI ((i + 1 : Nat) : Int)] [] e I D Q := by
  induction k with
  | zero =>
    intro i hi hk
    have : i = 60 := by omega
    subst this
    exact S118_91 he ⟨fun _ => hQ, fun q => by omega⟩
  | succ k ih =>
    intro i hi hk
    have nx := ih (i + 1) (by omega) (by omega)
    rw [cnt_part] at nx
    have mo := hS.1 (i + 1) (by omega) (by omega)
    have le : ((List.range (i + 1)).filter fun j => (s.1 j).isSome).length ≤ i + 1 := Nat.le_trans (List.length_filter_le _ _) (by simp)
    refine S118_91 he ⟨fun q => by omega, fun _ => ?_⟩
    rw [Int.toNat_natCast]
    cases hf : s.1 (i + 1) with
    | none =>
      rw [hf] at mo nx
      have mo : I 316 (61 * 0 + (i + 1)) = 0 := mo
      rw [Nat.mul_zero, Nat.zero_add] at mo
      rw [mo]
      exact ⟨⟨by omega, by omega⟩, fun _ => S118_113 he ⟨⟨by omega, by omega⟩, nx⟩, fun q => absurd rfl q⟩
    | some f =>
      rw [hf] at mo nx
      have mo := mo.1
      rw [Nat.mul_zero, Nat.zero_add] at mo
      rw [mo]
      exact ⟨⟨by omega, by omega⟩, fun q => absurd q (by decide), fun _ => ⟨⟨by omega, by omega⟩, S118_113 he ⟨⟨by omega, by omega⟩, nx⟩⟩⟩
theorem m118_52 (he : HS e) {I0 : HI} (hm : I 312 1 = (m : Int)) (hm5 : m ≤ 1500) {Q : Int → HI → HD → Prop} (k : Nat) : ∀ (i : Nat) (I : HI), i ≤ m → m - i = k → I 312 1 = (m : Int) → (∀ j, j < i → I 315 j = I 313 j) →
    (∀ J, Fr (fun a k => a = 315 ∧ k < 1500) I J → (∀ j, j < m → J 315 j = J 313 j) → CV 117 [vR (some 312)] e (uI J 312 1 0) D (fun I2 D3 => RI 118 91 [vR (some 312), vI 0, vI 1] [] e I2 D3 Q)) → RI 118 52 [vR (some 312), vI (i : Int), vJ] [] e I D Q := by
  induction k with
  | zero =>
    intro i I hi hk h1 hz hQ
    refine S118_52 he ?_
    rw [h1]
    exact ⟨fun _ => hQ I Fr.refl (fun j hj => hz j (by omega)), fun q => by omega⟩
  | succ k ih =>
    intro i I hi hk h1 hz hQ
    refine S118_52 he ?_
    rw [h1, Int.toNat_natCast]
    refine ⟨fun q => by omega, fun _ => ⟨⟨by omega, by omega⟩, ⟨by omega, by omega⟩, ⟨by omega, by omega⟩, ih (i + 1) _ (by omega) (by omega) (by rw [uI_ne (by omega)]; exact h1) (fun j hj => ?_) fun J f1 z1 => hQ J ((Fr.u (S := fun a k => a = 315 ∧ k < 1500) ⟨rfl, by omega⟩).trans f1) z1⟩⟩
    by_cases cj : j = i
    · rw [cj, uI_eq, uI_ne (by omega)]
    · rw [uI_ne (by omega), uI_ne (by omega)]; exact hz j (by omega)
theorem scR_len {g' : Int → Int} {n' : Int} (hW : WT g' n' n' (scF g' n')) (h : n' ≤ 3000) : (scR g' n').2.1.length < 2000 ∧ (scR g' n').2.2.1.length < 800 := by
  have w := hW.1
  have w2 := hW.2
  have ml := m5N_le (g := g') (n := n') (fo := (scF g' n').1) 60
  have ml : (m5N g' n' (scF g' n').1 60).length ≤ tot g' n' (scF g' n').1 := ml
  have cl : (caM g' n' (scF g' n')).length ≤ 2 := by
    unfold caM
    split
    · exact Nat.zero_le _
    · rw [List.length_append]
      split <;> simp
  have pl : (pgD g' n' (scF g' n')).length ≤ 1 := by unfold pgD; split <;> simp
  refine ⟨?_, ?_⟩
  · show ((scF g' n').2.1 ++ m5N g' n' (scF g' n').1 60 ++ caM g' n' (scF g' n') ++ pgD g' n' (scF g' n')).length < 2000
    simp only [List.length_append]
    omega
  · show (scF g' n').2.2.1.length < 800
    omega
theorem ca_le {g' : Int → Int} {n' : Int} (h : 0 ≤ n') : caF g' n' (scF g' n') ≤ 60 := by
  rcases ca_obj (g := g') (n := n') (s := scF g' n') (scF_ok h) with q | ⟨j, f, j1, j2, j3, j4⟩
  · omega
  · omega
theorem Lscan (he : HS e) (hI : INV g n s c pg w m sc I D) (hm : m ≤ 1500) {Q : En → Int → Int → Int → HI → HD → Prop} (h0 : m = 0 → ∀ I', INV g n s c pg w m sc I' D → Q (e.1 + 1, e.2) 1 0 1 I' D)
    (h1 : 0 < m → ∀ g' n' s' c' pg' I' D' v, INV g' n' s' c' pg' w 0 true I' D' → I' 341 0 = v → Q e 0 v 0 I' D') :
    CY 138 [vR (some 0), vR (some 341)] e I D (fun e20 z17 I18 D19 => CI 118 [vR (some 312)] e20 I18 D19 (fun z21 I22 D23 => CI 86 [vR (some 312)] e20 I22 D23 (fun z24 I25 D26 => Q e20 z17 z21 z24 I25 D26))) := by
  obtain ⟨⟨a1, a2, a3, a4⟩, ⟨b1, b2, b3, ⟨b4, b5, b6⟩, b7, b8⟩, p⟩ := id hI
  have he1 : HS (e.1 + 1, e.2) := he
  refine S138 he (S71 he ?_)
  rw [a1]
  refine ⟨fun q => ?_, fun q => Or.inr ⟨rfl, ?_⟩⟩
  · have hm0 : 0 < m := by omega
    obtain ⟨rs, ls, hC, -, -, -, -, -⟩ := a2
    have L7 : L0 7 = 1500 ∧ L0 (8 + 1) = 1500 := by decide
    refine c24 he (g := fun p => I 313 p.toNat) (n := (m : Int)) (Or.inl rfl) (by decide) (by decide) (by omega) (by omega) (by omega) (fun p p0 p1 => (b2 p.toNat (by omega)).2) hC.2.2.1 hC.1.1 hC.1.2.1 hC.1.2.2.1 hC.1.2.2.2 fun I2 D2 f2 d2 R2 W2 => ?_
    refine Or.inl ⟨_, rfl, S118 he ?_⟩
    have g2 : ∀ a k, (a = 0 ∨ a = 7 ∨ (159 ≤ a)) → I2 a k = I a k := fun a k q => f2 _ _ (fun w => by unfold rnS at w; omega)
    -- the class is through
    have F3 : Fr (fun a k => (a = 0 ∧ k = 1) ∨ a = 341) I2 (uI (uI I2 0 1 0) 341 0 (I2 8 11)) := (Fr.u (S := fun a k => (a = 0 ∧ k = 1) ∨ a = 341) (Or.inl ⟨rfl, rfl⟩)).trans (Fr.u (Or.inr rfl))
    have k341 : (uI (uI I2 0 1 0) 341 0 (I2 8 11)) 341 0 = I2 8 11 := uI_eq
    have k01 : (uI (uI I2 0 1 0) 341 0 (I2 8 11)) 0 1 = 0 := by rw [uI_ne (by omega), uI_eq]
    have R3 := R2.fr F3 (fun a k q => by omega)
    generalize (uI (uI I2 0 1 0) 341 0 (I2 8 11)) = J at F3 k341 k01 R3
    have gJ : ∀ a k, (a = 7 ∨ (159 ≤ a ∧ a ≠ 341)) → J a k = I a k := fun a k q => by rw [F3 _ _ (by omega)]; exact g2 a k (by omega)
    have j1 : J 312 1 = (m : Int) := by rw [gJ _ _ (by omega)]; exact b1
    rw [j1]
    refine ⟨fun _ => S118_13 he ⟨fun _ => ?_, fun q => absurd (Int.le_refl 0) q⟩, fun q => by omega⟩
    rw [j1]
    have F4 : Fr (fun a k => (a = 312 ∧ (k = 0 ∨ k = 4 ∨ k = 3 ∨ k = 17)) ∨ (a = 314 ∧ k = 0)) J (uI (uI (uI (uI (uI J 312 0 0) 312 4 0) 312 3 1) 312 17 0) 314 0 (m : Int)) := by
      intro a k q
      rw [uI_ne (by omega), uI_ne (by omega), uI_ne (by omega), uI_ne (by omega), uI_ne (by omega)]
    have v0 : (uI (uI (uI (uI (uI J 312 0 0) 312 4 0) 312 3 1) 312 17 0) 314 0 (m : Int)) 312 0 = 0 := by rw [uI_ne (by omega), uI_ne (by omega), uI_ne (by omega), uI_ne (by omega), uI_eq]
    have v4 : (uI (uI (uI (uI (uI J 312 0 0) 312 4 0) 312 3 1) 312 17 0) 314 0 (m : Int)) 312 4 = 0 := by rw [uI_ne (by omega), uI_ne (by omega), uI_ne (by omega), uI_eq]
    have v3 : (uI (uI (uI (uI (uI J 312 0 0) 312 4 0) 312 3 1) 312 17 0) 314 0 (m : Int)) 312 3 = 1 := by rw [uI_ne (by omega), uI_ne (by omega), uI_eq]
    have v17 : (uI (uI (uI (uI (uI J 312 0 0) 312 4 0) 312 3 1) 312 17 0) 314 0 (m : Int)) 312 17 = 0 := by rw [uI_ne (by omega), uI_eq]
    have v14 : (uI (uI (uI (uI (uI J 312 0 0) 312 4 0) 312 3 1) 312 17 0) 314 0 (m : Int)) 314 0 = (m : Int) := uI_eq
    generalize (uI (uI (uI (uI (uI J 312 0 0) 312 4 0) 312 3 1) 312 17 0) 314 0 (m : Int)) = K at F4 v0 v4 v3 v17 v14
    have k1 : K 312 1 = (m : Int) := by rw [F4 _ _ (by omega)]; exact j1
    refine m118_52 he (I0 := K) k1 hm m 0 K (Nat.zero_le _) rfl k1 (fun j hj => by omega) fun L f5 z5 => ?_
    have F6 : Fr (fun a k => (a = 315 ∧ k < 1500) ∨ (a = 312 ∧ k = 1)) K (uI L 312 1 0) := (f5.mono fun a k q => Or.inl q).trans (Fr.u (Or.inr ⟨rfl, rfl⟩))
    have l1 : uI L 312 1 0 312 1 = 0 := uI_eq
    have z6 : ∀ j, j < m → uI L 312 1 0 315 j = I 313 j := fun j hj => by
      rw [uI_ne (by omega), z5 j hj, f5 _ _ (by omega), F4 _ _ (by omega), gJ _ _ (by omega)]
    generalize uI L 312 1 0 = P at F6 l1 z6
    have hMP : MoB (fun p => I 313 p.toNat) (m : Int) ((0 : Nat) : Int) P := by
      refine ⟨by rw [F6 _ _ (by omega)]; exact v4, Or.inl rfl, by rw [Int.toNat_natCast, F6 _ _ (by omega)]; exact v14, by omega, by omega, fun p p0 p1 => ?_⟩
      have : ((3000 : Int) * ((0 : Nat) : Int) + p).toNat = p.toNat := by omega
      rw [this, z6 p.toNat (by omega)]
      exact ⟨rfl, (b2 p.toNat (by omega)).1⟩
    refine m117 he hMP (fun _ => by rw [F6 _ _ (by omega)]; exact v17) fun P2 f7 S7 => ?_
    have nf : ∀ a k, ¬ maS 0 a k → P2 a k = P a k := fun a k q => f7 a k q
    have gP : ∀ a k, (a ≤ 311 ∨ a = 313 ∨ a = 340 ∨ a = 341 ∨ (a = 312 ∧ k = 54)) → P2 a k = J a k := fun a k q => by
      rw [nf _ _ (fun w => by unfold maS mgS at w; omega), F6 _ _ (by omega), F4 _ _ (by omega)]
    have gP3 : P2 312 3 = 1 := by rw [nf _ _ (fun w => by unfold maS mgS at w; omega), F6 _ _ (by omega)]; exact v3
    have gP1 : P2 312 1 = 0 := by rw [nf _ _ (fun w => by unfold maS mgS at w; omega)]; exact l1
    have gP0 : P2 312 0 = 0 := by rw [nf _ _ (fun w => by unfold maS mgS at w; omega), F6 _ _ (by omega)]; exact v0
    have g14 : P2 314 0 = (m : Int) := by rw [nf _ _ (fun w => by unfold maS mgS at w; omega), F6 _ _ (by omega)]; exact v14
    have g15 : ∀ j, j < m → P2 315 j = I 313 j := fun j hj => by rw [nf _ _ (fun w => by unfold maS mgS at w; omega)]; exact z6 j hj
    have hok := scF_ok (g := fun p => I 313 p.toNat) (n := (m : Int)) (by omega)
    have wl := scR_len W2 (by omega)
    have frJ : Fr (fun a k => (a = 312 ∧ k ≠ 54) ∨ (314 ≤ a ∧ a ≤ 339)) J P2 := fun a k q => by
      rw [nf _ _ (fun w => by unfold maS mgS at w; omega), F6 _ _ (by omega), F4 _ _ (by omega)]
    have R7 := R3.fr frJ (fun a k q => by omega)
    have FI : Fr (fun a k => (1 ≤ a ∧ a ≤ 5) ∨ (8 ≤ a ∧ a < 159) ∨ (a = 0 ∧ k = 1) ∨ a = 341 ∨ (a = 312 ∧ k ≠ 54) ∨ (314 ≤ a ∧ a ≤ 339)) I P2 := fun a k q => by
      rw [frJ _ _ (by omega), F3 _ _ (by omega), f2 _ _ (fun w => by unfold rnS at w; omega)]
    have INV' : INV (fun p => I 313 p.toNat) (m : Int) (scR (fun p => I 313 p.toNat) m) (caF (fun p => I 313 p.toNat) m (scF (fun p => I 313 p.toNat) m)) (pgF (fun p => I 313 p.toNat) m (scF (fun p => I 313 p.toNat) m)) w 0 true P2 D2 := by
      refine ⟨⟨?_, R7, a3.fr FI (fun a k q => by omega) (fun a k q1 q2 => d2 a k (by omega) (by omega)), a4.fr FI (fun a k q => by omega)⟩, ⟨gP1, fun i hi => by omega, gP3, ⟨g14, by omega, fun p p0 p1 => ?_⟩, S7, b8.fr FI (fun a k q => by omega)⟩, hok, ca_le (by omega), wl, fun q => (by cases q), fun _ => by omega⟩
      · rw [gP _ _ (by omega)]; exact k01
      · rw [g15 p.toNat (by omega)]; exact ⟨rfl, (b2 p.toNat (by omega)).1⟩
    have e0 : (scR (fun p => I 313 p.toNat) (m : Int)).1 0 = none := by
      cases h : (scR (fun p => I 313 p.toNat) (m : Int)).1 0 with
      | none => rfl
      | some f => have := (hok 0 f h).bd.1; omega
    have st := m118_91 he S7.1 (D := D2) (Q := fun z21 I22 D23 => CI 86 [vR (some 312)] e I22 D23 (fun z24 I25 D26 => Q e 0 z21 z24 I25 D26)) (S86 he (by
      rw [gP0]
      refine h1 hm0 _ _ _ _ _ P2 D2 _ INV' ?_
      rw [gP _ _ (by omega), k341]
      obtain ⟨rs', ls', hC', -⟩ := R2
      exact hC'.2.1.2.1)) 60 0 (by omega) rfl
    have e1 : (((List.range (0 + 1)).filter fun j => ((scR (fun p => I 313 p.toNat) (m : Int)).1 j).isSome).length : Int) = 0 := by
      have : List.range (0 + 1) = [0] := rfl
      rw [this, List.filter_cons, e0]; rfl
    rw [e1] at st
    exact st
  · have q0 : m = 0 := by omega
    refine S118 he1 ?_
    rw [b1]
    refine ⟨fun q => by omega, fun _ => S118_13 he1 ⟨fun q => absurd q (by decide), fun _ => S86 he1 ?_⟩⟩
    rw [uI_eq]
    exact h0 q0 _ (hI.fr iv0)
end
