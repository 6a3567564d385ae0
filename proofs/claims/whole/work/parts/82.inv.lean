/-! what holds between two calls of the law -/
def ASd (A : Nat) (I : HI) (D : HD) : Prop := PM A D ∧ ∃ l1 l2 l3 l4, MkL (A + 2) I l1 ∧ MkL (A + 6) I l2 ∧ MkL (A + 10) I l3 ∧ MkL (A + 14) I l4
def INV (g : Int → Int) (n : Int) (s : SC) (c : Int) (pg w : List Int) (m : Nat) (sc : Bool) (I : HI) (D : HD) : Prop :=
  (I 0 1 = (m : Int) ∧ RS g n 8 I D s c pg ∧ ASd 159 I D ∧ WM I w) ∧
  (I 312 1 = (m : Int) ∧ (∀ i, i < m → (0 ≤ I 313 i ∧ I 313 i ≤ 255) ∧ I 7 i % 256 = I 313 i) ∧ I 312 3 = b2i sc ∧ (I 314 0 = n ∧ n ≤ 3000 ∧ ∀ p : Int, 0 ≤ p → p < n → I 315 p.toNat = g p ∧ 0 ≤ g p ∧ g p ≤ 255) ∧ MS 0 I s c pg ∧ OW I w) ∧
  (OKS g n s.1 ∧ c ≤ 60 ∧ (s.2.1.length < 2000 ∧ s.2.2.1.length < 800) ∧ (sc = false → n = 0 ∧ w = [] ∧ ∀ i, s.1 i = none) ∧ (sc = true → 1 ≤ n))
def ivS (a k : Nat) : Prop := a = 341 ∨ (a = 312 ∧ (k = 0 ∨ k = 4 ∨ (25 ≤ k ∧ k ≤ 38) ∨ k = 42 ∨ (45 ≤ k ∧ k ≤ 51))) ∨ (333 ≤ a ∧ a ≤ 339)
section
variable {e : En} {g : Int → Int} {n : Int} {s : SC} {c : Int} {pg w : List Int} {m : Nat} {sc : Bool} {I I' : HI} {D : HD}
theorem PgM.fr {A : Nat} {S : Nat → Nat → Prop} (h : PgM A I pg) (hf : Fr S I I') (hs : ∀ a k, S a k → ¬ (A ≤ a ∧ a < A + 151)) : PgM A I' pg :=
  ⟨by rw [hf _ _ (fun q => hs _ _ q (by omega))]; exact h.1, fun i x hx => by rw [hf _ _ (fun q => hs _ _ q (by omega))]; exact h.2 i x hx⟩
theorem RS.fr {A : Nat} {S : Nat → Nat → Prop} (h : RS g n A I D s c pg) (hf : Fr S I I') (hs : ∀ a k, S a k → ¬ (A ≤ a ∧ a < A + 151)) : RS g n A I' D s c pg := by
  obtain ⟨rs, ls, h1, h2, h3, h4, h5, h6, h7⟩ := h
  exact ⟨rs, ls, h1.out hf (fun a k q1 q2 q => hs a k q (by omega)), by rw [hf _ _ (fun q => hs _ _ q (by omega))]; exact h2, h3.fr hf hs, h4, h5, fun p p0 p1 => by rw [hf _ _ (fun q => hs _ _ q (by omega))]; exact h6 p p0 p1, h7⟩
theorem ASd.fr {A : Nat} {S : Nat → Nat → Prop} {D' : HD} (h : ASd A I D) (hf : Fr S I I') (hs : ∀ a k, S a k → ¬ (A ≤ a ∧ a < A + 151)) (hd : ∀ a k, A ≤ a → a < A + 151 → D' a k = D a k) : ASd A I' D' := by
  obtain ⟨⟨p1, p2, p3, p4⟩, l1, l2, l3, l4, m1, m2, m3, m4⟩ := h
  have eO : ∀ j, D' (A + 21) j = D (A + 21) j := fun j => hd _ _ (by omega) (by omega)
  have eC : D' A 10 = D A 10 := hd _ _ (by omega) (by omega)
  exact ⟨⟨fun i hi => by rw [eO]; exact p1 i hi, by rw [eC]; exact p2, fun i j hi hj q => by rw [eO, eO] at q; exact p3 i j hi hj q, fun i hi => by rw [eO, eC]; exact p4 i hi⟩, l1, l2, l3, l4, m1.fr hf (fun a k q1 q2 q => hs a k q (by omega)), m2.fr hf (fun a k q1 q2 q => hs a k q (by omega)), m3.fr hf (fun a k q1 q2 q => hs a k q (by omega)), m4.fr hf (fun a k q1 q2 q => hs a k q (by omega))⟩
theorem WM.fr {S : Nat → Nat → Prop} (h : WM I w) (hf : Fr S I I') (hs : ∀ a k, S a k → a ≠ 310 ∧ a ≠ 311) : WM I' w :=
  ⟨by rw [hf _ _ (fun q => (hs _ _ q).1 rfl)]; exact h.1, fun i x hi hx => by rw [hf _ _ (fun q => (hs _ _ q).2 rfl)]; exact h.2 i x hi hx⟩
theorem OW.fr {S : Nat → Nat → Prop} (h : OW I w) (hf : Fr S I I') (hs : ∀ a k, S a k → ¬ (a = 312 ∧ k = 54) ∧ a ≠ 340) : OW I' w :=
  ⟨by rw [hf _ _ (fun q => (hs _ _ q).1 ⟨rfl, rfl⟩)]; exact h.1, fun i x hi hx => by rw [hf _ _ (fun q => (hs _ _ q).2 rfl)]; exact h.2 i x hi hx⟩
theorem MS.fr {d : Nat} {S : Nat → Nat → Prop} (h : MS d I s c pg) (hf : Fr S I I') (hs : ∀ a k, S a k → (a < 316 ∨ 332 < a) ∧ (a = 312 → k ≠ 17)) : MS d I' s c pg :=
  ⟨h.1.fr hf (fun a k q => by have := hs a k q; omega), by rw [hf _ _ (fun q => by have := hs _ _ q; omega)]; exact h.2.1, h.2.2.fr hf (fun q => by have := hs _ _ q; omega) (fun k q => by have := hs _ _ q; omega)⟩
theorem INV.fr (h : INV g n s c pg w m sc I D) (hf : Fr ivS I I') : INV g n s c pg w m sc I' D := by
  obtain ⟨⟨a1, a2, a3, a4⟩, ⟨b1, b2, b3, ⟨b4, b5, b6⟩, b7, b8⟩, p⟩ := h
  have no : ∀ a k, ¬ ivS a k → I' a k = I a k := fun a k q => hf a k q
  have n0 : ∀ a k, (a < 312 ∨ (312 < a ∧ a < 333) ∨ a = 340) → I' a k = I a k := fun a k q => hf a k (fun w => by unfold ivS at w; omega)
  refine ⟨⟨by rw [n0 _ _ (by omega)]; exact a1, a2.fr hf (fun a k q => by unfold ivS at q; omega), a3.fr hf (fun a k q => by unfold ivS at q; omega) (fun _ _ _ _ => rfl), a4.fr hf (fun a k q => by unfold ivS at q; omega)⟩, ⟨?_, fun i hi => ?_, ?_, ⟨by rw [n0 _ _ (by omega)]; exact b4, b5, fun p p0 p1 => by rw [n0 _ _ (by omega)]; exact b6 p p0 p1⟩, b7.fr hf (fun a k q => by unfold ivS at q; omega), b8.fr hf (fun a k q => by unfold ivS at q; omega)⟩, p⟩
  · rw [no _ _ (fun q => by unfold ivS at q; omega)]; exact b1
  · rw [n0 _ _ (by omega), n0 _ _ (by omega)]; exact b2 i hi
  · rw [no _ _ (fun q => by unfold ivS at q; omega)]; exact b3
theorem INV.mob (h : INV g n s c pg w m sc I D) (h4 : I 312 4 = 0) : MoB g n ((0 : Nat) : Int) I := by
  obtain ⟨⟨a1, ⟨rs, ls, hC, -, -, -, hn, -⟩, a3, a4⟩, ⟨b1, b2, b3, ⟨b4, b5, b6⟩, b7, b8⟩, p⟩ := h
  refine ⟨h4, Or.inl rfl, b4, hn.1, b5, fun p p0 p1 => ?_⟩
  have : ((3000 : Int) * ((0 : Nat) : Int) + p).toNat = p.toNat := by omega
  rw [this]; exact b6 p p0 p1
end
/-! what the questions answer -/
def foT (s : SC) (x y : Int) : Int := match obO s.1 x with | none => 1 | some _ => if y < 0 ∨ 4 < y then 2 else 0
def foV (g : Int → Int) (n : Int) (s : SC) (x y : Int) : Int := match obO s.1 x with
  | none => 0
  | some f => if y = 0 then f.1 else if y = 1 then f.2.1 else if y = 2 then f.2.2.1 else if y = 3 then kdF g n f else ((dRs g n f).length : Int)
section
variable {e : En} {g : Int → Int} {n : Int} {s : SC} {c : Int} {pg w : List Int} {m : Nat} {sc : Bool} {I : HI} {D : HD}
theorem iv341 {z : Int} : Fr ivS I (uI I 341 0 z) := Fr.u (Or.inl rfl)
theorem iv0 {z : Int} : Fr ivS I (uI I 312 0 z) := Fr.u (Or.inr (Or.inl ⟨rfl, Or.inl rfl⟩))
theorem obO_x {fo : Nat → Option FR} {x : Int} {f : FR} (h : obO fo x = some f) : (1 ≤ x ∧ x < 61) ∧ fo x.toNat = some f := by
  unfold obO at h
  split at h
  · exact ⟨by assumption, h⟩
  · cases h
theorem L139 (he : HS e) (hI : INV g n s c pg w m sc I D) {x y : Int} {Q : En → Int → HI → HD → Prop}
    (hQ : ∀ e' I', (e' = e ∨ e' = (e.1 + 1, e.2)) → Fr ivS I I' → (foT s x y = 0 → I' 341 0 = foV g n s x y) → Q e' (foT s x y) I' D) : CY 139 [vR (some 0), vI x, vI y, vR (some 341)] e I D Q := by
  obtain ⟨rs, ls, hC, -, -, -, -, -, hb, -⟩ := hI.1.2.1
  refine S139 he (S72 he (c35' he (Or.inl rfl) hC (fun q => ⟨fun _ => ?_, fun u v => by cases v⟩) fun f hf hx hk hcf => ⟨fun v => (by cases v), fun u v => ?_⟩))
  · have e1 : foT s x y = 1 := by unfold foT; rw [q]
    have := hQ (e.1 + 1, e.2) I (Or.inr rfl) Fr.refl (fun v => by omega)
    rw [e1] at this
    exact Or.inr (Or.inl ⟨rfl, this⟩)
  · cases v
    have kd := hcf.kd
    obtain ⟨⟨z2, z3, z4, -⟩, r0, l0, a0, a1, a2, a3, a4, a5, a6, a7, a8, a9⟩ := hcf
    have e1 : foT s x y = if y < 0 ∨ 4 < y then 2 else 0 := by unfold foT; rw [hf]
    have e2 : foV g n s x y = if y = 0 then f.1 else if y = 1 then f.2.1 else if y = 2 then f.2.2.1 else if y = 3 then kdF g n f else ((dRs g n f).length : Int) := by unfold foV; rw [hf]
    have a8 : r0 + (dRs g n f).length ≤ rs.length := a8.1
    have a5 : I (D (8 + 21) x.toNat + 1) 11 = ((r0 + (dRs g n f).length : Nat) : Int) := a5
    have ok : ∀ z : Int, ¬ (y < 0 ∨ 4 < y) → z = foV g n s x y → Q e 0 (uI I 341 0 z) D := by
      intro z hy hz
      have := hQ e (uI I 341 0 z) (Or.inl rfl) iv341 (fun _ => by rw [uI_eq]; exact hz)
      rw [e1, if_neg hy] at this
      exact this
    refine ⟨hk, fun q => Or.inl ⟨_, rfl, ok _ (by omega) ?_⟩, fun q => Or.inl ⟨_, rfl, ok _ (by omega) ?_⟩, fun q => Or.inl ⟨_, rfl, ok _ (by omega) ?_⟩, fun q => Or.inl ⟨_, rfl, ok _ (by omega) ?_⟩, fun q => ⟨?_, Or.inl ⟨_, rfl, ok _ (by omega) ?_⟩⟩, fun q0 q1 q2 q3 q4 => Or.inr (Or.inr ⟨rfl, ?_⟩)⟩
    · rw [e2, if_pos q]; exact z2
    · rw [e2, if_neg (by omega), if_pos q]; exact z3
    · rw [e2, if_neg (by omega), if_neg (by omega), if_pos q]; exact z4
    · rw [e2, if_neg (by omega), if_neg (by omega), if_neg (by omega), if_pos q]; exact kd.1
    · rw [a5, a4]; omega
    · rw [e2, if_neg (by omega), if_neg (by omega), if_neg (by omega), if_neg (by omega), a5, a4]; omega
    · have := hQ (e.1 + 1, e.2) I (Or.inr rfl) Fr.refl (fun v => by rw [e1, if_pos (by omega)] at v; omega)
      rw [e1, if_pos (by omega)] at this
      exact this
theorem INV.s0 (h : INV g n s c pg w m sc I D) : INV g n s c pg w m sc (uI I 312 4 0) D := h.fr (Fr.u (Or.inr (Or.inl ⟨rfl, Or.inr (Or.inl rfl)⟩)))
theorem iv4 {z : Int} : Fr ivS I (uI I 312 4 z) := Fr.u (Or.inr (Or.inl ⟨rfl, Or.inr (Or.inl rfl)⟩))
theorem divi {I' : HI} (h : Fr diS I I') : Fr ivS I I' := h.mono fun a k q => by unfold diS at q; unfold ivS; omega
/-- isFound -/
theorem m119 (he : HS e) (hI : INV g n s c pg w m sc I D) {x : Int} {Q : Int → HI → HD → Prop} (hQ : Q (b2i (obO s.1 x).isSome) (uI I 312 4 0) D) : CI 119 [vR (some 312), vI x] e I D Q := by
  have hI4 := hI.s0
  refine S119 he ⟨fun q => ?_, fun q => m103 he (show (uI I 312 4 0) 312 4 = ((0 : Nat) : Int) from uI_eq) (by omega) hI4.2.1.2.2.2.2.1.1 ?_⟩
  · rw [hI.2.1.2.2.1] at q
    have h0 := (hI.2.2.2.2.2.1 (b2i_0.mp q)).2.2
    have : obO s.1 x = none := by
      unfold obO; split
      · exact h0 _
      · rfl
    rw [this] at hQ; exact hQ
  · rcases b2i_01 (obO s.1 x).isSome with v | v
    · rw [v] at hQ ⊢; exact ⟨fun _ => hQ, fun q => absurd rfl q⟩
    · rw [v] at hQ ⊢; exact ⟨fun q => absurd q (by decide), fun _ => hQ⟩
theorem m120 (he : HS e) (hI : INV g n s c pg w m sc I D) {x y : Int} {Q : Int → HI → HD → Prop} (hQ : ∀ I' v, Fr ivS I I' → I' 341 0 = I 341 0 → I' 312 0 = foT s x y → (foT s x y = 0 → v = foV g n s x y) → Q v I' D) : CL 120 [vR (some 312), vI x, vI y] e I D Q := by
  have hI4 := hI.s0
  have hMo := hI4.mob uI_eq
  have hMS := hI4.2.1.2.2.2.2.1
  have hok := hI.2.2.1
  have k4 : (uI I 312 4 0) 341 0 = I 341 0 := uI_ne (by omega)
  refine S120 he (m119 he hI ?_)
  have bad : ∀ t : Int, 0 < t → foT s x y = t → RL 120 27 [vR (some 312), vI x, vI y] [vI t, vR (some 312)] e (uI I 312 4 0) D Q := fun t ht hf =>
    S120_27 he ⟨fun q => by omega, fun _ => hQ _ 0 (iv4.trans iv0) (by rw [uI_ne (by omega)]; exact k4) (by rw [uI_eq]; exact hf.symm) (fun q => by omega)⟩
  cases ho : obO s.1 x with
  | none => exact ⟨fun q => absurd rfl q, fun _ => bad 1 (by omega) (by unfold foT; rw [ho])⟩
  | some f =>
    have hx := obO_x ho
    have eT : foT s x y = if y < 0 ∨ 4 < y then 2 else 0 := by unfold foT; rw [ho]
    have eV : foV g n s x y = if y = 0 then f.1 else if y = 1 then f.2.1 else if y = 2 then f.2.2.1 else if y = 3 then kdF g n f else ((dRs g n f).length : Int) := by unfold foV; rw [ho]
    refine ⟨fun _ => ⟨fun q => S120_22 he (bad 2 (by omega) (by rw [eT, if_pos (by omega)])), fun q => ⟨fun v => ?_, fun v => S120_22 he (bad 2 (by omega) (by rw [eT, if_pos (by omega)]))⟩⟩, fun q => absurd (by show ¬ (1 : Int) = 0; decide) q⟩
    rw [if_neg (by omega)] at eT
    have mo := hMS.1.1 x.toNat (by omega) (by omega)
    rw [hx.2, Nat.mul_zero, Nat.zero_add] at mo
    have ex : x = (x.toNat : Int) := by omega
    have F5 : Fr ivS I (uI (uI I 312 4 0) 312 0 0) := iv4.trans iv0
    have k5 : (uI (uI I 312 4 0) 312 0 0) 341 0 = I 341 0 := by rw [uI_ne (by omega)]; exact k4
    have t5 : (uI (uI I 312 4 0) 312 0 0) 312 0 = foT s x y := by rw [uI_eq, eT]
    have hI5 := hI.fr F5
    have hM5 := hI5.mob (by rw [uI_ne (by omega), uI_eq])
    have S5 := hI5.2.1.2.2.2.2.1.1
    refine S120_27 he ⟨fun _ => ⟨fun q3 => ⟨fun n3 => ?_, fun n3 => m105 he hM5 S5 hok fun I6 f6 => hQ I6 _ (F5.trans (divi f6)) ?_ ?_ (fun _ => ?_)⟩, fun q3 => ⟨fun n0 => ⟨fun n1 => ⟨⟨by omega, by omega⟩, hQ _ _ F5 k5 t5 (fun _ => ?_)⟩, fun n1 => ⟨⟨by omega, by omega⟩, hQ _ _ F5 k5 t5 (fun _ => ?_)⟩⟩, fun n0 => ⟨⟨by omega, by omega⟩, hQ _ _ F5 k5 t5 (fun _ => ?_)⟩⟩⟩, fun q => absurd (Int.le_refl 0) q⟩
    · rw [ex]
      refine m104 he hM5 S5 hx.2 (hok _ _ hx.2) wok_0 rfl fun I6 f6 D6 _ _ => ?_
      rw [D6.1.1]
      have := hQ I6 ((dRs g n f).length : Int) (F5.trans (divi f6)) (by rw [f6 _ _ (fun q => by unfold diS at q; omega)]; exact k5) (by rw [f6 _ _ (fun q => by unfold diS at q; omega)]; exact t5) (fun _ => by rw [eV, if_neg (by omega), if_neg (by omega), if_neg (by omega), if_neg n3])
      exact this
    · rw [f6 _ _ (fun q => by unfold diS at q; omega)]; exact k5
    · rw [f6 _ _ (fun q => by unfold diS at q; omega)]; exact t5
    · rw [ho, eV, if_neg (by omega), if_neg (by omega), if_neg (by omega), if_pos (Decidable.not_not.mp n3)]; rfl
    · rw [eV, if_neg n0, if_neg n1, if_pos (by omega)]; exact mo.2.2.2.1
    · rw [eV, if_neg n0, if_pos (Decidable.not_not.mp n1)]; exact mo.2.2.1
    · rw [eV, if_pos (Decidable.not_not.mp n0)]; exact mo.2.1
end
