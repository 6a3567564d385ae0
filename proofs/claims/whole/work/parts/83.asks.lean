/-! the other questions -/
def meT (s : SC) (x y : Int) : Int := if x = -1 then 0 else if x < 0 ∨ (s.2.1.length : Int) ≤ x ∨ y < 0 ∨ 1 < y then 1 else 0
def meV (s : SC) (x y : Int) : Int := if x = -1 then (s.2.1.length : Int) else match s.2.1[x.toNat]? with | some r => if y = 0 then r.2.2 else r.1 | none => 0
def paT (pg : List Int) (x : Int) : Int := if x < 0 ∨ (pg.length : Int) ≤ x then 1 else 0
def paV (pg : List Int) (x : Int) : Int := (pg[x.toNat]?).getD 0
def tlT (x : Int) : Int := if x < 0 ∨ 1 < x then 1 else 0
def tlV (s : SC) (x : Int) : Int := if x = 0 then s.2.2.2.1 else s.2.2.2.2.1
def twT (s : SC) (x : Int) : Int := if x = -1 then 0 else if x < 0 ∨ (s.2.2.1.length : Int) ≤ x then 1 else 0
def twV (s : SC) (x : Int) : Int := if x = -1 then (s.2.2.1.length : Int) else match s.2.2.1[x.toNat]? with | some r => r.2.2 | none => 0
def woT (w : List Int) (x : Int) : Int := if x < -1 ∨ ((min w.length 3000 : Nat) : Int) ≤ x then 1 else 0
def woV (w : List Int) (x : Int) : Int := if x = -1 then ((min w.length 3000 : Nat) : Int) else (w[x.toNat]?).getD 0
def whT (s : SC) (x : Int) : Int := match obO s.1 x with | some _ => 0 | none => 1
def whV (s : SC) (x : Int) : Int := match obO s.1 x with | some f => b2i (whF f) | none => 0
def srT (s : SC) (x y : Int) : Int := match obO s.1 x with | some f => (if f.2.2.2.2.1 = true then (if y < -1 ∨ f.2.2.2.2.2.2.2 - f.2.2.2.2.2.2.1 ≤ y then 2 else 0) else 1) | none => 1
def srV (g : Int → Int) (s : SC) (x y : Int) : Int := match obO s.1 x with | some f => (if y = -1 then f.2.2.2.2.2.2.2 - f.2.2.2.2.2.2.1 else g (f.2.2.2.2.2.2.1 + y)) | none => 0
section
variable {e : En} {g : Int → Int} {n : Int} {s : SC} {c : Int} {pg w : List Int} {m : Nat} {sc : Bool} {I : HI} {D : HD}
theorem L140 (he : HS e) (hI : INV g n s c pg w m sc I D) {x y : Int} {Q : En → Int → HI → HD → Prop}
    (hQ : ∀ e' I', (e' = e ∨ e' = (e.1 + 1, e.2)) → Fr ivS I I' → (meT s x y = 0 → I' 341 0 = meV s x y) → Q e' (meT s x y) I' D) : CY 140 [vR (some 0), vI x, vI y, vR (some 341)] e I D Q := by
  obtain ⟨rs, ls, hC, -⟩ := hI.1.2.1
  have hM : MkL 18 I s.2.1 := hC.1.2.2.1
  have k18 : K0 18 = 4 := by decide
  have ok : ∀ z : Int, meT s x y = 0 → z = meV s x y → Q e 0 (uI I 341 0 z) D := fun z hy hz => by
    have := hQ e (uI I 341 0 z) (Or.inl rfl) iv341 (fun _ => by rw [uI_eq]; exact hz)
    rw [hy] at this; exact this
  have bad : meT s x y = 1 → Q (e.1 + 1, e.2) 1 I D := fun hy => by
    have := hQ (e.1 + 1, e.2) I (Or.inr rfl) Fr.refl (fun v => by omega)
    rw [hy] at this; exact this
  refine S140 he (S73 he ?_)
  rw [hM.1.1]
  refine ⟨fun n1 => ⟨fun q => Or.inr ⟨rfl, bad (by unfold meT; rw [if_neg n1, if_pos (by omega)])⟩, fun q => ⟨fun v => Or.inr ⟨rfl, bad (by unfold meT; rw [if_neg n1, if_pos (by omega)])⟩, fun v => ⟨fun u => Or.inr ⟨rfl, bad (by unfold meT; rw [if_neg n1, if_pos (by omega)])⟩, fun u => ⟨fun t => ?_, fun t => Or.inr ⟨rfl, bad (by unfold meT; rw [if_neg n1, if_pos (by omega)])⟩⟩⟩⟩⟩, fun n1 => ?_⟩
  · have hl : x.toNat < s.2.1.length := by omega
    have hr := List.getElem?_eq_getElem hl
    have eT : meT s x y = 0 := by unfold meT; rw [if_neg n1, if_neg (by omega)]
    have eV : meV s x y = if y = 0 then s.2.1[x.toNat].2.2 else s.2.1[x.toNat].1 := by unfold meV; rw [if_neg n1, hr]
    have ex : x = (x.toNat : Int) := by omega
    refine ⟨fun y0 => ?_, fun y0 => ?_⟩
    · rw [ex]; exact c14 he k18 hM hr (Or.inl ⟨_, rfl, ok _ eT (by rw [eV, if_neg y0])⟩)
    · rw [ex]; exact c13 he k18 hM hr (Or.inl ⟨_, rfl, ok _ eT (by rw [eV, if_pos (Decidable.not_not.mp y0)])⟩)
  · have n1 := Decidable.not_not.mp n1
    exact Or.inl ⟨_, rfl, ok _ (by unfold meT; rw [if_pos n1]) (by unfold meV; rw [if_pos n1])⟩
theorem m121 (he : HS e) (hI : INV g n s c pg w m sc I D) {x y : Int} {Q : Int → HI → HD → Prop} (hQ : ∀ I' v, Fr ivS I I' → I' 341 0 = I 341 0 → I' 312 0 = meT s x y → (meT s x y = 0 → v = meV s x y) → Q v I' D) : CI 121 [vR (some 312), vI x, vI y] e I D Q := by
  have hM : MnL 0 I s.2.1 := hI.2.1.2.2.2.2.1.1.2.1
  have hlen := hI.2.2.2.2.1.1
  have F1 : Fr ivS I (uI I 312 0 0) := iv0
  have bad : meT s x y = 1 → RI 121 41 [vR (some 312), vI x, vI y] [vR (some 312)] e (uI I 312 0 0) D Q := fun hf =>
    S121_41 he (S121_46 he ⟨fun q => absurd q (by decide), fun _ => hQ _ 0 (F1.trans iv0) (by rw [uI_ne (by omega), uI_ne (by omega)]) (by rw [uI_eq]; exact hf.symm) (fun q => by omega)⟩)
  refine S121 he ?_
  rw [hM.1]
  refine ⟨fun n1 => ⟨fun q => bad (by unfold meT; rw [if_neg n1, if_pos (by omega)]), fun q => ⟨fun v => bad (by unfold meT; rw [if_neg n1, if_pos (by omega)]), fun v => ⟨fun u => bad (by unfold meT; rw [if_neg n1, if_pos (by omega)]), fun u => ⟨fun t => ?_, fun t => bad (by unfold meT; rw [if_neg n1, if_pos (by omega)])⟩⟩⟩⟩, fun n1 => ?_⟩
  · have hl : x.toNat < s.2.1.length := by omega
    have hr := List.getElem?_eq_getElem hl
    have eT : meT s x y = 0 := by unfold meT; rw [if_neg n1, if_neg (by omega)]
    have eV : meV s x y = if y = 0 then s.2.1[x.toNat].2.2 else s.2.1[x.toNat].1 := by unfold meV; rw [if_neg n1, hr]
    have h2 := hM.2 x.toNat _ hr
    rw [Nat.mul_zero, Nat.zero_add] at h2
    have e5 : ∀ a k, a ≠ 312 → uI I 312 0 0 a k = I a k := fun a k q => uI_ne (by omega)
    refine S121_46 he ⟨fun _ => ⟨fun y0 => ⟨⟨by omega, by omega⟩, hQ _ _ (F1.trans iv0) (by rw [uI_ne (by omega), uI_ne (by omega)]) (by rw [uI_eq, eT]) (fun _ => ?_)⟩, fun y0 => ⟨⟨by omega, by omega⟩, hQ _ _ (F1.trans iv0) (by rw [uI_ne (by omega), uI_ne (by omega)]) (by rw [uI_eq, eT]) (fun _ => ?_)⟩⟩, fun q => absurd (Int.le_refl 0) q⟩
    · rw [e5 _ _ (by omega), h2.2, eV, if_neg y0]
    · rw [e5 _ _ (by omega), h2.1, eV, if_pos (Decidable.not_not.mp y0)]
  · have n1 := Decidable.not_not.mp n1
    exact hQ _ _ F1 (by rw [uI_ne (by omega)]) (by rw [uI_eq]; unfold meT; rw [if_pos n1]) (fun _ => by unfold meV; rw [if_pos n1])
theorem L141 (he : HS e) (hI : INV g n s c pg w m sc I D) {x : Int} {Q : En → Int → HI → HD → Prop}
    (hQ : ∀ e' I', (e' = e ∨ e' = (e.1 + 1, e.2)) → Fr ivS I I' → (paT pg x = 0 → I' 341 0 = paV pg x) → Q e' (paT pg x) I' D) : CY 141 [vR (some 0), vI x, vR (some 341)] e I D Q := by
  obtain ⟨rs, ls, hC, -, hP, hp61, -⟩ := hI.1.2.1
  have ok : ∀ z : Int, paT pg x = 0 → z = paV pg x → Q e 0 (uI I 341 0 z) D := fun z hy hz => by
    have := hQ e (uI I 341 0 z) (Or.inl rfl) iv341 (fun _ => by rw [uI_eq]; exact hz)
    rw [hy] at this; exact this
  have bad : paT pg x = 1 → Q (e.1 + 1, e.2) 1 I D := fun hy => by
    have := hQ (e.1 + 1, e.2) I (Or.inr rfl) Fr.refl (fun v => by omega)
    rw [hy] at this; exact this
  have h1 : I 154 1 = (pg.length : Int) := hP.1
  refine S141 he (S76 he ?_)
  rw [h1]
  refine ⟨fun q => Or.inr ⟨rfl, bad (by unfold paT; rw [if_pos (by omega)])⟩, fun q => ⟨fun v => ?_, fun v => Or.inr ⟨rfl, bad (by unfold paT; rw [if_pos (by omega)])⟩⟩⟩
  have hl : x.toNat < pg.length := by omega
  have hr := List.getElem?_eq_getElem hl
  have ex : x = (x.toNat : Int) := by omega
  have eT : paT pg x = 0 := by unfold paT; rw [if_neg (by omega)]
  have eV : paV pg x = pg[x.toNat] := by unfold paV; rw [hr]; rfl
  rw [ex]
  exact c18 he (A := 8) (Or.inl rfl) hP hp61 hr (Or.inl ⟨_, rfl, ok _ eT eV.symm⟩)
theorem m124 (he : HS e) (hI : INV g n s c pg w m sc I D) {x : Int} {Q : Int → HI → HD → Prop} (hQ : ∀ I' v, Fr ivS I I' → I' 341 0 = I 341 0 → I' 312 0 = paT pg x → (paT pg x = 0 → v = paV pg x) → Q v I' D) : CI 124 [vR (some 312), vI x] e I D Q := by
  have hP : PgL 0 I pg := hI.2.1.2.2.2.2.1.2.2
  obtain ⟨rs, ls, hC, -, -, hp61, -⟩ := hI.1.2.1
  have bad : paT pg x = 1 → RI 124 15 [vR (some 312), vI x] [vR (some 312)] e I D Q := fun hf =>
    S124_15 he (S124_20 he ⟨fun q => absurd q (by decide), fun _ => hQ _ 0 iv0 (by rw [uI_ne (by omega)]) (by rw [uI_eq]; exact hf.symm) (fun q => by omega)⟩)
  refine S124 he ?_
  rw [hP.1]
  refine ⟨fun q => bad (by unfold paT; rw [if_pos (by omega)]), fun q => ⟨fun v => ?_, fun v => bad (by unfold paT; rw [if_pos (by omega)])⟩⟩
  have hl : x.toNat < pg.length := by omega
  have hr := List.getElem?_eq_getElem hl
  have eT : paT pg x = 0 := by unfold paT; rw [if_neg (by omega)]
  have eV : paV pg x = pg[x.toNat] := by unfold paV; rw [hr]; rfl
  have h2 := hP.2 x.toNat _ hr
  rw [Nat.mul_zero, Nat.zero_add] at h2
  exact S124_20 he ⟨fun _ => ⟨⟨by omega, by omega⟩, hQ _ _ iv0 (by rw [uI_ne (by omega)]) (by rw [uI_eq, eT]) (fun _ => by rw [h2, eV])⟩, fun q => absurd (Int.le_refl 0) q⟩
theorem L142 (he : HS e) (hI : INV g n s c pg w m sc I D) {x : Int} {Q : En → Int → HI → HD → Prop}
    (hQ : ∀ e' I', (e' = e ∨ e' = (e.1 + 1, e.2)) → Fr ivS I I' → (tlT x = 0 → I' 341 0 = tlV s x) → Q e' (tlT x) I' D) : CY 142 [vR (some 0), vI x, vR (some 341)] e I D Q := by
  obtain ⟨rs, ls, hC, -⟩ := hI.1.2.1
  have ok : ∀ z : Int, tlT x = 0 → z = tlV s x → Q e 0 (uI I 341 0 z) D := fun z hy hz => by
    have := hQ e (uI I 341 0 z) (Or.inl rfl) iv341 (fun _ => by rw [uI_eq]; exact hz)
    rw [hy] at this; exact this
  have bad : tlT x = 1 → Q (e.1 + 1, e.2) 1 I D := fun hy => by
    have := hQ (e.1 + 1, e.2) I (Or.inr rfl) Fr.refl (fun v => by omega)
    rw [hy] at this; exact this
  refine S142 he (S78 he ⟨fun q => Or.inr ⟨rfl, bad (by unfold tlT; rw [if_pos (by omega)])⟩, fun q => ⟨fun v => ⟨fun x0 => Or.inl ⟨_, rfl, ok _ (by unfold tlT; rw [if_neg (by omega)]) ?_⟩, fun x0 => Or.inl ⟨_, rfl, ok _ (by unfold tlT; rw [if_neg (by omega)]) ?_⟩⟩, fun v => Or.inr ⟨rfl, bad (by unfold tlT; rw [if_pos (by omega)])⟩⟩⟩)
  · unfold tlV; rw [if_neg x0]; exact hC.2.1.2.2.2.2
  · unfold tlV; rw [if_pos (Decidable.not_not.mp x0)]; exact hC.2.1.2.2.2.1
theorem m126 (he : HS e) (hI : INV g n s c pg w m sc I D) {x : Int} {Q : Int → HI → HD → Prop} (hQ : ∀ I' v, Fr ivS I I' → I' 341 0 = I 341 0 → I' 312 0 = tlT x → (tlT x = 0 → v = tlV s x) → Q v I' D) : CI 126 [vR (some 312), vI x] e I D Q := by
  have hM := hI.2.1.2.2.2.2.1.1
  have bad : tlT x = 1 → RI 126 10 [vR (some 312), vI x] [vR (some 312)] e I D Q := fun hf =>
    S126_10 he (S126_15 he ⟨fun q => absurd q (by decide), fun _ => hQ _ 0 iv0 (by rw [uI_ne (by omega)]) (by rw [uI_eq]; exact hf.symm) (fun q => by omega)⟩)
  refine S126 he ⟨fun q => bad (by unfold tlT; rw [if_pos (by omega)]), fun q => ⟨fun v => S126_15 he ⟨fun _ => ⟨fun x0 => hQ _ _ iv0 (by rw [uI_ne (by omega)]) (by rw [uI_eq]; unfold tlT; rw [if_neg (by omega)]) (fun _ => ?_), fun x0 => hQ _ _ iv0 (by rw [uI_ne (by omega)]) (by rw [uI_eq]; unfold tlT; rw [if_neg (by omega)]) (fun _ => ?_)⟩, fun q => absurd (Int.le_refl 0) q⟩, fun v => bad (by unfold tlT; rw [if_pos (by omega)])⟩⟩
  · unfold tlV; rw [if_neg x0]; exact hM.2.2.2.2.1
  · unfold tlV; rw [if_pos (Decidable.not_not.mp x0)]; exact hM.2.2.2.1
theorem L145 (he : HS e) (hI : INV g n s c pg w m sc I D) {x : Int} {Q : En → Int → HI → HD → Prop}
    (hQ : ∀ e' I', (e' = e ∨ e' = (e.1 + 1, e.2)) → Fr ivS I I' → (twT s x = 0 → I' 341 0 = twV s x) → Q e' (twT s x) I' D) : CY 145 [vR (some 0), vI x, vR (some 341)] e I D Q := by
  obtain ⟨rs, ls, hC, -⟩ := hI.1.2.1
  have hM : MkL 22 I s.2.2.1 := hC.1.2.2.2
  have k22 : K0 22 = 4 := by decide
  have ok : ∀ z : Int, twT s x = 0 → z = twV s x → Q e 0 (uI I 341 0 z) D := fun z hy hz => by
    have := hQ e (uI I 341 0 z) (Or.inl rfl) iv341 (fun _ => by rw [uI_eq]; exact hz)
    rw [hy] at this; exact this
  have bad : twT s x = 1 → Q (e.1 + 1, e.2) 1 I D := fun hy => by
    have := hQ (e.1 + 1, e.2) I (Or.inr rfl) Fr.refl (fun v => by omega)
    rw [hy] at this; exact this
  refine S145 he (S81 he ?_)
  rw [hM.1.1]
  refine ⟨fun n1 => ⟨fun q => Or.inr ⟨rfl, bad (by unfold twT; rw [if_neg n1, if_pos (by omega)])⟩, fun q => ⟨fun v => ?_, fun v => Or.inr ⟨rfl, bad (by unfold twT; rw [if_neg n1, if_pos (by omega)])⟩⟩⟩, fun n1 => ?_⟩
  · have hl : x.toNat < s.2.2.1.length := by omega
    have hr := List.getElem?_eq_getElem hl
    have ex : x = (x.toNat : Int) := by omega
    rw [ex]
    exact c13 he k22 hM hr (Or.inl ⟨_, rfl, ok _ (by unfold twT; rw [if_neg n1, if_neg (by omega)]) (by unfold twV; rw [if_neg n1, hr])⟩)
  · have n1 := Decidable.not_not.mp n1
    exact Or.inl ⟨_, rfl, ok _ (by unfold twT; rw [if_pos n1]) (by unfold twV; rw [if_pos n1])⟩
theorem m129 (he : HS e) (hI : INV g n s c pg w m sc I D) {x : Int} {Q : Int → HI → HD → Prop} (hQ : ∀ I' v, Fr ivS I I' → I' 341 0 = I 341 0 → I' 312 0 = twT s x → (twT s x = 0 → v = twV s x) → Q v I' D) : CI 129 [vR (some 312), vI x] e I D Q := by
  have hM : MtL I s.2.2.1 := hI.2.1.2.2.2.2.1.1.2.2.1 rfl
  have hlen := hI.2.2.2.2.1.2
  have F1 : Fr ivS I (uI I 312 0 0) := iv0
  have bad : twT s x = 1 → RI 129 28 [vR (some 312), vI x] [vR (some 312)] e (uI I 312 0 0) D Q := fun hf =>
    S129_28 he (S129_33 he ⟨fun q => absurd q (by decide), fun _ => hQ _ 0 (F1.trans iv0) (by rw [uI_ne (by omega), uI_ne (by omega)]) (by rw [uI_eq]; exact hf.symm) (fun q => by omega)⟩)
  refine S129 he ?_
  rw [hM.1]
  refine ⟨fun n1 => ⟨fun q => bad (by unfold twT; rw [if_neg n1, if_pos (by omega)]), fun q => ⟨fun v => ?_, fun v => bad (by unfold twT; rw [if_neg n1, if_pos (by omega)])⟩⟩, fun n1 => ?_⟩
  · have hl : x.toNat < s.2.2.1.length := by omega
    have hr := List.getElem?_eq_getElem hl
    refine S129_33 he ⟨fun _ => ⟨⟨by omega, by omega⟩, hQ _ _ (F1.trans iv0) (by rw [uI_ne (by omega), uI_ne (by omega)]) (by rw [uI_eq]; unfold twT; rw [if_neg n1, if_neg (by omega)]) (fun _ => ?_)⟩, fun q => absurd (Int.le_refl 0) q⟩
    rw [uI_ne (by omega), hM.2 _ _ hr]; unfold twV; rw [if_neg n1, hr]
  · have n1 := Decidable.not_not.mp n1
    exact hQ _ _ F1 (by rw [uI_ne (by omega)]) (by rw [uI_eq]; unfold twT; rw [if_pos n1]) (fun _ => by unfold twV; rw [if_pos n1])
theorem L146 (he : HS e) (hI : INV g n s c pg w m sc I D) {x : Int} {Q : En → Int → HI → HD → Prop}
    (hQ : ∀ e' I', (e' = e ∨ e' = (e.1 + 1, e.2)) → Fr ivS I I' → (woT w x = 0 → I' 341 0 = woV w x) → Q e' (woT w x) I' D) : CY 146 [vR (some 0), vI x, vR (some 341)] e I D Q := by
  have hW := hI.1.2.2.2
  have ok : ∀ z : Int, woT w x = 0 → z = woV w x → Q e 0 (uI I 341 0 z) D := fun z hy hz => by
    have := hQ e (uI I 341 0 z) (Or.inl rfl) iv341 (fun _ => by rw [uI_eq]; exact hz)
    rw [hy] at this; exact this
  have bad : woT w x = 1 → Q (e.1 + 1, e.2) 1 I D := fun hy => by
    have := hQ (e.1 + 1, e.2) I (Or.inr rfl) Fr.refl (fun v => by omega)
    rw [hy] at this; exact this
  refine S146 he (S83 he ?_)
  rw [hW.1]
  refine ⟨fun n1 => ⟨fun q => Or.inr ⟨rfl, bad (by unfold woT; rw [if_pos (by omega)])⟩, fun q => ⟨fun v => ?_, fun v => Or.inr ⟨rfl, bad (by unfold woT; rw [if_pos (by omega)])⟩⟩⟩, fun n1 => ?_⟩
  · have hl : x.toNat < w.length := by omega
    have hr := List.getElem?_eq_getElem hl
    have ex : x = (x.toNat : Int) := by omega
    rw [ex]
    exact c60 he hW (by omega) hr (Or.inl ⟨_, rfl, ok _ (by unfold woT; rw [if_neg (by omega)]) (by unfold woV; rw [if_neg n1, hr]; rfl)⟩)
  · have n1 := Decidable.not_not.mp n1
    exact Or.inl ⟨_, rfl, ok _ (by unfold woT; rw [if_neg (by omega)]) (by unfold woV; rw [if_pos n1])⟩
theorem m136 (he : HS e) (hI : INV g n s c pg w m sc I D) {x : Int} {Q : Int → HI → HD → Prop} (hQ : ∀ I' v, Fr ivS I I' → I' 341 0 = I 341 0 → I' 312 0 = woT w x → (woT w x = 0 → v = woV w x) → Q v I' D) : CI 136 [vR (some 312), vI x] e I D Q := by
  have hW := hI.2.1.2.2.2.2.2
  have bad : woT w x = 1 → RI 136 14 [vR (some 312), vI x] [vR (some 312)] e I D Q := fun hf =>
    S136_14 he (S136_19 he ⟨fun q => absurd q (by decide), fun _ => hQ _ 0 iv0 (by rw [uI_ne (by omega)]) (by rw [uI_eq]; exact hf.symm) (fun q => by omega)⟩)
  refine S136 he ?_
  rw [hW.1]
  refine ⟨fun q => bad (by unfold woT; rw [if_pos (by omega)]), fun q => ⟨fun v => S136_19 he ⟨fun _ => ⟨fun n1 => ⟨⟨by omega, by omega⟩, hQ _ _ iv0 (by rw [uI_ne (by omega)]) (by rw [uI_eq]; unfold woT; rw [if_neg (by omega)]) (fun _ => ?_)⟩, fun n1 => hQ _ _ iv0 (by rw [uI_ne (by omega)]) (by rw [uI_eq]; unfold woT; rw [if_neg (by omega)]) (fun _ => ?_)⟩, fun q => absurd (Int.le_refl 0) q⟩, fun v => bad (by unfold woT; rw [if_pos (by omega)])⟩⟩
  · have hl : x.toNat < w.length := by omega
    have hr := List.getElem?_eq_getElem hl
    rw [hW.2 _ _ (by omega) hr]; unfold woV; rw [if_neg n1, hr]; rfl
  · rw [hW.1]; unfold woV; rw [if_pos (Decidable.not_not.mp n1)]
theorem L144 (he : HS e) (hI : INV g n s c pg w m sc I D) {x : Int} {Q : En → Int → HI → HD → Prop}
    (hQ : ∀ e' I', (e' = e ∨ e' = (e.1 + 1, e.2)) → Fr ivS I I' → (whT s x = 0 → I' 341 0 = whV s x) → Q e' (whT s x) I' D) : CY 144 [vR (some 0), vI x, vR (some 341)] e I D Q := by
  obtain ⟨rs, ls, hC, -⟩ := hI.1.2.1
  refine S144 he (S80 he (c35' he (Or.inl rfl) hC (fun q => ⟨fun _ => ?_, fun u v => by cases v⟩) fun f hf hx hk hcf => ⟨fun v => (by cases v), fun u v => ?_⟩))
  · have e1 : whT s x = 1 := by unfold whT; rw [q]
    have := hQ (e.1 + 1, e.2) I (Or.inr rfl) Fr.refl (fun v => by omega)
    rw [e1] at this
    exact Or.inr ⟨rfl, this⟩
  · cases v
    obtain ⟨⟨z2, z3, z4, z5, z6, z7, -⟩, -⟩ := hcf
    have e1 : whT s x = 0 := by unfold whT; rw [hf]
    have e2 : whV s x = b2i (whF f) := by unfold whV; rw [hf]
    have ok : ∀ z : Int, z = b2i (whF f) → Q e 0 (uI I 341 0 z) D := fun z hz => by
      have := hQ e (uI I 341 0 z) (Or.inl rfl) iv341 (fun _ => by rw [uI_eq, e2]; exact hz)
      rw [e1] at this; exact this
    rw [z5, z6, z7]
    have s0 : whF f = false → RY 144 15 [vJ, vJ, vJ, vJ] [vL 0, vI 0, vR (some 341)] e I D Q := fun h => S144_15 he ⟨⟨by decide, by decide⟩, ok 0 (by rw [h]; rfl)⟩
    have s1 : whF f = true → RY 144 15 [vJ, vJ, vJ, vJ] [vL 1, vI 0, vR (some 341)] e I D Q := fun h => S144_15 he ⟨⟨by decide, by decide⟩, ok 1 (by rw [h]; rfl)⟩
    have r0 : whF f = false → (∃ z4, (Sum.inl (some (vI 0)) : Res) = .inl (some (vI z4)) ∧ ((z4 = 0 → RY 144 15 [vJ, vJ, vJ, vJ] [vL 0, vI 0, vR (some 341)] e I D Q) ∧ (¬ (z4 = 0) → RY 144 15 [vJ, vJ, vJ, vJ] [vL 1, vI 0, vR (some 341)] e I D Q))) := fun h => ⟨0, rfl, fun _ => s0 h, fun q => absurd rfl q⟩
    have r1 : whF f = true → (∃ z4, (Sum.inl (some (vI 1)) : Res) = .inl (some (vI z4)) ∧ ((z4 = 0 → RY 144 15 [vJ, vJ, vJ, vJ] [vL 0, vI 0, vR (some 341)] e I D Q) ∧ (¬ (z4 = 0) → RY 144 15 [vJ, vJ, vJ, vJ] [vL 1, vI 0, vR (some 341)] e I D Q))) := fun h => ⟨1, rfl, fun q => absurd q (by decide), fun _ => s1 h⟩
    refine ⟨hk, fun q => Or.inl (r0 (by unfold whF; rw [b2i_0.mp q]; rfl)), fun q => ⟨fun v => S80_42 he (Or.inl (r1 (by unfold whF; rw [b2i_n q, b2i_0.mp v]; rfl))), fun v => ⟨fun t => Or.inl (r0 (by unfold whF; rw [b2i_n q, b2i_n v, b2i_0.mp t]; rfl)), fun t => S80_42 he (Or.inl (r1 (by unfold whF; rw [b2i_n q, b2i_n v, b2i_n t]; rfl)))⟩⟩⟩
theorem m128 (he : HS e) (hI : INV g n s c pg w m sc I D) {x : Int} {Q : Int → HI → HD → Prop} (hQ : ∀ I' v, Fr ivS I I' → I' 341 0 = I 341 0 → I' 312 0 = whT s x → (whT s x = 0 → v = whV s x) → Q v I' D) : CI 128 [vR (some 312), vI x] e I D Q := by
  have hMS := hI.s0.2.1.2.2.2.2.1
  refine S128 he (m119 he hI ?_)
  have k5 : ∀ z, (uI (uI I 312 4 0) 312 0 z) 341 0 = I 341 0 := fun z => by rw [uI_ne (by omega), uI_ne (by omega)]
  cases ho : obO s.1 x with
  | none =>
    have e1 : whT s x = 1 := by unfold whT; rw [ho]
    exact ⟨fun _ => S128_14 he ⟨fun _ => hQ _ 0 (iv4.trans iv0) (k5 _) (by rw [uI_eq, e1]) (fun q => by omega), fun q => absurd (by decide) q⟩, fun q => absurd rfl q⟩
  | some f =>
    have hx := obO_x ho
    have e1 : whT s x = 0 := by unfold whT; rw [ho]
    have e2 : whV s x = b2i (whF f) := by unfold whV; rw [ho]
    have mo := hMS.1.1 x.toNat (by omega) (by omega)
    rw [hx.2, Nat.mul_zero, Nat.zero_add] at mo
    refine ⟨fun q => absurd q (by show ¬ (1 : Int) = 0; decide), fun _ => S128_14 he ⟨fun q => absurd rfl q, fun _ => ⟨⟨by omega, by omega⟩, ?_⟩⟩⟩
    rw [mo.2.2.2.2.1]
    refine ⟨fun v => hQ _ 0 (iv4.trans iv0) (k5 _) (by rw [uI_eq, e1]) (fun _ => by rw [e2, v]), fun v => hQ _ 1 (iv4.trans iv0) (k5 _) (by rw [uI_eq, e1]) (fun _ => by rw [e2, b2i_n v]; rfl)⟩
theorem L143 (he : HS e) (hI : INV g n s c pg w m sc I D) {x y : Int} {Q : En → Int → HI → HD → Prop}
    (hQ : ∀ e' I', (e' = e ∨ e' = (e.1 + 1, e.2)) → Fr ivS I I' → (srT s x y = 0 → I' 341 0 = srV g s x y) → Q e' (srT s x y) I' D) : CY 143 [vR (some 0), vI x, vI y, vR (some 341)] e I D Q := by
  have hok := hI.2.2.1
  obtain ⟨rs, ls, hC, -, -, -, hn, hby, -⟩ := hI.1.2.1
  have h3 := (caps (Or.inl rfl) hn.2).1
  have bad : ∀ t : Int, 0 < t → srT s x y = t → Q (e.1 + 1, e.2) t I D := fun t ht hy => by
    have := hQ (e.1 + 1, e.2) I (Or.inr rfl) Fr.refl (fun v => by omega)
    rw [hy] at this; exact this
  refine S143 he (S79 he (c35' he (Or.inl rfl) hC (fun q => ⟨fun _ => Or.inr (Or.inl ⟨rfl, bad 1 (by omega) (by unfold srT; rw [q])⟩), fun u v => by cases v⟩) fun f hf hx hk hcf => ⟨fun v => (by cases v), fun u v => ?_⟩))
  cases v
  obtain ⟨⟨z2, z3, z4, z5, z6, z7, z9, z10⟩, -⟩ := hcf
  have bd := (hok _ _ hx.2).bd.2.2.1
  have eT : srT s x y = (if f.2.2.2.2.1 = true then (if y < -1 ∨ f.2.2.2.2.2.2.2 - f.2.2.2.2.2.2.1 ≤ y then 2 else 0) else 1) := by unfold srT; rw [hf]
  have eV : srV g s x y = (if y = -1 then f.2.2.2.2.2.2.2 - f.2.2.2.2.2.2.1 else g (f.2.2.2.2.2.2.1 + y)) := by unfold srV; rw [hf]
  have ok : ∀ z : Int, srT s x y = 0 → z = srV g s x y → Q e 0 (uI I 341 0 z) D := fun z hy hz => by
    have := hQ e (uI I 341 0 z) (Or.inl rfl) iv341 (fun _ => by rw [uI_eq]; exact hz)
    rw [hy] at this; exact this
  rw [z6, z9, z10]
  refine ⟨hk, fun q => ?_, fun q => Or.inr (Or.inl ⟨rfl, bad 1 (by omega) (by rw [eT, if_neg (by rw [b2i_0.mp (Decidable.not_not.mp q)]; decide)])⟩)⟩
  rw [if_pos (b2i_n q)] at eT
  refine ⟨fun n1 => ⟨fun v => Or.inr (Or.inr ⟨rfl, bad 2 (by omega) (by rw [eT, if_pos (by omega)])⟩), fun v => ⟨⟨by omega, by omega⟩, fun u => ⟨⟨by omega, by omega⟩, c37 he (A := 8) (Or.inl rfl) hC.2.1.1 hn.2 ?_⟩, fun u => Or.inr (Or.inr ⟨rfl, bad 2 (by omega) (by rw [eT, if_pos (by omega)])⟩)⟩⟩, fun n1 => ⟨⟨by omega, by omega⟩, ?_⟩⟩
  · rw [if_pos (by omega), hby _ (by omega) (by omega)]
    exact Or.inl ⟨_, rfl, ok _ (by rw [eT, if_neg (by omega)]) (by rw [eV, if_neg n1])⟩
  · have n1 := Decidable.not_not.mp n1
    exact Or.inl ⟨_, rfl, ok _ (by rw [eT, if_neg (by omega)]) (by rw [eV, if_pos n1])⟩
theorem m127 (he : HS e) (hI : INV g n s c pg w m sc I D) {x y : Int} {Q : Int → HI → HD → Prop} (hQ : ∀ I' v, Fr ivS I I' → I' 341 0 = I 341 0 → I' 312 0 = srT s x y → (srT s x y = 0 → v = srV g s x y) → Q v I' D) : CI 127 [vR (some 312), vI x, vI y] e I D Q := by
  have hI4 := hI.s0
  have hMS := hI4.2.1.2.2.2.2.1
  have hok := hI.2.2.1
  have b5 := hI.2.1.2.2.2.1.2.1
  refine S127 he (m119 he hI ?_)
  have k5 : ∀ z, (uI (uI I 312 4 0) 312 0 z) 341 0 = I 341 0 := fun z => by rw [uI_ne (by omega), uI_ne (by omega)]
  have bad1 : srT s x y = 1 → RI 127 18 [vR (some 312), vI x, vI y, vJ] [vR (some 312)] e (uI I 312 4 0) D Q := fun h =>
    S127_18 he (S127_23 he ⟨fun q => absurd q (by decide), fun _ => hQ _ 0 (iv4.trans iv0) (k5 _) (by rw [uI_eq, h]) (fun q => by omega)⟩)
  cases ho : obO s.1 x with
  | none => exact ⟨fun _ => bad1 (by unfold srT; rw [ho]), fun q => absurd rfl q⟩
  | some f =>
    have hx := obO_x ho
    have bd := (hok _ _ hx.2).bd.2.2.1
    have eT : srT s x y = (if f.2.2.2.2.1 = true then (if y < -1 ∨ f.2.2.2.2.2.2.2 - f.2.2.2.2.2.2.1 ≤ y then 2 else 0) else 1) := by unfold srT; rw [ho]
    have eV : srV g s x y = (if y = -1 then f.2.2.2.2.2.2.2 - f.2.2.2.2.2.2.1 else g (f.2.2.2.2.2.2.1 + y)) := by unfold srV; rw [ho]
    have mo := hMS.1.1 x.toNat (by omega) (by omega)
    rw [hx.2, Nat.mul_zero, Nat.zero_add] at mo
    refine ⟨fun q => absurd q (by show ¬ (1 : Int) = 0; decide), fun _ => ⟨⟨by omega, by omega⟩, ?_⟩⟩
    rw [mo.2.2.2.2.2.1]
    cases hs : f.2.2.2.2.1 with
    | false =>
      have dt : dtF f = -1 := if_neg (by rw [hs]; decide)
      rw [hs, if_neg (by decide)] at eT
      rw [dt]
      exact ⟨fun q => by omega, fun _ => bad1 eT⟩
    | true =>
      have dt : dtF f = f.2.2.2.2.2.2.1 := if_pos hs
      have de : deF f = f.2.2.2.2.2.2.2 := if_pos hs
      rw [hs, if_pos rfl] at eT
      rw [dt]
      refine ⟨fun _ => S127_23 he ⟨fun _ => ?_, fun q => absurd (Int.le_refl 0) q⟩, fun q => by omega⟩
      rw [mo.2.2.2.2.2.1, mo.2.2.2.2.2.2, dt, de]
      have k6 : ∀ z z2, (uI (uI (uI I 312 4 0) 312 0 z) 312 0 z2) 341 0 = I 341 0 := fun z z2 => by rw [uI_ne (by omega)]; exact k5 z
      have bad2 : srT s x y = 2 → RI 127 60 [vR (some 312), vI x, vI y, vI (f.2.2.2.2.2.2.2 - f.2.2.2.2.2.2.1)] [vR (some 312)] e (uI (uI I 312 4 0) 312 0 0) D Q := fun h =>
        S127_60 he (S127_65 he ⟨fun q => absurd q (by decide), fun _ => hQ _ 0 ((iv4.trans iv0).trans iv0) (k6 _ _) (by rw [uI_eq, h]) (fun q => by omega)⟩)
      refine ⟨⟨by omega, by omega⟩, ⟨by omega, by omega⟩, ⟨by omega, by omega⟩, fun q => bad2 (by rw [eT, if_pos (by omega)]), fun q => ⟨fun v => S127_65 he ⟨fun _ => ⟨fun n1 => ⟨⟨by omega, by omega⟩, ?_⟩, fun n1 => hQ _ _ ((iv4.trans iv0).trans iv0) (k6 _ _) (by rw [uI_eq, eT, if_neg (by omega)]) (fun _ => by rw [eV, if_pos (Decidable.not_not.mp n1)])⟩, fun q => absurd (Int.le_refl 0) q⟩, fun v => bad2 (by rw [eT, if_pos (by omega)])⟩⟩
      have F6 : Fr ivS I (uI (uI (uI I 312 4 0) 312 0 0) 312 0 0) := (iv4.trans iv0).trans iv0
      have hM6 := (hI.fr F6).mob (by rw [uI_ne (by omega), uI_ne (by omega), uI_eq])
      have e321 : (uI (uI I 312 4 0) 312 0 0) 321 x.toNat = f.2.2.2.2.2.2.1 := by rw [uI_ne (by omega), mo.2.2.2.2.2.1, dt]
      rw [e321]
      exact ⟨⟨by omega, by omega⟩, m88 he hM6 (by omega) (by omega) (hQ _ _ F6 (k6 _ _) (by rw [uI_eq, eT, if_neg (by omega)]) (fun _ => by rw [eV, if_neg n1]))⟩
end
