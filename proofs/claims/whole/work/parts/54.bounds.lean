/-! the places of an object in their order, and how much it can bring -/
section
variable {g : Int → Int} {n : Int}
theorem kF_9 {p : Int} (hk : kF' g n p = 9) : p < n ∧ eF g n p = p + 2 := by
  have hn : ¬ (n ≤ p ∨ g p ≤ 32 ∨ g p = 37) := fun q => by unfold kF' at hk; rw [if_pos q] at hk; omega
  unfold kF' at hk
  rw [if_neg hn] at hk
  refine ⟨by omega, ?_⟩
  split at hk
  · unfold knF at hk
    repeat (first | omega | split at hk)
  · unfold ksF at hk
    repeat (first | omega | assumption | split at hk)
theorem dR_ok {p0 : Int} (h0 : 0 ≤ p0) (h1 : p0 ≤ n) (hs : skp g n p0 = p0) {r0 l0 : Nat} (h5 : 5 * (r0 : Int) ≤ p0) (h8 : 8 * (l0 : Int) ≤ p0) :
    p0 ≤ (dR g n p0).1 ∧ (dR g n p0).1 ≤ n ∧ 5 * ((r0 + (dR g n p0).2.2.2.length : Nat) : Int) ≤ (dR g n p0).1 ∧ 8 * ((l0 + (lnL g n (dR g n p0).2.2.1).length : Nat) : Int) ≤ (dR g n p0).1 ∧ 5 * ((dR g n p0).2.2.2.length : Int) ≤ (dR g n p0).1 - p0 + 2 := by
  unfold dR
  split
  · rename_i k9
    have k := kF_9 k9
    have nb := nxF_bd (g := g) h1
    have sb := skp_bd (g := g) (eF_bd (g := g) h1).2.1
    have n2 : p0 + 2 ≤ nxF g n p0 := by unfold nxF; omega
    have hB := Bd_en (g := g) h1 hs
    have ns : enS g n p0 = false := by unfold enS; rw [k9]; rfl
    have hP : onW g n (enS g n) (enW g n p0) (nxF g n p0) := ⟨⟨by omega, nb.2.1⟩, skp_skp (eF_bd (g := g) h1).2.1, (wW_go (fun w => by rcases w with w | w; rw [ns] at w; cases w; omega)).symm⟩
    have a := dic_ok hB r0 l0 4000 (nxF g n p0) [] [] hP (by simp; omega) (by simp [lnL]; omega)
    have b := dic_ok hB (nxF g n p0 / 5).toNat 0 4000 (nxF g n p0) [] [] hP (by simp; omega) (by simp [lnL]; omega)
    have := hB.1
    exact ⟨by omega, by omega, a.2.2.2.1, a.2.2.2.2, by have := b.2.2.2.1; omega⟩
  · exact ⟨Int.le_refl _, h1, by simpa using h5, by simpa [lnL] using h8, by simp⟩
theorem stE_bd {d l : Int} (h0 : 0 ≤ d) (h1 : d ≤ n) (h : 0 ≤ stE g n d l) : d ≤ stE g n d l ∧ stE g n d l + 9 ≤ n := by
  unfold stE at *
  split
  · rename_i c; have := ebL_bd h0 c; omega
  · rename_i c; rw [if_neg c] at h; exact ebW_bd h1 h
theorem ob_bd {h : Int} (h0 : 0 ≤ h) (h1 : h ≤ n) (hk : kF' g n h = 5) :
    (h + 7 ≤ e3F g n h ∧ e3F g n h ≤ obP g n h ∧ obP g n h ≤ n ∧ skp g n (obP g n h) = obP g n h) ∧ (obP g n h ≤ (dR g n (obP g n h)).1 ∧ (dR g n (obP g n h)).1 ≤ n) ∧
    ((dR g n (obP g n h)).1 ≤ ob1 g n h ∧ ob1 g n h ≤ n ∧ skp g n (ob1 g n h) = ob1 g n h) ∧ (obS g n h = true → ob1 g n h + 7 ≤ obD g n h ∧ obD g n h ≤ n ∧ obD g n h ≤ ob2 g n h) ∧
    (ob1 g n h ≤ ob2 g n h ∧ ob2 g n h ≤ n ∧ skp g n (ob2 g n h) = ob2 g n h) ∧ (ob2 g n h ≤ obE g n h ∧ obE g n h ≤ n ∧ skp g n (obE g n h) = obE g n h) ∧ (obE g n h ≤ obN g n h ∧ obN g n h ≤ n ∧ skp g n (obN g n h) = obN g n h) := by
  have a := hd_5 h1 hk
  have b1 : e3F g n h ≤ obP g n h ∧ obP g n h ≤ n := skp_bd (g := g) a.2.2.2.2.2.2
  have b2 : skp g n (obP g n h) = obP g n h := skp_skp (g := g) a.2.2.2.2.2.2
  have c := dR_ok (g := g) (n := n) (p0 := obP g n h) (by omega) b1.2 b2 (r0 := 0) (l0 := 0) (by omega) (by omega)
  have d1 : (dR g n (obP g n h)).1 ≤ ob1 g n h ∧ ob1 g n h ≤ n := skp_bd (g := g) c.2.1
  have d2 : skp g n (ob1 g n h) = ob1 g n h := skp_skp (g := g) c.2.1
  have hS : obS g n h = true → ob1 g n h + 7 ≤ obD g n h ∧ obD g n h ≤ n := by
    intro w
    unfold obS at w
    simp only [Bool.and_eq_true, beq_iff_eq] at w
    have l := tx_len w.2.1
    have l6 : (zstr 23).length = 6 := by decide
    have g10 := w.2.2
    unfold gb at g10
    split at g10
    · rename_i q; unfold obD; omega
    · omega
  have hY : obS g n h = true → 0 ≤ obY g n h → obD g n h ≤ obY g n h ∧ obY g n h + 9 ≤ n := fun w v => stE_bd (by have := hS w; omega) (hS w).2 v
  have o2 : ob1 g n h ≤ ob2 g n h ∧ ob2 g n h ≤ n ∧ skp g n (ob2 g n h) = ob2 g n h ∧ (obS g n h = true → obD g n h ≤ ob2 g n h) := by
    by_cases w : obS g n h = true
    · have s := hS w
      have y := hY w
      have le : (if 0 ≤ obY g n h then obY g n h + 9 else n) ≤ n ∧ obD g n h ≤ (if 0 ≤ obY g n h then obY g n h + 9 else n) := by
        split
        · rename_i q; have := y q; omega
        · omega
      have e2 : ob2 g n h = skp g n (if 0 ≤ obY g n h then obY g n h + 9 else n) := if_pos w
      have k1 := skp_bd (g := g) le.1
      rw [e2]
      exact ⟨by omega, k1.2, skp_skp le.1, fun _ => by omega⟩
    · have e2 : ob2 g n h = ob1 g n h := if_neg w
      rw [e2]
      exact ⟨Int.le_refl _, d1.2, d2, fun q => absurd q w⟩
  have e1 := wW_bd (S := enS g n) o2.2.1 o2.2.2.1
  have o3 : obE g n h ≤ obN g n h ∧ obN g n h ≤ n ∧ skp g n (obN g n h) = obN g n h := by
    unfold obN
    have nb := nxF_bd (g := g) e1.2.1
    split
    · exact ⟨nb.1, nb.2.1, skp_skp (eF_bd (g := g) e1.2.1).2.1⟩
    · exact ⟨Int.le_refl _, e1.2.1, e1.2.2.2⟩
  exact ⟨⟨a.2.2.2.2.2.1, b1.1, b1.2, b2⟩, ⟨c.1, c.2.1⟩, ⟨d1.1, d1.2, d2⟩, fun w => ⟨(hS w).1, (hS w).2, o2.2.2.2 w⟩, ⟨o2.1, o2.2.1, o2.2.2.1⟩, ⟨e1.1, e1.2.1, e1.2.2.2⟩, o3⟩
def rfN (g : Int → Int) (n : Int) : Option FR → Nat
  | some f => (dR g n (skp g n f.2.1)).2.2.2.length
  | none => 0
def tot (g : Int → Int) (n : Int) (fo : Nat → Option FR) : Nat := ((List.range 61).map fun i => rfN g n (fo i)).sum
theorem tot_up {fo : Nat → Option FR} {i : Nat} {f : FR} : tot g n (fun j => if j = i then some f else fo j) ≤ tot g n fo + rfN g n (some f) := by
  have gen : ∀ N : Nat, ((List.range N).map fun j => rfN g n (if j = i then some f else fo j)).sum ≤ ((List.range N).map fun j => rfN g n (fo j)).sum + (if i < N then rfN g n (some f) else 0) := by
    intro N
    induction N with
    | zero => simp
    | succ N ih =>
      rw [List.range_succ, List.map_append, List.map_append, List.sum_append, List.sum_append]
      simp only [List.map_cons, List.map_nil, List.sum_cons, List.sum_nil, Nat.add_zero]
      by_cases c : N = i
      · subst c
        rw [if_neg (Nat.lt_irrefl _)] at ih
        rw [if_pos rfl, if_pos (Nat.lt_succ_self _)]
        omega
      · rw [if_neg c]
        by_cases d : i < N
        · rw [if_pos d] at ih; rw [if_pos (by omega)]; omega
        · rw [if_neg d] at ih; rw [if_neg (by omega)]; omega
  have := gen 61
  unfold tot
  dsimp only
  split at this <;> omega
theorem tot_0 : tot g n (fun _ => none) = 0 := by
  show ((List.range 61).map fun _ => 0).sum = 0
  decide
/-- what a scan that came to p can have brought -/
def WT (g : Int → Int) (n p : Int) (s : SC) : Prop := 3 * (s.2.1.length : Int) + 3 * (tot g n s.1 : Int) ≤ p + 3 ∧ 7 * (s.2.2.1.length : Int) ≤ p
theorem obM_le {h : Int} : (obM g n h).length ≤ 2 ∧ (obS g n h = false → (obM g n h).length = 0) := by
  unfold obM
  split
  · rename_i c
    refine ⟨?_, fun q => by rw [c] at q; cases q⟩
    unfold stM
    rw [List.length_append]
    split <;> split <;> simp
  · simp
theorem obM2_le {h : Int} : (obM2 g n h).length ≤ 1 := by
  unfold obM2
  split <;> simp
theorem WT_ob {h : Int} (h0 : 0 ≤ h) (h1 : h ≤ n) (hk : kF' g n h = 5) {s : SC} (hw : WT g n h s) : WT g n (obN g n h) (obX g n h s) := by
  obtain ⟨⟨b1, b2, b3, b4⟩, ⟨b5, b6⟩, ⟨b7, b8, b9⟩, b10, ⟨b11, b12, b13⟩, ⟨b14, b15, b16⟩, b17, b18, b19⟩ := ob_bd h0 h1 hk
  have c := dR_ok (g := g) (n := n) (p0 := obP g n h) (by omega) b3 b4 (r0 := 0) (l0 := 0) (by omega) (by omega)
  have m1 := obM_le (g := g) (n := n) (h := h)
  have m2 := obM2_le (g := g) (n := n) (h := h)
  obtain ⟨w1, w2⟩ := hw
  have gain : 3 * ((obM g n h).length : Int) + 6 + 3 * (rfN g n (some (obF g n h)) : Int) ≤ obN g n h - h := by
    have e1 : rfN g n (some (obF g n h)) = (dR g n (obP g n h)).2.2.2.length := rfl
    rw [e1]
    cases hS : obS g n h with
    | true => have := b10 hS; omega
    | false => have := m1.2 hS; omega
  by_cases cc : obC g n h = true
  · have eX : obX g n h s = (s.1, s.2.1 ++ obM g n h ++ [(h, h, 10)], s.2.2.1, s.2.2.2.1, s.2.2.2.2.1, mF g n h) := if_pos cc
    rw [eX]
    unfold WT
    simp only [List.length_append, List.length_cons, List.length_nil]
    generalize obN g n h = N at *
    generalize rfN g n (some (obF g n h)) = R at *
    omega
  · have tu := tot_up (g := g) (n := n) (fo := s.1) (i := (mF g n h).toNat) (f := obF g n h)
    have eX : obX g n h s = (fun i => if i = (mF g n h).toNat then some (obF g n h) else s.1 i,
      s.2.1 ++ obM g n h ++ obM2 g n h ++ (match s.1 (mF g n h).toNat with | some f => [(f.1, f.1, 4)] | none => []),
      s.2.2.1 ++ (match s.1 (mF g n h).toNat with | some _ => [(h, obE g n h, mF g n h)] | none => []), s.2.2.2) := if_neg cc
    have l1 : (match s.1 (mF g n h).toNat with | some f => [(f.1, f.1, (4 : Int))] | none => []).length ≤ 1 := by split <;> simp
    have l2 : (match s.1 (mF g n h).toNat with | some _ => [(h, obE g n h, mF g n h)] | none => []).length ≤ 1 := by split <;> simp
    rw [eX]
    unfold WT
    simp only [List.length_append]
    generalize (match s.1 (mF g n h).toNat with | some f => [(f.1, f.1, (4 : Int))] | none => []).length = X1 at *
    generalize (match s.1 (mF g n h).toNat with | some _ => [(h, obE g n h, mF g n h)] | none => []).length = X2 at *
    generalize (tot g n fun i => if i = (mF g n h).toNat then some (obF g n h) else s.1 i) = X3 at *
    generalize obN g n h = N at *
    generalize rfN g n (some (obF g n h)) = R at *
    omega
end
