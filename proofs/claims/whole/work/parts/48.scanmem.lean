/-! how the class holds a scan -/
/-- the dictionary at d of an object whose text begins at t; its references and lengths are slices of rs and ls -/
def CD (g : Int → Int) (n : Int) (I : HI) (d : Nat) (rs ls : RfL) (t : Int) : Prop := ∃ r0 l0 : Nat,
  I d 0 = (if kF' g n (skp g n t) = 9 then eF g n (skp g n t) else t) ∧ I d 1 = (if kF' g n (skp g n t) = 9 then (dR g n (skp g n t)).1 else t) ∧ I d 2 = b2i (dR g n (skp g n t)).2.1 ∧
  (∀ k, 3 ≤ k → k ≤ 9 → I d k = dfF g n r0 (dR g n (skp g n t)).2.2.1 k) ∧ I d 10 = r0 ∧ I d 11 = ((r0 + (dR g n (skp g n t)).2.2.2.length : Nat) : Int) ∧ I d 12 = l0 ∧ I d 13 = ((l0 + (lnL g n (dR g n (skp g n t)).2.2.1).length : Nat) : Int) ∧
  (r0 + (dR g n (skp g n t)).2.2.2.length ≤ rs.length ∧ ∀ (j : Nat) (r : Int × Int × Int), (dR g n (skp g n t)).2.2.2[j]? = some r → rs[r0 + j]? = some r) ∧
  (l0 + (lnL g n (dR g n (skp g n t)).2.2.1).length ≤ ls.length ∧ ∀ (j : Nat) (r : Int × Int × Int), (lnL g n (dR g n (skp g n t)).2.2.1)[j]? = some r → ls[l0 + j]? = some r)
def CF (g : Int → Int) (n : Int) (I : HI) (F : Nat) (rs ls : RfL) (f : FR) : Prop :=
  (I F 2 = f.1 ∧ I F 3 = f.2.1 ∧ I F 4 = f.2.2.1 ∧ I F 5 = b2i f.2.2.2.1 ∧ I F 6 = b2i f.2.2.2.2.1 ∧ I F 7 = b2i f.2.2.2.2.2.1 ∧ I F 9 = f.2.2.2.2.2.2.1 ∧ I F 10 = f.2.2.2.2.2.2.2) ∧ CD g n I (F + 1) rs ls f.2.1
theorem CD.fr {g : Int → Int} {n : Int} {S : Nat → Nat → Prop} {I I' : HI} {d : Nat} {rs ls : RfL} {t : Int} (h : CD g n I d rs ls t) (hf : Fr S I I') (hs : ∀ k, ¬ S d k) : CD g n I' d rs ls t := by
  have e : ∀ k, I' d k = I d k := fun k => hf _ _ (hs k)
  obtain ⟨r0, l0, a0, a1, a2, a3, a4, a5, a6, a7, a8⟩ := h
  exact ⟨r0, l0, by rw [e]; exact a0, by rw [e]; exact a1, by rw [e]; exact a2, fun k u v => by rw [e]; exact a3 k u v, by rw [e]; exact a4, by rw [e]; exact a5, by rw [e]; exact a6, by rw [e]; exact a7, a8⟩
theorem CD.app {g : Int → Int} {n : Int} {I : HI} {d : Nat} {rs ls rs' ls' : RfL} {t : Int} (h : CD g n I d rs ls t) : CD g n I d (rs ++ rs') (ls ++ ls') t := by
  obtain ⟨r0, l0, a0, a1, a2, a3, a4, a5, a6, a7, ⟨a8, a9⟩, a10, a11⟩ := h
  refine ⟨r0, l0, a0, a1, a2, a3, a4, a5, a6, a7, ⟨by rw [List.length_append]; omega, fun j r hr => ?_⟩, by rw [List.length_append]; omega, fun j r hr => ?_⟩
  · have := a9 j r hr
    rw [List.getElem?_append_left (List.getElem?_eq_some_iff.mp this).1]; exact this
  · have := a11 j r hr
    rw [List.getElem?_append_left (List.getElem?_eq_some_iff.mp this).1]; exact this
theorem CF.fr {g : Int → Int} {n : Int} {S : Nat → Nat → Prop} {I I' : HI} {F : Nat} {rs ls : RfL} {f : FR} (h : CF g n I F rs ls f) (hf : Fr S I I') (h1 : ∀ k, k ≠ 1 → ¬ S F k) (h2 : ∀ k, ¬ S (F + 1) k) : CF g n I' F rs ls f := by
  obtain ⟨⟨a2, a3, a4, a5, a6, a7, a9, a10⟩, c⟩ := h
  have e : ∀ k, k ≠ 1 → I' F k = I F k := fun k q => hf _ _ (h1 k q)
  exact ⟨⟨by rw [e 2 (by omega)]; exact a2, by rw [e 3 (by omega)]; exact a3, by rw [e 4 (by omega)]; exact a4, by rw [e 5 (by omega)]; exact a5, by rw [e 6 (by omega)]; exact a6, by rw [e 7 (by omega)]; exact a7, by rw [e 9 (by omega)]; exact a9, by rw [e 10 (by omega)]; exact a10⟩, c.fr hf h2⟩
theorem CF.app {g : Int → Int} {n : Int} {I : HI} {F : Nat} {rs ls rs' ls' : RfL} {f : FR} (h : CF g n I F rs ls f) : CF g n I F (rs ++ rs') (ls ++ ls') f := ⟨h.1, h.2.app⟩
/-- the objects' places: each its own -/
def PM (A : Nat) (D : HD) : Prop := (∀ i, i < 61 → K0 (D (A + 21) i) = 3 ∧ A + 22 ≤ D (A + 21) i ∧ D (A + 21) i + 1 < A + 146) ∧ (K0 (D A 10) = 3 ∧ A + 22 ≤ D A 10 ∧ D A 10 + 1 < A + 146) ∧
  (∀ i j, i < 61 → j < 61 → D (A + 21) i = D (A + 21) j → i = j) ∧ ∀ i, i < 61 → D (A + 21) i ≠ D A 10
def cnt (fo : Nat → Option FR) : Nat := ((List.range 61).filter fun i => (fo i).isSome).length
def oneF (g : Int → Int) (n : Int) (I : HI) (F : Nat) (rs ls : RfL) : Option FR → Prop
  | none => I F 1 = 0
  | some f => I F 1 = 1 ∧ CF g n I F rs ls f
/-- the class's memory holds the scan s, its references and lengths are rs and ls -/
def CS (g : Int → Int) (n : Int) (A : Nat) (I : HI) (D : HD) (s : SC) (rs ls : RfL) : Prop :=
  (MkL (A + 2) I rs ∧ MkL (A + 6) I ls ∧ MkL (A + 10) I s.2.1 ∧ MkL (A + 14) I s.2.2.1) ∧ (I A 2 = n ∧ I A 11 = (cnt s.1 : Int) ∧ I A 12 = s.2.2.2.2.2 ∧ I A 13 = s.2.2.2.1 ∧ I A 14 = s.2.2.2.2.1) ∧ PM A D ∧ ∀ i, i < 61 → oneF g n I (D (A + 21) i) rs ls (s.1 i)
theorem f1K {F F' : Nat} (h : K0 F = 3) (h' : K0 F' = 3) : F + 1 ≠ F' ∧ F ≠ F' + 1 := by
  have a := (kF h).1
  have b := (kF h').1
  refine ⟨fun q => ?_, fun q => ?_⟩
  · rw [q] at a; omega
  · rw [← q] at b; omega
theorem oneF.fr {g : Int → Int} {n : Int} {S : Nat → Nat → Prop} {I I' : HI} {F : Nat} {rs ls : RfL} {o : Option FR} (h : oneF g n I F rs ls o) (hf : Fr S I I') (h1 : ∀ k, ¬ S F k) (h2 : ∀ k, ¬ S (F + 1) k) : oneF g n I' F rs ls o := by
  cases o with
  | none => show I' F 1 = 0; rw [hf _ _ (h1 1)]; exact h
  | some f => exact ⟨by rw [hf _ _ (h1 1)]; exact h.1, h.2.fr hf (fun k _ => h1 k) h2⟩
theorem oneF.app {g : Int → Int} {n : Int} {I : HI} {F : Nat} {rs ls rs' ls' : RfL} {o : Option FR} (h : oneF g n I F rs ls o) : oneF g n I F (rs ++ rs') (ls ++ ls') o := by
  cases o with
  | none => exact h
  | some f => exact ⟨h.1, h.2.app⟩
