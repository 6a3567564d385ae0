/-! Scan.takeStream -/
theorem fK {A F : Nat} (hA : isA A) (h : K0 F = 3) : (F < A ∨ A + 21 < F) ∧ 6 ≤ F := by
  have no : ∀ o : Nat, o ≤ 21 → F ≠ A + o := by
    have c8 : ∀ o, o < 22 → K0 (8 + o) ≠ 3 := by decide
    have c159 : ∀ o, o < 22 → K0 (159 + o) ≠ 3 := by decide
    intro o ho q
    subst q
    rcases hA with rfl | rfl
    · exact c8 o (by omega) h
    · exact c159 o (by omega) h
  refine ⟨?_, ?_⟩
  · rcases Nat.lt_or_ge F A with q | q
    · exact Or.inl q
    · rcases Nat.lt_or_ge (A + 21) F with w | w
      · exact Or.inr w
      · exact absurd (show F = A + (F - A) by omega) (no (F - A) (by omega))
  · rcases Nat.lt_or_ge F 6 with q | q
    · have c : ∀ f, f < 6 → K0 f ≠ 3 := by decide
      exact absurd h (c F q)
    · exact q
def stS (A F a _k : Nat) : Prop := (A + 10 ≤ a ∧ a ≤ A + 13) ∨ a = F
/-- where the stream's last word stands: by its length, or else by the word -/
def stE (g : Int → Int) (n data len : Int) : Int := if 0 ≤ ebL g n data len then ebL g n data len else ebW g n data
def stT (g : Int → Int) (n data len : Int) : Int :=
  if 0 ≤ ebL g n data len then data + len else if 0 ≤ ebW g n data then (if data < ebW g n data ∧ gb g n (ebW g n data - 1) = 10 then ebW g n data - 1 else ebW g n data) else n
def stM (g : Int → Int) (n data len : Int) : RfL := (if 0 ≤ ebL g n data len then [] else [(data, data, 3)]) ++ (if 0 ≤ stE g n data len then [] else [(data, data, 2)])
section
variable {e : En} {g : Int → Int} {n : Int} {A : Nat} {D : HD}
theorem ebL_bd {data len : Int} (h0 : 0 ≤ data) (h : 0 ≤ ebL g n data len) : data ≤ ebL g n data len ∧ ebL g n data len + 9 ≤ n ∧ 0 ≤ len ∧ data + len ≤ n := by
  unfold ebL at *
  split at h
  · omega
  · rename_i c
    rw [if_neg c]
    split at h
    · rename_i c2
      rw [if_pos c2]
      have := esP_le c2; omega
    · rename_i c2
      rw [if_neg c2]
      split at h
      · rename_i c3
        rw [if_pos c3]
        have := esP_le c3.2; omega
      · omega
theorem ebW_bd {data : Int} (h0 : data ≤ n) (h : 0 ≤ ebW g n data) : data ≤ ebW g n data ∧ ebW g n data + 9 ≤ n := by
  unfold ebW at *
  split at h
  · rename_i c
    rw [if_pos c]
    have := esP_le (ff_stop (P := esP g n) h0 c)
    have := ff_bd (P := esP g n) h0
    omega
  · omega
theorem ebW_ge {data : Int} : -1 ≤ ebW g n data ∨ data < 0 := by
  unfold ebW
  split
  · rename_i c
    rcases Int.lt_or_le data 0 with q | q
    · exact Or.inr q
    · left
      rcases Int.lt_or_le n data with w | w
      · rw [ff_ge (by omega)]; omega
      · have := ff_bd (P := esP g n) w; omega
  · left; omega
theorem c29_tail (he : HS e) (hA : isA A) {I : HI} (hS : I A 2 = n) {F : Nat} (hF : D A 10 = F) (hk : K0 F = 3) {p E : Int} (hE0 : -1 ≤ E) (hE1 : E ≤ 3000) {ms : RfL} (hM : MkL (A + 10) I ms) (hc : ms.length < L0 (A + 11)) {Q : Int → HI → HD → Prop}
    (hQ : ∀ I', Fr (fun a k => (A + 10 ≤ a ∧ a ≤ A + 13) ∨ (a = F ∧ (k = 8 ∨ k = 10))) I I' → MkL (A + 10) I' (ms ++ (if 0 ≤ E then [] else [(p, p, 2)])) → I' F 8 = (if 0 ≤ E then 1 else 0) → I' F 10 = (if 0 ≤ E then I F 10 else n) → Q (if 0 ≤ E then E + 9 else n) I' D) :
    RI 29 126 [vR (some A), vI p, vI E, vJ] [] e I D Q := by
  have fk := fK hA hk
  have hl : ((zstr 24).length : Int) = 9 := by decide
  have s139 : ∀ y : Int, y = (if 0 ≤ E then 1 else 0) → RI 29 139 [vR (some A), vI p, vI E, vJ] [vI y, vR (some F)] e I D Q := by
    intro y hy
    have f1 : Fr (fun a k => a = F ∧ k = 8) I (uI I F 8 y) := Fr.u ⟨rfl, rfl⟩
    have M1 := hM.fr f1 (fun a k q1 q2 q3 => by omega)
    refine S29_139 he hA hk ?_
    rw [hF, uI_eq, hl]
    by_cases c : 0 ≤ E
    · rw [if_pos c] at hy
      refine ⟨Or.inr hy, hk, fun _ => ⟨⟨by omega, by omega⟩, ?_⟩, fun q => by omega⟩
      have := hQ (uI I F 8 y) (f1.mono fun a k q => Or.inr ⟨q.1, Or.inl q.2⟩) (by rw [if_pos c, List.append_nil]; exact M1) (by rw [uI_eq, if_pos c]; exact hy) (by rw [if_pos c, uI_ne (by omega)])
      rw [if_pos c] at this; exact this
    · rw [if_neg c] at hy
      refine ⟨Or.inl hy, hk, fun q => absurd hy q, fun _ => c26 he hA M1 hc fun I2 f2 M2 => ?_⟩
      have s2 : I2 A 2 = n := by rw [f2 _ _ (fun q => by unfold mkS at q; omega), uI_ne (by omega)]; exact hS
      rw [hF, s2]
      refine ⟨hk, ?_⟩
      have e1 : uI I2 F 10 n A 2 = n := by rw [uI_ne (by omega)]; exact s2
      rw [e1]
      have f3 : Fr (fun a k => a = F ∧ k = 10) I2 (uI I2 F 10 n) := Fr.u ⟨rfl, rfl⟩
      have := hQ (uI I2 F 10 n) ((f1.mono fun a k q => Or.inr ⟨q.1, Or.inl q.2⟩).trans ((f2.mono fun a k q => by unfold mkS at q; exact Or.inl (by omega)).trans (f3.mono fun a k q => Or.inr ⟨q.1, Or.inr q.2⟩))) (by rw [if_neg c]; exact M2.fr f3 (fun a k q1 q2 q3 => by omega)) (by rw [if_neg c, uI_ne (by omega), f2 _ _ (fun q => by unfold mkS at q; omega), uI_eq]; exact hy) (by rw [if_neg c, uI_eq])
      rw [if_neg c] at this; exact this
  refine S29_126 he hA ⟨fun a => ?_, fun a => ?_⟩
  · rw [hF]; exact s139 0 (by rw [if_neg (by omega)])
  · rw [hF]; exact s139 1 (by rw [if_pos (by omega)])
end
