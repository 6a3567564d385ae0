/-! Found.beginAt -/
section
variable {e : En} {g : Int → Int} {n : Int} {A : Nat}
theorem c9 (he : HS e) {I : HI} {D : HD} {F : Nat} (hF : K0 F = 3) {h t a b : Int} {Q : HI → HD → Prop}
    (hQ : ∀ I', Fr (fun x _ => x = F ∨ x = F + 1) I I' → (I' F 1 = 0 ∧ I' F 2 = h ∧ I' F 3 = t ∧ I' F 4 = t ∧ I' F 5 = 0 ∧ I' F 6 = 0 ∧ I' F 7 = 0 ∧ I' F 8 = 0 ∧ I' F 9 = 0 ∧ I' F 10 = 0) →
      (I' (F + 1) 0 = t ∧ I' (F + 1) 1 = t ∧ I' (F + 1) 2 = 0 ∧ I' (F + 1) 10 = a ∧ I' (F + 1) 11 = a ∧ I' (F + 1) 12 = b ∧ I' (F + 1) 13 = b) → (∀ k, 3 ≤ k → k ≤ 9 → I' (F + 1) k = df0 k) → Q I' D) :
    CV 9 [vR (some F), vI h, vI t, vI a, vI b] e I D Q := by
  refine S9 he hF (c1 he (kF hF).1 fun J f1 v k => ?_)
  have f2 : Fr (fun x _ => x = F) J (uI (uI (uI (uI (uI (uI (uI (uI (uI (uI J F 1 0) F 2 h) F 3 t) F 4 t) F 5 0) F 6 0) F 7 0) F 8 0) F 9 0) F 10 0) := by
    intro x j q
    have : x ≠ F := q
    simp [uI, this]
  have e1 : ∀ j, (uI (uI (uI (uI (uI (uI (uI (uI (uI (uI J F 1 0) F 2 h) F 3 t) F 4 t) F 5 0) F 6 0) F 7 0) F 8 0) F 9 0) F 10 0) (F + 1) j = J (F + 1) j := fun j => f2 _ _ (by omega)
  refine hQ _ ((f1.mono fun x j q => Or.inr q).trans (f2.mono fun x j q => Or.inl q)) ⟨?_, ?_, ?_, ?_, ?_, ?_, ?_, ?_, ?_, ?_⟩ ?_ (fun j u w => by rw [e1]; exact k j u w)
  iterate 10
    · simp [uI]
  rw [e1, e1, e1, e1, e1, e1, e1]; exact v
end
