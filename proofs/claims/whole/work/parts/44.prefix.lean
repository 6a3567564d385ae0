/-! a dictionary that closes before another limit reads alike there -/
section
variable {g : Int → Int} {n b1 b2 : Int} {P : Int → Prop}
theorem dic_le (hB : Bd g n b1 P) (k : Nat) : ∀ (p : Int) (ps : PrL) (rs : RfL), P p → 5 * (rs.length : Int) ≤ p → p ≤ (dicN g n b1 k p ps rs).1 ∧ (dicN g n b1 k p ps rs).1 ≤ b1 ∧ P (skp g n (dicN g n b1 k p ps rs).1) ∧ 5 * ((dicN g n b1 k p ps rs).2.2.2.length : Int) ≤ (dicN g n b1 k p ps rs).1 := by
  have hn := hB.1
  induction k with
  | zero =>
    intro p ps rs hp h5
    have pb := (hB.2 p hp).1
    refine ⟨Int.le_refl _, pb.2.1, ?_, h5⟩
    show P (skp g n p)
    rw [pb.2.2]; exact hp
  | succ k ih =>
    intro p ps rs hp h5
    have pb := (hB.2 p hp).1
    unfold dicN
    split
    · refine ⟨Int.le_refl _, pb.2.1, ?_, h5⟩
      show P (skp g n p)
      rw [pb.2.2]; exact hp
    · rename_i hlt
      have hlt : p < b1 := by omega
      have nb := (nxF_bd (g := g) (show p ≤ n by omega)).2.2 (by omega)
      have hnx := hB.nx hp hlt
      split
      · have eb := hB.eFle hp hlt
        exact ⟨by show p ≤ eF g n p; omega, eb.2, hnx, by show 5 * (rs.length : Int) ≤ eF g n p; omega⟩
      · split
        · rename_i c
          have vo := valF_ok hB 0 hnx c.2.2 (rs := rs) (by omega)
          have s := skp_bd (g := g) (show (valF g n b1 (nxF g n p) rs).1 ≤ n by omega)
          have := ih (skp g n (valF g n b1 (nxF g n p) rs).1) (ps ++ [(p, nxF g n p, (valF g n b1 (nxF g n p) rs).1, rs.length, (valF g n b1 (nxF g n p) rs).2.length)]) (valF g n b1 (nxF g n p) rs).2 vo.2.2.1 (by omega)
          exact ⟨by omega, this.2⟩
        · have := ih (nxF g n p) ps rs hnx (by omega)
          exact ⟨by omega, this.2⟩
theorem val_pre (hB : Bd g n b1 P) {q : Int} {rs : RfL} (hq : P q) (hl : q < b1) (hb : b1 - q < 4000) (h1 : (valF g n b1 q rs).1 < b1) (h2 : (valF g n b1 q rs).1 ≤ b2) : valF g n b2 q rs = valF g n b1 q rs := by
  have hnx := hB.nx hq hl
  have hn := hB.1
  have pb := (hB.2 q hq).1
  have nb := (nxF_bd (g := g) (show q ≤ n by omega)).2.2 (by omega)
  unfold valF at *
  by_cases c9 : kF' g n q = 9
  · rw [if_pos c9] at h1 h2 ⊢
    rw [if_pos c9]
    exact row_pre hB 4000 _ _ _ hnx h1 h2 (by decide) (by omega)
  · rw [if_neg c9] at h1 h2 ⊢
    rw [if_neg c9]
    by_cases c11 : kF' g n q = 11
    · rw [if_pos c11] at h1 h2 ⊢
      rw [if_pos c11]
      exact row_pre hB 4000 _ _ _ hnx h1 h2 (by decide) (by omega)
    · rw [if_neg c11, if_neg c11]
theorem dic_pre (hB : Bd g n b1 P) (hb : b1 ≤ 3000) (k : Nat) : ∀ (p : Int) (ps : PrL) (rs : RfL), P p → 5 * (rs.length : Int) ≤ p → (dicN g n b1 k p ps rs).2.1 = true → (dicN g n b1 k p ps rs).1 ≤ b2 → dicN g n b2 k p ps rs = dicN g n b1 k p ps rs := by
  have hn := hB.1
  induction k with
  | zero => intro p ps rs hp h5 h1; cases h1
  | succ k ih =>
    intro p ps rs hp h5 h1 h2
    have hlt := dic_lt h1
    have pb := (hB.2 p hp).1
    have hnx := hB.nx hp hlt
    have qb := (hB.2 _ hnx).1
    have nb := (nxF_bd (g := g) (show p ≤ n by omega)).2.2 (by omega)
    have eb := hB.eFle hp hlt
    have e1 : dicN g n b1 (k + 1) p ps rs = if kF' g n p = 10 then (eF g n p, true, ps, rs)
        else if kF' g n p = 8 ∧ kF' g n (nxF g n p) ≠ 10 ∧ nxF g n p < b1 then
          dicN g n b1 k (skp g n (valF g n b1 (nxF g n p) rs).1) (ps ++ [(p, nxF g n p, (valF g n b1 (nxF g n p) rs).1, rs.length, (valF g n b1 (nxF g n p) rs).2.length)]) (valF g n b1 (nxF g n p) rs).2
        else dicN g n b1 k (nxF g n p) ps rs := if_neg (by omega)
    have e2 : p < b2 → dicN g n b2 (k + 1) p ps rs = if kF' g n p = 10 then (eF g n p, true, ps, rs)
        else if kF' g n p = 8 ∧ kF' g n (nxF g n p) ≠ 10 ∧ nxF g n p < b2 then
          dicN g n b2 k (skp g n (valF g n b2 (nxF g n p) rs).1) (ps ++ [(p, nxF g n p, (valF g n b2 (nxF g n p) rs).1, rs.length, (valF g n b2 (nxF g n p) rs).2.length)]) (valF g n b2 (nxF g n p) rs).2
        else dicN g n b2 k (nxF g n p) ps rs := fun q => if_neg (by omega)
    rw [e1] at h1 h2 ⊢
    by_cases c10 : kF' g n p = 10
    · rw [if_pos c10] at h1 h2 ⊢
      have : eF g n p ≤ b2 := h2
      rw [e2 (by omega), if_pos c10]
    · rw [if_neg c10] at h1 h2 ⊢
      by_cases c8 : kF' g n p = 8 ∧ kF' g n (nxF g n p) ≠ 10 ∧ nxF g n p < b1
      · rw [if_pos c8] at h1 h2 ⊢
        have vo := valF_ok hB 0 hnx c8.2.2 (rs := rs) (by omega)
        have s := skp_bd (g := g) (show (valF g n b1 (nxF g n p) rs).1 ≤ n by omega)
        have sl := dic_lt h1
        have dl := dic_le hB k _ (ps ++ [(p, nxF g n p, (valF g n b1 (nxF g n p) rs).1, rs.length, (valF g n b1 (nxF g n p) rs).2.length)]) (valF g n b1 (nxF g n p) rs).2 vo.2.2.1 (by omega)
        have vp := val_pre (b2 := b2) hB (rs := rs) hnx c8.2.2 (by omega) (by omega) (by omega)
        rw [e2 (by omega), if_neg c10, if_pos ⟨c8.1, c8.2.1, by omega⟩, vp]
        exact ih _ _ _ vo.2.2.1 (by omega) h1 h2
      · rw [if_neg c8] at h1 h2 ⊢
        have sl := dic_lt h1
        have dl := dic_le hB k (nxF g n p) ps rs hnx (by omega)
        rw [e2 (by omega), if_neg c10, if_neg (fun q => c8 ⟨q.1, q.2.1, sl⟩)]
        exact ih _ _ _ hnx (by omega) h1 h2
end
