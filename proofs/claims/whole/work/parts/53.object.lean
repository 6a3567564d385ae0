/-! an object's places, and how much it can bring -/
section
variable {g : Int → Int} {n b1 : Int} {P : Int → Prop}
theorem dic_ok (hB : Bd g n b1 P) (r0 l0 : Nat) (k : Nat) : ∀ (p : Int) (ps : PrL) (rs : RfL), P p → 5 * ((r0 + rs.length : Nat) : Int) ≤ p → 8 * ((l0 + (lnL g n ps).length : Nat) : Int) ≤ p →
    p ≤ (dicN g n b1 k p ps rs).1 ∧ (dicN g n b1 k p ps rs).1 ≤ b1 ∧ P (skp g n (dicN g n b1 k p ps rs).1) ∧ 5 * ((r0 + (dicN g n b1 k p ps rs).2.2.2.length : Nat) : Int) ≤ (dicN g n b1 k p ps rs).1 ∧ 8 * ((l0 + (lnL g n (dicN g n b1 k p ps rs).2.2.1).length : Nat) : Int) ≤ (dicN g n b1 k p ps rs).1 := by
  have hn := hB.1
  induction k with
  | zero =>
    intro p ps rs hp h5 h8
    have pb := (hB.2 p hp).1
    refine ⟨Int.le_refl _, pb.2.1, ?_, h5, h8⟩
    show P (skp g n p)
    rw [pb.2.2]; exact hp
  | succ k ih =>
    intro p ps rs hp h5 h8
    have pb := (hB.2 p hp).1
    unfold dicN
    split
    · refine ⟨Int.le_refl _, pb.2.1, ?_, h5, h8⟩
      show P (skp g n p)
      rw [pb.2.2]; exact hp
    · rename_i hlt
      have hlt : p < b1 := by omega
      have nb := (nxF_bd (g := g) (show p ≤ n by omega)).2.2 (by omega)
      have hnx := hB.nx hp hlt
      split
      · have eb := hB.eFle hp hlt
        exact ⟨by show p ≤ eF g n p; omega, eb.2, hnx, by show 5 * ((r0 + rs.length : Nat) : Int) ≤ eF g n p; omega, by show 8 * ((l0 + (lnL g n ps).length : Nat) : Int) ≤ eF g n p; omega⟩
      · split
        · rename_i c
          have vo := valF_ok hB r0 hnx c.2.2 (rs := rs) (by omega)
          have s := skp_bd (g := g) (show (valF g n b1 (nxF g n p) rs).1 ≤ n by omega)
          have l1 := lnL_1 (g := g) (n := n) (pr := (p, nxF g n p, (valF g n b1 (nxF g n p) rs).1, rs.length, (valF g n b1 (nxF g n p) rs).2.length)) (by show p ≤ n; omega) vo.1
          have := ih (skp g n (valF g n b1 (nxF g n p) rs).1) (ps ++ [(p, nxF g n p, (valF g n b1 (nxF g n p) rs).1, rs.length, (valF g n b1 (nxF g n p) rs).2.length)]) (valF g n b1 (nxF g n p) rs).2 vo.2.2.1 (by omega) (by rw [lnL_app, List.length_append]; dsimp only at l1; omega)
          exact ⟨by omega, this.2⟩
        · have := ih (nxF g n p) ps rs hnx (by omega) (by omega)
          exact ⟨by omega, this.2⟩
end
section
variable {g : Int → Int} {n : Int}
theorem mF_sep {p : Int} (hp : p ≤ n) (h : 0 ≤ mF g n p) {r : Int} (hr : r = nxF g n p) (h2 : r < n → reg (g r) = true) : p + 2 ≤ nxF g n p ∨ nxF g n p = n := by
  have a := mF_reg h hp
  have eb := (eF_bd (g := g) hp).2.2 a.1
  have sb := skp_bd (g := g) (eF_bd (g := g) hp).2.1
  rcases Int.lt_or_le (nxF g n p) n with q | q
  · left
    subst hr
    have h3 := h2 q
    rcases Int.lt_or_le (p + 1) (nxF g n p) with w | w
    · omega
    · exfalso
      have tk : tkc (g p) := by
        have := a.2
        unfold reg sgn at this
        constructor
        · by_cases c : 32 < g p
          · exact c
          · simp [c] at this
        · intro c; rw [c] at this; revert this; decide
      have e1 : eF g n p = tE g n p := eF_tok a.1 tk
      have e2 := tE_word (g := g) (lim := n) (Or.inr a.2 : g p = 47 ∨ reg (g p) = true)
      have e3 : nxF g n p = eF g n p := by unfold nxF; unfold nxF at w; omega
      have l1 : ff (nrP g) n (p + 1) < n := by rw [← e2, ← e1, ← e3]; exact q
      have := ff_stop (P := nrP g) (show p + 1 ≤ n by omega) l1
      rw [← e2, ← e1, ← e3] at this
      unfold nrP at this
      rw [h3] at this; cases this
  · right
    have := (nxF_bd (g := g) hp).2.1
    omega
theorem tx_reg {p : Int} {k : Nat} (h : tx g n p k = true) (hk : k = 10 ∨ k = 11) : reg (g p) = true := by
  unfold tx isF stF at h
  simp only [Bool.and_eq_true, decide_eq_true_eq] at h
  have := h.2.2
  rcases hk with rfl | rfl
  · have e1 : zstr 10 = [82] := by decide
    rw [e1] at this
    simp only [mat, Bool.and_eq_true, beq_iff_eq] at this
    rw [this.1]; decide
  · have e1 : zstr 11 = [111, 98, 106] := by decide
    rw [e1] at this
    simp only [mat, Bool.and_eq_true, beq_iff_eq] at this
    rw [this.1]; decide
theorem hd_5 {h : Int} (h1 : h ≤ n) (hk : kF' g n h = 5) : h < n ∧ tkc (g h) ∧ 0 ≤ mF g n (nxF g n h) ∧ tx g n (nxF g n (nxF g n h)) 11 = true ∧ (1 ≤ mF g n h ∧ mF g n h ≤ 60) ∧ h + 7 ≤ e3F g n h ∧ e3F g n h ≤ n := by
  have hn : ¬ (n ≤ h ∨ g h ≤ 32 ∨ g h = 37) := fun q => by unfold kF' at hk; rw [if_pos q] at hk; omega
  unfold kF' at hk
  rw [if_neg hn] at hk
  have hm : 0 ≤ mF g n h := by
    by_cases c : 0 ≤ mF g n h
    · exact c
    · rw [if_neg c] at hk
      unfold ksF at hk
      repeat (first | omega | split at hk)
  rw [if_pos hm] at hk
  unfold knF at hk
  split at hk
  · omega
  · rename_i c1
    split at hk
    · omega
    · split at hk
      · rename_i c3
        have nb := nxF_bd (g := g) h1
        have nb2 := nxF_bd (g := g) nb.2.1
        have m2 := mF_reg (g := g) (n := n) (show 0 ≤ mF g n (nxF g n h) by omega) nb.2.1
        have s1 := mF_sep h1 hm rfl (fun _ => m2.2)
        have t3 := tx_reg c3.2 (Or.inr rfl)
        have s2 := mF_sep nb.2.1 (show 0 ≤ mF g n (nxF g n h) by omega) rfl (fun _ => t3)
        have e3 := tx_len c3.2
        have l3 : (zstr 11).length = 3 := by decide
        have eb := eF_bd (g := g) nb2.2.1
        have : e3F g n h = nxF g n (nxF g n h) + 3 := by unfold e3F; rw [e3, l3]; rfl
        refine ⟨by omega, ⟨by omega, by omega⟩, by omega, c3.2, c3.1, ?_, eb.2.1⟩
        rcases s1 with s1 | s1 <;> rcases s2 with s2 | s2 <;> first | omega | skip
      · omega
end
