/-! the law's loop -/
theorem lc_eq {a b : Int} (h : a = b) : (if b < a then (1 : Int) else if a = b then 0 else -1) = 0 := by
  rw [if_neg (by omega), if_pos h]
section
variable {L : Nat} {xs : Nat → Int}
theorem law_loop (hL : L ≤ 144) (hx : ∀ j, r32 (xs j)) {Q : En → Int → HI → HD → Prop} (k : Nat) : ∀ (x : Int) (e : En) (g : Int → Int) (n : Int) (s : SC) (c : Int) (pg w : List Int) (m : Nat) (sc : Bool) (I : HI) (D : HD), HS e → e.2.1 = L → e.2.2.1 = xs → INV g n s c pg w m sc I D → 0 ≤ x → 3 * (m : Int) ≤ x → 3 * (e.1 : Int) ≤ x → x ≤ (L : Int) + 2 → ((L : Int) - x).toNat < k →
    (∀ e' I' D', 3 * (e'.1 : Int) ≤ (L : Int) + 2 → Q e' 1 I' D') → RY 147 23 [vS 100, vR (some 0), vR (some 312), vR (some 341), vI x, vJ, vJ, vJ] [] e I D Q := by
  induction k with
  | zero => intro x e g n s c pg w m sc I D he h1 h2 hI h0 h3 h4 h5 hk; omega
  | succ k ih =>
    intro x e g n s c pg w m sc I D he h1 h2 hI h0 h3 h4 h5 hk hQ
    -- on to the next call
    have cont : x ≤ (L : Int) - 3 → ∀ (e' : En) (g : Int → Int) (n : Int) (s : SC) (c : Int) (pg w : List Int) (m' : Nat) (sc : Bool) (I' : HI) (D' : HD), (e' = e ∨ e' = (e.1 + 1, e.2)) → INV g n s c pg w m' sc I' D' → 3 * (m' : Int) ≤ x + 3 → RY 147 732 [vS 100, vR (some 0), vR (some 312), vR (some 341), vI x, vJ, vJ, vJ] [] e' I' D' Q := by
      intro hxl e' g n s c pg w m' sc I' D' hee hI' hm'
      have he' : HS e' := by rcases hee with rfl | rfl; exact he; exact he
      refine S147_732 he' ⟨⟨by omega, by omega⟩, ih (x + 3) e' g n s c pg w m' sc I' D' he' ?_ ?_ hI' (by omega) hm' ?_ (by omega) (by omega) hQ⟩
      · rcases hee with rfl | rfl; exact h1; exact h1
      · rcases hee with rfl | rfl; exact h2; exact h2
      · rcases hee with rfl | rfl
        · omega
        · show 3 * ((e.1 + 1 : Nat) : Int) ≤ x + 3; omega
    refine S147_23 he ?_
    rw [h1, h2]
    refine ⟨⟨by omega, by omega⟩, fun q => hQ e I D (by omega), fun q => ⟨⟨h0, by omega⟩, ?_⟩⟩
    have q : x ≤ (L : Int) - 3 := by omega
    have cont := cont q
    have e2 : ∀ e' : En, (e' = e ∨ e' = (e.1 + 1, e.2)) → HS e' ∧ e'.2.1 = L ∧ e'.2.2.1 = xs := fun e' hee => by
      rcases hee with rfl | rfl
      · exact ⟨he, h1, h2⟩
      · exact ⟨he, h1, h2⟩
    have gd1 : (-2147483648 ≤ (x + 1) ∧ (x + 1) < 2147483648) ∧ (0 ≤ (x + 1) ∧ (x + 1) < (L : Int)) := ⟨⟨by omega, by omega⟩, ⟨by omega, by omega⟩⟩
    have gd2 : (-2147483648 ≤ (x + 2) ∧ (x + 2) < 2147483648) ∧ (0 ≤ (x + 2) ∧ (x + 2) < (L : Int)) := ⟨⟨by omega, by omega⟩, ⟨by omega, by omega⟩⟩
    refine ⟨fun _ => ⟨gd1.1, gd1.2, ?_⟩, fun _ => ?_, fun _ => ⟨gd1.1, gd1.2, gd2.1, gd2.2, ?_⟩, fun _ => ⟨gd1.1, gd1.2, gd2.1, gd2.2, ?_⟩, fun _ => ?_, fun _ => ?_, fun _ => ⟨gd1.1, gd1.2, ?_⟩, fun _ => ?_, fun _ => ⟨gd1.1, gd1.2, ?_⟩, fun _ => ⟨gd1.1, gd1.2, gd2.1, gd2.2, ?_⟩, fun _ => ⟨gd1.1, gd1.2, ?_⟩, fun _ => ⟨gd1.1, gd1.2, ?_⟩, fun _ => ?_, fun _ => ⟨gd1.1, gd1.2, ?_⟩, fun _ _ _ _ _ _ _ _ _ _ _ _ _ _ => ?_⟩
    · -- add
      refine CY_mono (Ladd he hI (by omega) (Q := fun e8 z5 z14 I15 D16 => ((z14 = z5 → RY 147 732 [vS 100, vR (some 0), vR (some 312), vR (some 341), vI x, vJ, vJ, vJ] [] e8 I15 D16 Q) ∧ (¬ (z14 = z5) → Q e8 0 I15 D16))) fun I' hI' => ⟨fun _ => cont e g n s c pg w (m + 1) sc I' D (Or.inl rfl) hI' (by omega), fun w => absurd rfl w⟩) fun e8 z5 I6 D7 h => ?_
      obtain ⟨rfl, h⟩ := h
      rw [h1, h2]
      exact ⟨gd1.1, gd1.2, h⟩
    · -- scan
      refine Lscan he hI (by omega) (Q := fun e20 z17 z21 z24 I25 D26 => ((z24 = z17 → ((¬ z17 = 0 → RY 147 187 [vS 100, vR (some 0), vR (some 312), vR (some 341), vI x, vJ, vJ, vJ] [] e20 I25 D26 Q) ∧ (¬ (¬ z17 = 0) → (((if z21 < (I25 341 0) then (1 : Int) else if (I25 341 0) = z21 then 0 else -1) = 0 → RY 147 187 [vS 100, vR (some 0), vR (some 312), vR (some 341), vI x, vJ, vJ, vJ] [] e20 I25 D26 Q) ∧ (¬ ((if z21 < (I25 341 0) then (1 : Int) else if (I25 341 0) = z21 then 0 else -1) = 0) → Q e20 0 I25 D26))))) ∧ (¬ (z24 = z17) → Q e20 0 I25 D26))) (fun _ I' hI' => ?_) (fun _ g' n' s' c' pg' I' D' v hI' hv => ?_)
      · have := S147_187 (x4 := x) (show HS (e.1 + 1, e.2) from he) (cont _ g n s c pg w m sc I' D (Or.inr rfl) hI' (by omega))
        exact ⟨fun _ => ⟨fun _ => this, fun w => absurd (by decide) w⟩, fun w => absurd rfl w⟩
      · have := S147_187 (x4 := x) he (cont e g' n' s' c' pg' w 0 true I' D' (Or.inl rfl) hI' (by omega))
        exact ⟨fun _ => ⟨fun _ => this, fun _ => ⟨fun _ => this, fun w => absurd (lc_eq hv) w⟩⟩, fun w => absurd rfl w⟩
    · -- found
      refine L139 he hI fun e' I2 hee f2 hv => ?_
      obtain ⟨he', i1, i2⟩ := e2 e' hee
      rw [i1, i2]
      refine ⟨gd1.1, gd1.2, gd2.1, gd2.2, m120 he' (hI.fr f2) fun I3 v f3 k3 t3 hv3 => S86 he' ?_⟩
      have go := S147_254 (x4 := x) he' (cont e' g n s c pg w m sc I3 D hee ((hI.fr f2).fr f3) (by omega))
      rw [t3]
      exact ⟨fun _ => ⟨fun _ => go, fun w => ⟨fun _ => go, fun z => absurd (lc_eq (by rw [k3, hv (Decidable.not_not.mp w), hv3 (Decidable.not_not.mp w)])) z⟩⟩, fun w => absurd rfl w⟩
    · -- mended
      refine L140 he hI fun e' I2 hee f2 hv => ?_
      obtain ⟨he', i1, i2⟩ := e2 e' hee
      rw [i1, i2]
      refine ⟨gd1.1, gd1.2, gd2.1, gd2.2, m121 he' (hI.fr f2) fun I3 v f3 k3 t3 hv3 => S86 he' ?_⟩
      have go := S147_322 (x4 := x) he' (cont e' g n s c pg w m sc I3 D hee ((hI.fr f2).fr f3) (by omega))
      rw [t3]
      exact ⟨fun _ => ⟨fun _ => go, fun w => ⟨fun _ => go, fun z => absurd (lc_eq (by rw [k3, hv (Decidable.not_not.mp w), hv3 (Decidable.not_not.mp w)])) z⟩⟩, fun w => absurd rfl w⟩
    · -- catalogue
      obtain ⟨rs, ls, hC, h15, -⟩ := hI.1.2.1
      refine S74 he (S122 he ⟨fun _ => cont e g n s c pg w m sc _ D (Or.inl rfl) (hI.fr iv0) (by omega), fun w => absurd ?_ w⟩)
      rw [hI.2.1.2.2.2.2.1.2.1]; exact h15
    · -- pages
      obtain ⟨rs, ls, hC, -, hP, -⟩ := hI.1.2.1
      refine S75 he (S123 he ⟨fun _ => cont e g n s c pg w m sc _ D (Or.inl rfl) (hI.fr iv0) (by omega), fun w => absurd ?_ w⟩)
      rw [hI.2.1.2.2.2.2.1.2.2.1]; exact hP.1
    · -- page
      refine L141 he hI fun e' I2 hee f2 hv => ?_
      obtain ⟨he', i1, i2⟩ := e2 e' hee
      rw [i1, i2]
      refine ⟨gd1.1, gd1.2, m124 he' (hI.fr f2) fun I3 v f3 k3 t3 hv3 => S86 he' ?_⟩
      have go := S147_404 (x4 := x) he' (cont e' g n s c pg w m sc I3 D hee ((hI.fr f2).fr f3) (by omega))
      rw [t3]
      exact ⟨fun _ => ⟨fun _ => go, fun w => ⟨fun _ => go, fun z => absurd (lc_eq (by rw [k3, hv (Decidable.not_not.mp w), hv3 (Decidable.not_not.mp w)])) z⟩⟩, fun w => absurd rfl w⟩
    · -- cut
      obtain ⟨rs, ls, hC, -⟩ := hI.1.2.1
      refine S77 he (S125 he ⟨fun _ => cont e g n s c pg w m sc _ D (Or.inl rfl) (hI.fr iv0) (by omega), fun w => absurd ?_ w⟩)
      rw [hI.2.1.2.2.2.2.1.1.2.2.2.2.2]; exact hC.2.1.2.2.1
    · -- trailer
      refine L142 he hI fun e' I2 hee f2 hv => ?_
      obtain ⟨he', i1, i2⟩ := e2 e' hee
      rw [i1, i2]
      refine ⟨gd1.1, gd1.2, m126 he' (hI.fr f2) fun I3 v f3 k3 t3 hv3 => S86 he' ?_⟩
      have go := S147_473 (x4 := x) he' (cont e' g n s c pg w m sc I3 D hee ((hI.fr f2).fr f3) (by omega))
      rw [t3]
      exact ⟨fun _ => ⟨fun _ => go, fun w => ⟨fun _ => go, fun z => absurd (lc_eq (by rw [k3, hv (Decidable.not_not.mp w), hv3 (Decidable.not_not.mp w)])) z⟩⟩, fun w => absurd rfl w⟩
    · -- stream
      refine L143 he hI fun e' I2 hee f2 hv => ?_
      obtain ⟨he', i1, i2⟩ := e2 e' hee
      rw [i1, i2]
      refine ⟨gd1.1, gd1.2, gd2.1, gd2.2, m127 he' (hI.fr f2) fun I3 v f3 k3 t3 hv3 => S86 he' ?_⟩
      have go := S147_541 (x4 := x) he' (cont e' g n s c pg w m sc I3 D hee ((hI.fr f2).fr f3) (by omega))
      rw [t3]
      exact ⟨fun _ => ⟨fun _ => go, fun w => ⟨fun _ => go, fun z => absurd (lc_eq (by rw [k3, hv (Decidable.not_not.mp w), hv3 (Decidable.not_not.mp w)])) z⟩⟩, fun w => absurd rfl w⟩
    · -- whole
      refine L144 he hI fun e' I2 hee f2 hv => ?_
      obtain ⟨he', i1, i2⟩ := e2 e' hee
      rw [i1, i2]
      refine ⟨gd1.1, gd1.2, m128 he' (hI.fr f2) fun I3 v f3 k3 t3 hv3 => S86 he' ?_⟩
      have go := S147_604 (x4 := x) he' (cont e' g n s c pg w m sc I3 D hee ((hI.fr f2).fr f3) (by omega))
      rw [t3]
      have b01 : whV s (xs (x + 1).toNat) = 0 ∨ whV s (xs (x + 1).toNat) = 1 := by
        unfold whV
        split
        · exact b2i_01 _
        · exact Or.inl rfl
      refine ⟨fun _ => ⟨fun _ => go, fun w => ⟨fun z => S147_598 he' ⟨fun _ => go, fun u => absurd (lc_eq ?_) u⟩, fun z => S147_598 he' ⟨fun _ => go, fun u => absurd (lc_eq ?_) u⟩⟩⟩, fun w => absurd rfl w⟩
      · have w' := Decidable.not_not.mp w
        rw [k3, hv w', ← hv3 w', z]
      · have w' := Decidable.not_not.mp w
        have := hv3 w'
        rw [k3, hv w']; omega
    · -- twice
      refine L145 he hI fun e' I2 hee f2 hv => ?_
      obtain ⟨he', i1, i2⟩ := e2 e' hee
      rw [i1, i2]
      refine ⟨gd1.1, gd1.2, m129 he' (hI.fr f2) fun I3 v f3 k3 t3 hv3 => S86 he' ?_⟩
      have go := S147_660 (x4 := x) he' (cont e' g n s c pg w m sc I3 D hee ((hI.fr f2).fr f3) (by omega))
      rw [t3]
      exact ⟨fun _ => ⟨fun _ => go, fun w => ⟨fun _ => go, fun z => absurd (lc_eq (by rw [k3, hv (Decidable.not_not.mp w), hv3 (Decidable.not_not.mp w)])) z⟩⟩, fun w => absurd rfl w⟩
    · -- again
      exact Lagain he hI (Q := fun z155 z158 I159 D160 => ((z155 = z158 → RY 147 732 [vS 100, vR (some 0), vR (some 312), vR (some 341), vI x, vJ, vJ, vJ] [] e I159 D160 Q) ∧ (¬ (z155 = z158) → Q e 0 I159 D160))) fun w' v I' D' hI' => ⟨fun _ => cont e g n s c pg w' m sc I' D' (Or.inl rfl) hI' (by omega), fun w => absurd rfl w⟩
    · -- written
      refine L146 he hI fun e' I2 hee f2 hv => ?_
      obtain ⟨he', i1, i2⟩ := e2 e' hee
      rw [i1, i2]
      refine ⟨gd1.1, gd1.2, m136 he' (hI.fr f2) fun I3 v f3 k3 t3 hv3 => S86 he' ?_⟩
      have go := S147_729 (x4 := x) he' (cont e' g n s c pg w m sc I3 D hee ((hI.fr f2).fr f3) (by omega))
      rw [t3]
      exact ⟨fun _ => ⟨fun _ => go, fun w => ⟨fun _ => go, fun z => absurd (lc_eq (by rw [k3, hv (Decidable.not_not.mp w), hv3 (Decidable.not_not.mp w)])) z⟩⟩, fun w => absurd rfl w⟩
    · exact cont e g n s c pg w m sc I D (Or.inl rfl) hI (by omega)
end
