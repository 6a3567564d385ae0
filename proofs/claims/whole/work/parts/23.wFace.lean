/-! what the code of each method does: printed by wip/whole/gen/decomp.py -/
/-! 70 X8_add -/
theorem S70 {e : En} {I : HI} {D : HD} {Q : Res → HI → HD → Prop} {x1 : Int} (he : HS e)
    (h : (((I 0 1) < 0 → Q (.inr 0) I D) ∧ (¬ ((I 0 1) < 0) → (((I 0 1) < 1500 → (0 ≤ (I 0 1) ∧ (I 0 1) < 1500) ∧ (-2147483648 ≤ ((I 0 1) + 1) ∧ ((I 0 1) + 1) < 2147483648) ∧ Q (.inl none) (uI (uI I 7 (((I 0 1) : Int).toNat) ((x1 + 128) % 256 - 128)) 0 1 ((I 0 1) + 1)) D) ∧ (¬ ((I 0 1) < 1500) → Q (.inr 0) I D))))) :
    CX 70 [vR (some 0), vI x1] e I D Q := by
  refine Call_run (ls := [vR (some 0), vI x1]) rfl rfl ?_
  refine R_aload_n (pc' := 1) rfl rfl rfl ?_
  refine K_getI (pc' := 4) rfl rfl (by decide) rfl rfl ?_
  refine R_iflt (pc' := 7) rfl rfl (fun hc => ?_) (fun hc => ?_)
  · replace h := h.1 hc
    exact R_throw rfl (by decide) rfl (by decide) rfl rfl rfl ⟨_, rfl, rfl⟩ ⟨_, _, _, _, rfl⟩ ⟨_, rfl, rfl⟩ ⟨_, _, rfl, h⟩
  · replace h := h.2 hc
    refine R_aload_n (pc' := 8) rfl rfl rfl ?_
    refine K_getI (pc' := 11) rfl rfl (by decide) rfl rfl ?_
    refine R_sipush (pc' := 14) rfl rfl ?_
    refine R_iclt (pc' := 17) rfl rfl (fun hc => ?_) (fun hc => ?_)
    · replace h := h.1 hc
      refine R_aload_n (pc' := 26) rfl rfl rfl ?_
      refine K_getR (pc' := 29) rfl rfl rfl rfl (st_at he rfl rfl (by decide)) ?_
      refine R_aload_n (pc' := 30) rfl rfl rfl ?_
      refine K_getI (pc' := 33) rfl rfl (by decide) rfl rfl ?_
      refine R_iload_n (pc' := 34) rfl rfl rfl ?_
      have g1 := h.1
      replace h := h.2
      refine K_bast (pc' := 35) rfl rfl rfl g1.1 g1.2 ?_
      refine R_aload_n (pc' := 36) rfl rfl rfl ?_
      refine R_dup (pc' := 37) rfl rfl rfl ?_
      refine K_getI (pc' := 40) rfl rfl (by decide) rfl rfl ?_
      refine R_iconst (pc' := 41) rfl rfl ?_
      have g2 := h.1
      replace h := h.2
      refine R_iadd (pc' := 42) rfl rfl g2 ?_
      refine K_putI (pc' := 45) rfl rfl (by decide) (fun h => absurd h (by decide)) rfl ?_
      exact R_vret rfl rfl ⟨_, _, rfl, h⟩
    · replace h := h.2 hc
      exact R_throw rfl (by decide) rfl (by decide) rfl rfl rfl ⟨_, rfl, rfl⟩ ⟨_, _, _, _, rfl⟩ ⟨_, rfl, rfl⟩ ⟨_, _, rfl, h⟩
/-! 71 X8_scan -/
theorem S71 {e : En} {I : HI} {D : HD} {Q : Res → HI → HD → Prop} (he : HS e)
    (h : ((¬ (I 0 1) = 0 → CV 24 [vR (some 8), vR (some 7), vI (I 0 1)] e I D (fun I2 D3 => Q (.inl (some (vI (I2 8 11)))) (uI I2 0 1 0) D3)) ∧ (¬ (¬ (I 0 1) = 0) → Q (.inr 1) I D))) :
    CX 71 [vR (some 0)] e I D Q := by
  refine Call_run (ls := [vR (some 0)]) rfl rfl ?_
  refine R_aload_n (pc' := 1) rfl rfl rfl ?_
  refine K_getI (pc' := 4) rfl rfl (by decide) rfl rfl ?_
  refine R_ifne (pc' := 7) rfl rfl (fun hc => ?_) (fun hc => ?_)
  · replace h := h.1 hc
    refine R_aload_n (pc' := 16) rfl rfl rfl ?_
    refine K_getR (pc' := 19) rfl rfl rfl rfl (st_at he rfl rfl (by decide)) ?_
    refine R_aload_n (pc' := 20) rfl rfl rfl ?_
    refine K_getR (pc' := 23) rfl rfl rfl rfl (st_at he rfl rfl (by decide)) ?_
    refine R_aload_n (pc' := 24) rfl rfl rfl ?_
    refine K_getI (pc' := 27) rfl rfl (by decide) rfl rfl ?_
    refine KV_iv (as := [vR (some 7), vI (I 0 1)]) (rest := []) (pc' := 30) rfl rfl rfl rfl rfl (Nat.le_of_ble_eq_true rfl) rfl (CV_mono h ?_)
    intro I2 D3 h
    refine R_aload_n (pc' := 31) rfl rfl rfl ?_
    refine R_iconst (pc' := 32) rfl rfl ?_
    refine K_putI (pc' := 35) rfl rfl (by decide) (fun h => absurd h (by decide)) rfl ?_
    refine R_aload_n (pc' := 36) rfl rfl rfl ?_
    refine K_getR (pc' := 39) rfl rfl rfl rfl (st_at he rfl rfl (by decide)) ?_
    refine K_getIN (pc' := 42) rfl rfl (by decide) rfl rfl ?_
    exact R_iret rfl rfl ⟨_, _, rfl, h⟩
  · replace h := h.2 hc
    exact R_throw rfl (by decide) rfl (by decide) rfl rfl rfl ⟨_, rfl, rfl⟩ ⟨_, _, _, _, rfl⟩ ⟨_, rfl, rfl⟩ ⟨_, _, rfl, h⟩
/-! 72 X8_found -/
theorem S72 {e : En} {I : HI} {D : HD} {Q : Res → HI → HD → Prop} {x1 : Int} {x2 : Int} (he : HS e)
    (h : CR 35 [vR (some 8), vI x1] e I D (fun z1 I2 D3 => ((z1 = none → Q (.inr 2) I2 D3) ∧ (∀ u4, z1 = some u4 → K0 u4 = 3 ∧ ((x2 = 0 → Q (.inl (some (vL (I2 u4 2)))) I2 D3) ∧ (x2 = 1 → Q (.inl (some (vL (I2 u4 3)))) I2 D3) ∧ (x2 = 2 → Q (.inl (some (vL (I2 u4 4)))) I2 D3) ∧ (x2 = 3 → Q (.inl (some (vL (I2 (u4 + 1) 3)))) I2 D3) ∧ (x2 = 4 → (-2147483648 ≤ ((I2 (u4 + 1) 11) - (I2 (u4 + 1) 10)) ∧ ((I2 (u4 + 1) 11) - (I2 (u4 + 1) 10)) < 2147483648) ∧ Q (.inl (some (vL ((I2 (u4 + 1) 11) - (I2 (u4 + 1) 10))))) I2 D3) ∧ (x2 ≠ 0 → x2 ≠ 1 → x2 ≠ 2 → x2 ≠ 3 → x2 ≠ 4 → Q (.inr 3) I2 D3)))))) :
    CX 72 [vR (some 0), vI x1, vI x2] e I D Q := by
  refine Call_run (ls := [vR (some 0), vI x1, vI x2, vJ]) rfl rfl ?_
  refine R_aload_n (pc' := 1) rfl rfl rfl ?_
  refine K_getR (pc' := 4) rfl rfl rfl rfl (st_at he rfl rfl (by decide)) ?_
  refine R_iload_n (pc' := 5) rfl rfl rfl ?_
  refine KR_iv (as := [vI x1]) (rest := []) (pc' := 8) rfl rfl rfl rfl rfl (Nat.le_of_ble_eq_true rfl) rfl (CR_mono h ?_)
  intro z1 I2 D3 h
  refine R_astore_n (ls' := [vR (some 0), vI x1, vI x2, vR z1]) (pc' := 9) rfl rfl rfl ?_
  refine R_aload_n (pc' := 10) rfl rfl rfl ?_
  refine R_ifnonnull (pc' := 13) rfl rfl (fun u4 hn => ?_) (fun hn => ?_)
  · replace h := h.2 u4 hn
    subst hn
    have hu5 := h.1
    replace h := h.2
    refine R_iload_n (pc' := 22) rfl rfl rfl ?_
    by_cases c0 : x2 = 0
    · replace h := h.1 c0
      refine R_tsw (pc' := 56) rfl (by rw [c0]; rfl) ?_
      refine R_aload_n (pc' := 57) rfl rfl rfl ?_
      refine K_getIN (pc' := 60) rfl rfl (by decide) hu5 rfl ?_
      refine R_i2l (pc' := 61) rfl rfl ?_
      exact R_lret rfl rfl ⟨_, _, rfl, h⟩
    replace h := h.2
    by_cases c1 : x2 = 1
    · replace h := h.1 c1
      refine R_tsw (pc' := 62) rfl (by rw [c1]; rfl) ?_
      refine R_aload_n (pc' := 63) rfl rfl rfl ?_
      refine K_getIN (pc' := 66) rfl rfl (by decide) hu5 rfl ?_
      refine R_i2l (pc' := 67) rfl rfl ?_
      exact R_lret rfl rfl ⟨_, _, rfl, h⟩
    replace h := h.2
    by_cases c2 : x2 = 2
    · replace h := h.1 c2
      refine R_tsw (pc' := 68) rfl (by rw [c2]; rfl) ?_
      refine R_aload_n (pc' := 69) rfl rfl rfl ?_
      refine K_getIN (pc' := 72) rfl rfl (by decide) hu5 rfl ?_
      refine R_i2l (pc' := 73) rfl rfl ?_
      exact R_lret rfl rfl ⟨_, _, rfl, h⟩
    replace h := h.2
    by_cases c3 : x2 = 3
    · replace h := h.1 c3
      refine R_tsw (pc' := 74) rfl (by rw [c3]; rfl) ?_
      refine R_aload_n (pc' := 75) rfl rfl rfl ?_
      refine K_getRN (pc' := 78) rfl rfl rfl hu5 (gF0 he hu5) ?_
      refine K_getIN (pc' := 81) rfl rfl (by decide) (kF hu5).1 rfl ?_
      refine R_i2l (pc' := 82) rfl rfl ?_
      exact R_lret rfl rfl ⟨_, _, rfl, h⟩
    replace h := h.2
    by_cases c4 : x2 = 4
    · replace h := h.1 c4
      refine R_tsw (pc' := 83) rfl (by rw [c4]; rfl) ?_
      refine R_aload_n (pc' := 84) rfl rfl rfl ?_
      refine K_getRN (pc' := 87) rfl rfl rfl hu5 (gF0 he hu5) ?_
      refine K_getIN (pc' := 90) rfl rfl (by decide) (kF hu5).1 rfl ?_
      refine R_aload_n (pc' := 91) rfl rfl rfl ?_
      refine K_getRN (pc' := 94) rfl rfl rfl hu5 (gF0 he hu5) ?_
      refine K_getIN (pc' := 97) rfl rfl (by decide) (kF hu5).1 rfl ?_
      have g6 := h.1
      replace h := h.2
      refine R_isub (pc' := 98) rfl rfl g6 ?_
      refine R_i2l (pc' := 99) rfl rfl ?_
      exact R_lret rfl rfl ⟨_, _, rfl, h⟩
    replace h := h.2
    replace h := h c0 c1 c2 c3 c4
    refine R_tsw (pc' := 100) rfl (by simp [swT, List.lookup, beq_iff_eq, beq_eq_false_iff_ne.mpr c0, beq_eq_false_iff_ne.mpr c1, beq_eq_false_iff_ne.mpr c2, beq_eq_false_iff_ne.mpr c3, beq_eq_false_iff_ne.mpr c4]) ?_
    exact R_throw rfl (by decide) rfl (by decide) rfl rfl rfl ⟨_, rfl, rfl⟩ ⟨_, _, _, _, rfl⟩ ⟨_, rfl, rfl⟩ ⟨_, _, rfl, h⟩
  · replace h := h.1 hn
    subst hn
    exact R_throw rfl (by decide) rfl (by decide) rfl rfl rfl ⟨_, rfl, rfl⟩ ⟨_, _, _, _, rfl⟩ ⟨_, rfl, rfl⟩ ⟨_, _, rfl, h⟩
/-! 73 X8_mended -/
theorem S73 {e : En} {I : HI} {D : HD} {Q : Res → HI → HD → Prop} {x1 : Int} {x2 : Int} (he : HS e)
    (h : ((¬ x1 = (-1) → ((x1 < 0 → Q (.inr 3) I D) ∧ (¬ (x1 < 0) → (((I 18 3) ≤ x1 → Q (.inr 3) I D) ∧ (¬ ((I 18 3) ≤ x1) → ((x2 < 0 → Q (.inr 3) I D) ∧ (¬ (x2 < 0) → ((x2 ≤ 1 → ((¬ x2 = 0 → CI 14 [vR (some 18), vI x1] e I D (fun z1 I2 D3 => Q (.inl (some (vI z1))) I2 D3)) ∧ (¬ (¬ x2 = 0) → CI 13 [vR (some 18), vI x1] e I D (fun z4 I5 D6 => Q (.inl (some (vI z4))) I5 D6)))) ∧ (¬ (x2 ≤ 1) → Q (.inr 3) I D))))))))) ∧ (¬ (¬ x1 = (-1)) → Q (.inl (some (vI (I 18 3)))) I D))) :
    CX 73 [vR (some 0), vI x1, vI x2] e I D Q := by
  refine Call_run (ls := [vR (some 0), vI x1, vI x2]) rfl rfl ?_
  refine R_iload_n (pc' := 1) rfl rfl rfl ?_
  refine R_iconst (pc' := 2) rfl rfl ?_
  refine R_icne (pc' := 5) rfl rfl (fun hc => ?_) (fun hc => ?_)
  · replace h := h.1 hc
    refine R_iload_n (pc' := 17) rfl rfl rfl ?_
    refine R_iflt (pc' := 20) rfl rfl (fun hc => ?_) (fun hc => ?_)
    · replace h := h.1 hc
      exact R_throw rfl (by decide) rfl (by decide) rfl rfl rfl ⟨_, rfl, rfl⟩ ⟨_, _, _, _, rfl⟩ ⟨_, rfl, rfl⟩ ⟨_, _, rfl, h⟩
    · replace h := h.2 hc
      refine R_iload_n (pc' := 21) rfl rfl rfl ?_
      refine R_aload_n (pc' := 22) rfl rfl rfl ?_
      refine K_getR (pc' := 25) rfl rfl rfl rfl (st_at he rfl rfl (by decide)) ?_
      refine K_getRN (pc' := 28) rfl rfl rfl rfl (st_at he rfl rfl (by decide)) ?_
      refine K_getIN (pc' := 31) rfl rfl (by decide) rfl rfl ?_
      refine R_icge (pc' := 34) rfl rfl (fun hc => ?_) (fun hc => ?_)
      · replace h := h.1 hc
        exact R_throw rfl (by decide) rfl (by decide) rfl rfl rfl ⟨_, rfl, rfl⟩ ⟨_, _, _, _, rfl⟩ ⟨_, rfl, rfl⟩ ⟨_, _, rfl, h⟩
      · replace h := h.2 hc
        refine R_iload_n (pc' := 35) rfl rfl rfl ?_
        refine R_iflt (pc' := 38) rfl rfl (fun hc => ?_) (fun hc => ?_)
        · replace h := h.1 hc
          exact R_throw rfl (by decide) rfl (by decide) rfl rfl rfl ⟨_, rfl, rfl⟩ ⟨_, _, _, _, rfl⟩ ⟨_, rfl, rfl⟩ ⟨_, _, rfl, h⟩
        · replace h := h.2 hc
          refine R_iload_n (pc' := 39) rfl rfl rfl ?_
          refine R_iconst (pc' := 40) rfl rfl ?_
          refine R_icle (pc' := 43) rfl rfl (fun hc => ?_) (fun hc => ?_)
          · replace h := h.1 hc
            refine R_iload_n (pc' := 52) rfl rfl rfl ?_
            refine R_ifne (pc' := 55) rfl rfl (fun hc => ?_) (fun hc => ?_)
            · replace h := h.1 hc
              refine R_aload_n (pc' := 70) rfl rfl rfl ?_
              refine K_getR (pc' := 73) rfl rfl rfl rfl (st_at he rfl rfl (by decide)) ?_
              refine K_getRN (pc' := 76) rfl rfl rfl rfl (st_at he rfl rfl (by decide)) ?_
              refine R_iload_n (pc' := 77) rfl rfl rfl ?_
              refine KI_iv (as := [vI x1]) (rest := []) (pc' := 80) rfl rfl rfl rfl rfl (Nat.le_of_ble_eq_true rfl) rfl (CI_mono h ?_)
              intro z1 I2 D3 h
              exact R_iret rfl rfl ⟨_, _, rfl, h⟩
            · replace h := h.2 hc
              refine R_aload_n (pc' := 56) rfl rfl rfl ?_
              refine K_getR (pc' := 59) rfl rfl rfl rfl (st_at he rfl rfl (by decide)) ?_
              refine K_getRN (pc' := 62) rfl rfl rfl rfl (st_at he rfl rfl (by decide)) ?_
              refine R_iload_n (pc' := 63) rfl rfl rfl ?_
              refine KI_iv (as := [vI x1]) (rest := []) (pc' := 66) rfl rfl rfl rfl rfl (Nat.le_of_ble_eq_true rfl) rfl (CI_mono h ?_)
              intro z4 I5 D6 h
              refine R_goto rfl ?_
              exact R_iret rfl rfl ⟨_, _, rfl, h⟩
          · replace h := h.2 hc
            exact R_throw rfl (by decide) rfl (by decide) rfl rfl rfl ⟨_, rfl, rfl⟩ ⟨_, _, _, _, rfl⟩ ⟨_, rfl, rfl⟩ ⟨_, _, rfl, h⟩
  · replace h := h.2 hc
    refine R_aload_n (pc' := 6) rfl rfl rfl ?_
    refine K_getR (pc' := 9) rfl rfl rfl rfl (st_at he rfl rfl (by decide)) ?_
    refine K_getRN (pc' := 12) rfl rfl rfl rfl (st_at he rfl rfl (by decide)) ?_
    refine K_getIN (pc' := 15) rfl rfl (by decide) rfl rfl ?_
    exact R_iret rfl rfl ⟨_, _, rfl, h⟩
/-! 74 X8_catalogue -/
theorem S74 {e : En} {I : HI} {D : HD} {Q : Int → HI → HD → Prop} (he : HS e)
    (h : Q (I 8 15) I D) :
    CI 74 [vR (some 0)] e I D Q := by
  refine Call_run (ls := [vR (some 0)]) rfl rfl ?_
  refine R_aload_n (pc' := 1) rfl rfl rfl ?_
  refine K_getR (pc' := 4) rfl rfl rfl rfl (st_at he rfl rfl (by decide)) ?_
  refine K_getIN (pc' := 7) rfl rfl (by decide) rfl rfl ?_
  exact R_iret rfl rfl ⟨_, _, _, rfl, rfl, h⟩
/-! 75 X8_pages -/
theorem S75 {e : En} {I : HI} {D : HD} {Q : Int → HI → HD → Prop} (he : HS e)
    (h : Q (I 154 1) I D) :
    CI 75 [vR (some 0)] e I D Q := by
  refine Call_run (ls := [vR (some 0)]) rfl rfl ?_
  refine R_aload_n (pc' := 1) rfl rfl rfl ?_
  refine K_getR (pc' := 4) rfl rfl rfl rfl (st_at he rfl rfl (by decide)) ?_
  refine K_getRN (pc' := 7) rfl rfl rfl rfl (st_at he rfl rfl (by decide)) ?_
  refine K_getIN (pc' := 10) rfl rfl (by decide) rfl rfl ?_
  exact R_iret rfl rfl ⟨_, _, _, rfl, rfl, h⟩
/-! 76 X8_page -/
theorem S76 {e : En} {I : HI} {D : HD} {Q : Res → HI → HD → Prop} {x1 : Int} (he : HS e)
    (h : ((x1 < 0 → Q (.inr 3) I D) ∧ (¬ (x1 < 0) → ((x1 < (I 154 1) → CI 18 [vR (some 154), vI x1] e I D (fun z1 I2 D3 => Q (.inl (some (vI z1))) I2 D3)) ∧ (¬ (x1 < (I 154 1)) → Q (.inr 3) I D))))) :
    CX 76 [vR (some 0), vI x1] e I D Q := by
  refine Call_run (ls := [vR (some 0), vI x1]) rfl rfl ?_
  refine R_iload_n (pc' := 1) rfl rfl rfl ?_
  refine R_iflt (pc' := 4) rfl rfl (fun hc => ?_) (fun hc => ?_)
  · replace h := h.1 hc
    exact R_throw rfl (by decide) rfl (by decide) rfl rfl rfl ⟨_, rfl, rfl⟩ ⟨_, _, _, _, rfl⟩ ⟨_, rfl, rfl⟩ ⟨_, _, rfl, h⟩
  · replace h := h.2 hc
    refine R_iload_n (pc' := 5) rfl rfl rfl ?_
    refine R_aload_n (pc' := 6) rfl rfl rfl ?_
    refine K_getR (pc' := 9) rfl rfl rfl rfl (st_at he rfl rfl (by decide)) ?_
    refine K_getRN (pc' := 12) rfl rfl rfl rfl (st_at he rfl rfl (by decide)) ?_
    refine K_getIN (pc' := 15) rfl rfl (by decide) rfl rfl ?_
    refine R_iclt (pc' := 18) rfl rfl (fun hc => ?_) (fun hc => ?_)
    · replace h := h.1 hc
      refine R_aload_n (pc' := 27) rfl rfl rfl ?_
      refine K_getR (pc' := 30) rfl rfl rfl rfl (st_at he rfl rfl (by decide)) ?_
      refine K_getRN (pc' := 33) rfl rfl rfl rfl (st_at he rfl rfl (by decide)) ?_
      refine R_iload_n (pc' := 34) rfl rfl rfl ?_
      refine KI_iv (as := [vI x1]) (rest := []) (pc' := 37) rfl rfl rfl rfl rfl (Nat.le_of_ble_eq_true rfl) rfl (CI_mono h ?_)
      intro z1 I2 D3 h
      exact R_iret rfl rfl ⟨_, _, rfl, h⟩
    · replace h := h.2 hc
      exact R_throw rfl (by decide) rfl (by decide) rfl rfl rfl ⟨_, rfl, rfl⟩ ⟨_, _, _, _, rfl⟩ ⟨_, rfl, rfl⟩ ⟨_, _, rfl, h⟩
/-! 77 X8_cut -/
theorem S77 {e : En} {I : HI} {D : HD} {Q : Int → HI → HD → Prop} (he : HS e)
    (h : Q (I 8 12) I D) :
    CI 77 [vR (some 0)] e I D Q := by
  refine Call_run (ls := [vR (some 0)]) rfl rfl ?_
  refine R_aload_n (pc' := 1) rfl rfl rfl ?_
  refine K_getR (pc' := 4) rfl rfl rfl rfl (st_at he rfl rfl (by decide)) ?_
  refine K_getIN (pc' := 7) rfl rfl (by decide) rfl rfl ?_
  exact R_iret rfl rfl ⟨_, _, _, rfl, rfl, h⟩
/-! 78 X8_trailer -/
theorem S78 {e : En} {I : HI} {D : HD} {Q : Res → HI → HD → Prop} {x1 : Int} (he : HS e)
    (h : ((x1 < 0 → Q (.inr 3) I D) ∧ (¬ (x1 < 0) → ((x1 ≤ 1 → ((¬ x1 = 0 → Q (.inl (some (vI (I 8 14)))) I D) ∧ (¬ (¬ x1 = 0) → Q (.inl (some (vI (I 8 13)))) I D))) ∧ (¬ (x1 ≤ 1) → Q (.inr 3) I D))))) :
    CX 78 [vR (some 0), vI x1] e I D Q := by
  refine Call_run (ls := [vR (some 0), vI x1]) rfl rfl ?_
  refine R_iload_n (pc' := 1) rfl rfl rfl ?_
  refine R_iflt (pc' := 4) rfl rfl (fun hc => ?_) (fun hc => ?_)
  · replace h := h.1 hc
    exact R_throw rfl (by decide) rfl (by decide) rfl rfl rfl ⟨_, rfl, rfl⟩ ⟨_, _, _, _, rfl⟩ ⟨_, rfl, rfl⟩ ⟨_, _, rfl, h⟩
  · replace h := h.2 hc
    refine R_iload_n (pc' := 5) rfl rfl rfl ?_
    refine R_iconst (pc' := 6) rfl rfl ?_
    refine R_icle (pc' := 9) rfl rfl (fun hc => ?_) (fun hc => ?_)
    · replace h := h.1 hc
      refine R_iload_n (pc' := 18) rfl rfl rfl ?_
      refine R_ifne (pc' := 21) rfl rfl (fun hc => ?_) (fun hc => ?_)
      · replace h := h.1 hc
        refine R_aload_n (pc' := 32) rfl rfl rfl ?_
        refine K_getR (pc' := 35) rfl rfl rfl rfl (st_at he rfl rfl (by decide)) ?_
        refine K_getIN (pc' := 38) rfl rfl (by decide) rfl rfl ?_
        exact R_iret rfl rfl ⟨_, _, rfl, h⟩
      · replace h := h.2 hc
        refine R_aload_n (pc' := 22) rfl rfl rfl ?_
        refine K_getR (pc' := 25) rfl rfl rfl rfl (st_at he rfl rfl (by decide)) ?_
        refine K_getIN (pc' := 28) rfl rfl (by decide) rfl rfl ?_
        refine R_goto rfl ?_
        exact R_iret rfl rfl ⟨_, _, rfl, h⟩
    · replace h := h.2 hc
      exact R_throw rfl (by decide) rfl (by decide) rfl rfl rfl ⟨_, rfl, rfl⟩ ⟨_, _, _, _, rfl⟩ ⟨_, rfl, rfl⟩ ⟨_, _, rfl, h⟩
/-! 79 X8_stream -/
theorem S79 {e : En} {I : HI} {D : HD} {Q : Res → HI → HD → Prop} {x1 : Int} {x2 : Int} (he : HS e)
    (h : CR 35 [vR (some 8), vI x1] e I D (fun z1 I2 D3 => ((z1 = none → Q (.inr 2) I2 D3) ∧ (∀ u4, z1 = some u4 → K0 u4 = 3 ∧ ((¬ (I2 u4 6) = 0 → ((¬ x2 = (-1) → ((x2 < 0 → Q (.inr 3) I2 D3) ∧ (¬ (x2 < 0) → (-2147483648 ≤ ((I2 u4 10) - (I2 u4 9)) ∧ ((I2 u4 10) - (I2 u4 9)) < 2147483648) ∧ ((x2 < ((I2 u4 10) - (I2 u4 9)) → (-2147483648 ≤ ((I2 u4 9) + x2) ∧ ((I2 u4 9) + x2) < 2147483648) ∧ CI 37 [vR (some 8), vI ((I2 u4 9) + x2)] e I2 D3 (fun z8 I9 D10 => Q (.inl (some (vI z8))) I9 D10)) ∧ (¬ (x2 < ((I2 u4 10) - (I2 u4 9))) → Q (.inr 3) I2 D3))))) ∧ (¬ (¬ x2 = (-1)) → (-2147483648 ≤ ((I2 u4 10) - (I2 u4 9)) ∧ ((I2 u4 10) - (I2 u4 9)) < 2147483648) ∧ Q (.inl (some (vI ((I2 u4 10) - (I2 u4 9))))) I2 D3))) ∧ (¬ (¬ (I2 u4 6) = 0) → Q (.inr 2) I2 D3)))))) :
    CX 79 [vR (some 0), vI x1, vI x2] e I D Q := by
  refine Call_run (ls := [vR (some 0), vI x1, vI x2, vJ]) rfl rfl ?_
  refine R_aload_n (pc' := 1) rfl rfl rfl ?_
  refine K_getR (pc' := 4) rfl rfl rfl rfl (st_at he rfl rfl (by decide)) ?_
  refine R_iload_n (pc' := 5) rfl rfl rfl ?_
  refine KR_iv (as := [vI x1]) (rest := []) (pc' := 8) rfl rfl rfl rfl rfl (Nat.le_of_ble_eq_true rfl) rfl (CR_mono h ?_)
  intro z1 I2 D3 h
  refine R_astore_n (ls' := [vR (some 0), vI x1, vI x2, vR z1]) (pc' := 9) rfl rfl rfl ?_
  refine R_aload_n (pc' := 10) rfl rfl rfl ?_
  refine R_ifnull (pc' := 13) rfl rfl (fun hn => ?_) (fun u4 hn => ?_)
  · replace h := h.1 hn
    subst hn
    exact R_throw rfl (by decide) rfl (by decide) rfl rfl rfl ⟨_, rfl, rfl⟩ ⟨_, _, _, _, rfl⟩ ⟨_, rfl, rfl⟩ ⟨_, _, rfl, h⟩
  · replace h := h.2 u4 hn
    subst hn
    have hu5 := h.1
    replace h := h.2
    refine R_aload_n (pc' := 14) rfl rfl rfl ?_
    refine K_getIN (pc' := 17) rfl rfl (by decide) hu5 rfl ?_
    refine R_ifne (pc' := 20) rfl rfl (fun hc => ?_) (fun hc => ?_)
    · replace h := h.1 hc
      refine R_iload_n (pc' := 29) rfl rfl rfl ?_
      refine R_iconst (pc' := 30) rfl rfl ?_
      refine R_icne (pc' := 33) rfl rfl (fun hc => ?_) (fun hc => ?_)
      · replace h := h.1 hc
        refine R_iload_n (pc' := 44) rfl rfl rfl ?_
        refine R_iflt (pc' := 47) rfl rfl (fun hc => ?_) (fun hc => ?_)
        · replace h := h.1 hc
          exact R_throw rfl (by decide) rfl (by decide) rfl rfl rfl ⟨_, rfl, rfl⟩ ⟨_, _, _, _, rfl⟩ ⟨_, rfl, rfl⟩ ⟨_, _, rfl, h⟩
        · replace h := h.2 hc
          refine R_iload_n (pc' := 48) rfl rfl rfl ?_
          refine R_aload_n (pc' := 49) rfl rfl rfl ?_
          refine K_getIN (pc' := 52) rfl rfl (by decide) hu5 rfl ?_
          refine R_aload_n (pc' := 53) rfl rfl rfl ?_
          refine K_getIN (pc' := 56) rfl rfl (by decide) hu5 rfl ?_
          have g6 := h.1
          replace h := h.2
          refine R_isub (pc' := 57) rfl rfl g6 ?_
          refine R_iclt (pc' := 60) rfl rfl (fun hc => ?_) (fun hc => ?_)
          · replace h := h.1 hc
            refine R_aload_n (pc' := 69) rfl rfl rfl ?_
            refine K_getR (pc' := 72) rfl rfl rfl rfl (st_at he rfl rfl (by decide)) ?_
            refine R_aload_n (pc' := 73) rfl rfl rfl ?_
            refine K_getIN (pc' := 76) rfl rfl (by decide) hu5 rfl ?_
            refine R_iload_n (pc' := 77) rfl rfl rfl ?_
            have g7 := h.1
            replace h := h.2
            refine R_iadd (pc' := 78) rfl rfl g7 ?_
            refine KI_iv (as := [vI ((I2 u4 9) + x2)]) (rest := []) (pc' := 81) rfl rfl rfl rfl rfl (Nat.le_of_ble_eq_true rfl) rfl (CI_mono h ?_)
            intro z8 I9 D10 h
            exact R_iret rfl rfl ⟨_, _, rfl, h⟩
          · replace h := h.2 hc
            exact R_throw rfl (by decide) rfl (by decide) rfl rfl rfl ⟨_, rfl, rfl⟩ ⟨_, _, _, _, rfl⟩ ⟨_, rfl, rfl⟩ ⟨_, _, rfl, h⟩
      · replace h := h.2 hc
        refine R_aload_n (pc' := 34) rfl rfl rfl ?_
        refine K_getIN (pc' := 37) rfl rfl (by decide) hu5 rfl ?_
        refine R_aload_n (pc' := 38) rfl rfl rfl ?_
        refine K_getIN (pc' := 41) rfl rfl (by decide) hu5 rfl ?_
        have g11 := h.1
        replace h := h.2
        refine R_isub (pc' := 42) rfl rfl g11 ?_
        exact R_iret rfl rfl ⟨_, _, rfl, h⟩
    · replace h := h.2 hc
      exact R_throw rfl (by decide) rfl (by decide) rfl rfl rfl ⟨_, rfl, rfl⟩ ⟨_, _, _, _, rfl⟩ ⟨_, rfl, rfl⟩ ⟨_, _, rfl, h⟩
/-! 80 X8_whole -/
theorem S80 {e : En} {I : HI} {D : HD} {Q : Res → HI → HD → Prop} {x1 : Int} (he : HS e)
    (h : CR 35 [vR (some 8), vI x1] e I D (fun z1 I2 D3 => ((z1 = none → Q (.inr 2) I2 D3) ∧ (∀ u4, z1 = some u4 → K0 u4 = 3 ∧ (((I2 u4 5) = 0 → Q (.inl (some (vI 0))) I2 D3) ∧ (¬ ((I2 u4 5) = 0) → (((I2 u4 6) = 0 → RX 80 42 [vJ, vJ, vJ] [] e I2 D3 Q) ∧ (¬ ((I2 u4 6) = 0) → (((I2 u4 7) = 0 → Q (.inl (some (vI 0))) I2 D3) ∧ (¬ ((I2 u4 7) = 0) → RX 80 42 [vJ, vJ, vJ] [] e I2 D3 Q)))))))))) :
    CX 80 [vR (some 0), vI x1] e I D Q := by
  refine Call_run (ls := [vR (some 0), vI x1, vJ]) rfl rfl ?_
  refine R_aload_n (pc' := 1) rfl rfl rfl ?_
  refine K_getR (pc' := 4) rfl rfl rfl rfl (st_at he rfl rfl (by decide)) ?_
  refine R_iload_n (pc' := 5) rfl rfl rfl ?_
  refine KR_iv (as := [vI x1]) (rest := []) (pc' := 8) rfl rfl rfl rfl rfl (Nat.le_of_ble_eq_true rfl) rfl (CR_mono h ?_)
  intro z1 I2 D3 h
  refine R_astore_n (ls' := [vR (some 0), vI x1, vR z1]) (pc' := 9) rfl rfl rfl ?_
  refine R_aload_n (pc' := 10) rfl rfl rfl ?_
  refine R_ifnonnull (pc' := 13) rfl rfl (fun u4 hn => ?_) (fun hn => ?_)
  · replace h := h.2 u4 hn
    subst hn
    have hu5 := h.1
    replace h := h.2
    refine R_aload_n (pc' := 22) rfl rfl rfl ?_
    refine K_getIN (pc' := 25) rfl rfl (by decide) hu5 rfl ?_
    refine R_ifeq (pc' := 28) rfl rfl (fun hc => ?_) (fun hc => ?_)
    · replace h := h.1 hc
      refine R_iconst (pc' := 47) rfl rfl ?_
      exact R_zret rfl rfl (Or.inl rfl) ⟨_, _, rfl, h⟩
    · replace h := h.2 hc
      refine R_aload_n (pc' := 29) rfl rfl rfl ?_
      refine K_getIN (pc' := 32) rfl rfl (by decide) hu5 rfl ?_
      refine R_ifeq (pc' := 35) rfl rfl (fun hc => ?_) (fun hc => ?_)
      · replace h := h.1 hc
        exact R_forget (ls' := [vJ, vJ, vJ]) ⟨Or.inr rfl, Or.inr rfl, Or.inr rfl, trivial⟩ h
      · replace h := h.2 hc
        refine R_aload_n (pc' := 36) rfl rfl rfl ?_
        refine K_getIN (pc' := 39) rfl rfl (by decide) hu5 rfl ?_
        refine R_ifeq (pc' := 42) rfl rfl (fun hc => ?_) (fun hc => ?_)
        · replace h := h.1 hc
          refine R_iconst (pc' := 47) rfl rfl ?_
          exact R_zret rfl rfl (Or.inl rfl) ⟨_, _, rfl, h⟩
        · replace h := h.2 hc
          exact R_forget (ls' := [vJ, vJ, vJ]) ⟨Or.inr rfl, Or.inr rfl, Or.inr rfl, trivial⟩ h
  · replace h := h.1 hn
    subst hn
    exact R_throw rfl (by decide) rfl (by decide) rfl rfl rfl ⟨_, rfl, rfl⟩ ⟨_, _, _, _, rfl⟩ ⟨_, rfl, rfl⟩ ⟨_, _, rfl, h⟩
theorem S80_42 {e : En} {I : HI} {D : HD} {Q : Res → HI → HD → Prop} (he : HS e)
    (h : Q (.inl (some (vI 1))) I D) :
    RX 80 42 [vJ, vJ, vJ] [] e I D Q := by
  show Run 80 42 [vJ, vJ, vJ] [] (mk e I D) (pX e Q)
  refine R_iconst (pc' := 43) rfl rfl ?_
  refine R_goto rfl ?_
  exact R_zret rfl rfl (Or.inr rfl) ⟨_, _, rfl, h⟩
/-! 81 X8_twice -/
theorem S81 {e : En} {I : HI} {D : HD} {Q : Res → HI → HD → Prop} {x1 : Int} (he : HS e)
    (h : ((¬ x1 = (-1) → ((x1 < 0 → Q (.inr 3) I D) ∧ (¬ (x1 < 0) → ((x1 < (I 22 3) → CI 13 [vR (some 22), vI x1] e I D (fun z1 I2 D3 => Q (.inl (some (vI z1))) I2 D3)) ∧ (¬ (x1 < (I 22 3)) → Q (.inr 3) I D))))) ∧ (¬ (¬ x1 = (-1)) → Q (.inl (some (vI (I 22 3)))) I D))) :
    CX 81 [vR (some 0), vI x1] e I D Q := by
  refine Call_run (ls := [vR (some 0), vI x1]) rfl rfl ?_
  refine R_iload_n (pc' := 1) rfl rfl rfl ?_
  refine R_iconst (pc' := 2) rfl rfl ?_
  refine R_icne (pc' := 5) rfl rfl (fun hc => ?_) (fun hc => ?_)
  · replace h := h.1 hc
    refine R_iload_n (pc' := 17) rfl rfl rfl ?_
    refine R_iflt (pc' := 20) rfl rfl (fun hc => ?_) (fun hc => ?_)
    · replace h := h.1 hc
      exact R_throw rfl (by decide) rfl (by decide) rfl rfl rfl ⟨_, rfl, rfl⟩ ⟨_, _, _, _, rfl⟩ ⟨_, rfl, rfl⟩ ⟨_, _, rfl, h⟩
    · replace h := h.2 hc
      refine R_iload_n (pc' := 21) rfl rfl rfl ?_
      refine R_aload_n (pc' := 22) rfl rfl rfl ?_
      refine K_getR (pc' := 25) rfl rfl rfl rfl (st_at he rfl rfl (by decide)) ?_
      refine K_getRN (pc' := 28) rfl rfl rfl rfl (st_at he rfl rfl (by decide)) ?_
      refine K_getIN (pc' := 31) rfl rfl (by decide) rfl rfl ?_
      refine R_iclt (pc' := 34) rfl rfl (fun hc => ?_) (fun hc => ?_)
      · replace h := h.1 hc
        refine R_aload_n (pc' := 43) rfl rfl rfl ?_
        refine K_getR (pc' := 46) rfl rfl rfl rfl (st_at he rfl rfl (by decide)) ?_
        refine K_getRN (pc' := 49) rfl rfl rfl rfl (st_at he rfl rfl (by decide)) ?_
        refine R_iload_n (pc' := 50) rfl rfl rfl ?_
        refine KI_iv (as := [vI x1]) (rest := []) (pc' := 53) rfl rfl rfl rfl rfl (Nat.le_of_ble_eq_true rfl) rfl (CI_mono h ?_)
        intro z1 I2 D3 h
        exact R_iret rfl rfl ⟨_, _, rfl, h⟩
      · replace h := h.2 hc
        exact R_throw rfl (by decide) rfl (by decide) rfl rfl rfl ⟨_, rfl, rfl⟩ ⟨_, _, _, _, rfl⟩ ⟨_, rfl, rfl⟩ ⟨_, _, rfl, h⟩
  · replace h := h.2 hc
    refine R_aload_n (pc' := 6) rfl rfl rfl ?_
    refine K_getR (pc' := 9) rfl rfl rfl rfl (st_at he rfl rfl (by decide)) ?_
    refine K_getRN (pc' := 12) rfl rfl rfl rfl (st_at he rfl rfl (by decide)) ?_
    refine K_getIN (pc' := 15) rfl rfl (by decide) rfl rfl ?_
    exact R_iret rfl rfl ⟨_, _, rfl, h⟩
/-! 82 X8_again -/
theorem S82 {e : En} {I : HI} {D : HD} {Q : Int → HI → HD → Prop} (he : HS e)
    (h : ((¬ (I 8 2) = 0 → CV 61 [vR (some 310), vR (some 8)] e I D (fun I2 D3 => CV 24 [vR (some 159), vR (some 311), vI (I2 310 1)] e I2 D3 (fun I5 D6 => Q (I5 169 3) I5 D6))) ∧ (¬ (¬ (I 8 2) = 0) → Q 0 I D))) :
    CI 82 [vR (some 0)] e I D Q := by
  refine Call_run (ls := [vR (some 0)]) rfl rfl ?_
  refine R_aload_n (pc' := 1) rfl rfl rfl ?_
  refine K_getR (pc' := 4) rfl rfl rfl rfl (st_at he rfl rfl (by decide)) ?_
  refine K_getIN (pc' := 7) rfl rfl (by decide) rfl rfl ?_
  refine R_ifne (pc' := 10) rfl rfl (fun hc => ?_) (fun hc => ?_)
  · replace h := h.1 hc
    refine R_aload_n (pc' := 13) rfl rfl rfl ?_
    refine K_getR (pc' := 16) rfl rfl rfl rfl (st_at he rfl rfl (by decide)) ?_
    refine R_aload_n (pc' := 17) rfl rfl rfl ?_
    refine K_getR (pc' := 20) rfl rfl rfl rfl (st_at he rfl rfl (by decide)) ?_
    refine KV_iv (as := [vR (some 8)]) (rest := []) (pc' := 23) rfl rfl rfl rfl rfl (Nat.le_of_ble_eq_true rfl) rfl (CV_mono h ?_)
    intro I2 D3 h
    refine R_aload_n (pc' := 24) rfl rfl rfl ?_
    refine K_getR (pc' := 27) rfl rfl rfl rfl (st_at he rfl rfl (by decide)) ?_
    refine R_aload_n (pc' := 28) rfl rfl rfl ?_
    refine K_getR (pc' := 31) rfl rfl rfl rfl (st_at he rfl rfl (by decide)) ?_
    refine K_getRN (pc' := 34) rfl rfl rfl rfl (st_at he rfl rfl (by decide)) ?_
    refine R_aload_n (pc' := 35) rfl rfl rfl ?_
    refine K_getR (pc' := 38) rfl rfl rfl rfl (st_at he rfl rfl (by decide)) ?_
    refine K_getIN (pc' := 41) rfl rfl (by decide) rfl rfl ?_
    refine KV_iv (as := [vR (some 311), vI (I2 310 1)]) (rest := []) (pc' := 44) rfl rfl rfl rfl rfl (Nat.le_of_ble_eq_true rfl) rfl (CV_mono h ?_)
    intro I5 D6 h
    refine R_aload_n (pc' := 45) rfl rfl rfl ?_
    refine K_getR (pc' := 48) rfl rfl rfl rfl (st_at he rfl rfl (by decide)) ?_
    refine K_getRN (pc' := 51) rfl rfl rfl rfl (st_at he rfl rfl (by decide)) ?_
    refine K_getIN (pc' := 54) rfl rfl (by decide) rfl rfl ?_
    exact R_iret rfl rfl ⟨_, _, _, rfl, rfl, h⟩
  · replace h := h.2 hc
    refine R_iconst (pc' := 11) rfl rfl ?_
    exact R_iret rfl rfl ⟨_, _, _, rfl, rfl, h⟩
/-! 83 X8_written -/
theorem S83 {e : En} {I : HI} {D : HD} {Q : Res → HI → HD → Prop} {x1 : Int} (he : HS e)
    (h : ((¬ x1 = (-1) → ((x1 < 0 → Q (.inr 3) I D) ∧ (¬ (x1 < 0) → ((x1 < (I 310 1) → CI 60 [vR (some 310), vI x1] e I D (fun z1 I2 D3 => Q (.inl (some (vI z1))) I2 D3)) ∧ (¬ (x1 < (I 310 1)) → Q (.inr 3) I D))))) ∧ (¬ (¬ x1 = (-1)) → Q (.inl (some (vI (I 310 1)))) I D))) :
    CX 83 [vR (some 0), vI x1] e I D Q := by
  refine Call_run (ls := [vR (some 0), vI x1]) rfl rfl ?_
  refine R_iload_n (pc' := 1) rfl rfl rfl ?_
  refine R_iconst (pc' := 2) rfl rfl ?_
  refine R_icne (pc' := 5) rfl rfl (fun hc => ?_) (fun hc => ?_)
  · replace h := h.1 hc
    refine R_iload_n (pc' := 14) rfl rfl rfl ?_
    refine R_iflt (pc' := 17) rfl rfl (fun hc => ?_) (fun hc => ?_)
    · replace h := h.1 hc
      exact R_throw rfl (by decide) rfl (by decide) rfl rfl rfl ⟨_, rfl, rfl⟩ ⟨_, _, _, _, rfl⟩ ⟨_, rfl, rfl⟩ ⟨_, _, rfl, h⟩
    · replace h := h.2 hc
      refine R_iload_n (pc' := 18) rfl rfl rfl ?_
      refine R_aload_n (pc' := 19) rfl rfl rfl ?_
      refine K_getR (pc' := 22) rfl rfl rfl rfl (st_at he rfl rfl (by decide)) ?_
      refine K_getIN (pc' := 25) rfl rfl (by decide) rfl rfl ?_
      refine R_iclt (pc' := 28) rfl rfl (fun hc => ?_) (fun hc => ?_)
      · replace h := h.1 hc
        refine R_aload_n (pc' := 37) rfl rfl rfl ?_
        refine K_getR (pc' := 40) rfl rfl rfl rfl (st_at he rfl rfl (by decide)) ?_
        refine R_iload_n (pc' := 41) rfl rfl rfl ?_
        refine KI_iv (as := [vI x1]) (rest := []) (pc' := 44) rfl rfl rfl rfl rfl (Nat.le_of_ble_eq_true rfl) rfl (CI_mono h ?_)
        intro z1 I2 D3 h
        exact R_iret rfl rfl ⟨_, _, rfl, h⟩
      · replace h := h.2 hc
        exact R_throw rfl (by decide) rfl (by decide) rfl rfl rfl ⟨_, rfl, rfl⟩ ⟨_, _, _, _, rfl⟩ ⟨_, rfl, rfl⟩ ⟨_, _, rfl, h⟩
  · replace h := h.2 hc
    refine R_aload_n (pc' := 6) rfl rfl rfl ?_
    refine K_getR (pc' := 9) rfl rfl rfl rfl (st_at he rfl rfl (by decide)) ?_
    refine K_getIN (pc' := 12) rfl rfl (by decide) rfl rfl ?_
    exact R_iret rfl rfl ⟨_, _, rfl, h⟩
