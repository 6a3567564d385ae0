/-! what the code of each method does: printed by wip/whole/gen/decomp.py -/
/-! 112 X9_lookAtReferences -/
theorem S112 {e : En} {I : HI} {D : HD} {Q : HI → HD → Prop} (he : HS e)
    (h : RV 112 2 [vR (some 312), vI 1, vJ] [] e I D Q) :
    CV 112 [vR (some 312)] e I D Q := by
  refine Call_run (ls := [vR (some 312), vJ, vJ]) rfl rfl ?_
  refine R_iconst (pc' := 1) rfl rfl ?_
  refine R_istore_n (ls' := [vR (some 312), vI 1, vJ]) (pc' := 2) rfl rfl rfl ?_
  exact h
theorem S112_2 {e : En} {I : HI} {D : HD} {Q : HI → HD → Prop} {x1 : Int} (he : HS e)
    (h : (((61 : Int) ≤ x1 → Q I D) ∧ (¬ ((61 : Int) ≤ x1) → CI 103 [vR (some 312), vI x1] e I D (fun z1 I2 D3 => ((z1 = 0 → RV 112 67 [vR (some 312), vI x1, vJ] [] e I2 D3 Q) ∧ (¬ (z1 = 0) → CV 104 [vR (some 312), vI x1, vL 0, vI 0] e I2 D3 (fun I5 D6 => RV 112 25 [vR (some 312), vI x1, vI 0] [] e I5 D6 Q))))))) :
    RV 112 2 [vR (some 312), vI x1, vJ] [] e I D Q := by
  show Run 112 2 [vR (some 312), vI x1, vJ] [] (mk e I D) (pV e Q)
  refine R_iload_n (pc' := 3) rfl rfl rfl ?_
  refine R_bipush (pc' := 5) rfl rfl ?_
  refine R_icge (pc' := 8) rfl rfl (fun hc => ?_) (fun hc => ?_)
  · replace h := h.1 hc
    exact R_vret rfl rfl ⟨_, _, rfl, rfl, h⟩
  · replace h := h.2 hc
    refine R_aload_n (pc' := 9) rfl rfl rfl ?_
    refine R_iload_n (pc' := 10) rfl rfl rfl ?_
    refine KI_iv (as := [vI x1]) (rest := []) (pc' := 13) rfl rfl rfl rfl rfl (Nat.le_of_ble_eq_true rfl) rfl (CI_mono h ?_)
    intro z1 I2 D3 h
    refine R_ifeq (pc' := 16) rfl rfl (fun hc => ?_) (fun hc => ?_)
    · replace h := h.1 hc
      exact h
    · replace h := h.2 hc
      refine R_aload_n (pc' := 17) rfl rfl rfl ?_
      refine R_iload_n (pc' := 18) rfl rfl rfl ?_
      refine R_lconst (pc' := 19) rfl rfl ?_
      refine R_iconst (pc' := 20) rfl rfl ?_
      refine KV_iv (as := [vI x1, vL 0, vI 0]) (rest := []) (pc' := 23) rfl rfl rfl rfl rfl (Nat.le_of_ble_eq_true rfl) rfl (CV_mono h ?_)
      intro I5 D6 h
      refine R_iconst (pc' := 24) rfl rfl ?_
      refine R_istore_n (ls' := [vR (some 312), vI x1, vI 0]) (pc' := 25) rfl rfl rfl ?_
      exact h
theorem S112_25 {e : En} {I : HI} {D : HD} {Q : HI → HD → Prop} {x1 : Int} {x2 : Int} (he : HS e)
    (h : (((I 312 38) ≤ x2 → RV 112 67 [vR (some 312), vI x1, vJ] [] e I D Q) ∧ (¬ ((I 312 38) ≤ x2) → (0 ≤ x2 ∧ x2 < 700) ∧ CI 103 [vR (some 312), vI (I 335 (x2.toNat))] e I D (fun z2 I3 D4 => ((¬ z2 = 0 → RV 112 61 [vR (some 312), vI x1, vI x2] [] e I3 D4 Q) ∧ (¬ (¬ z2 = 0) → CI 102 [vR (some 312), vI x1] e I3 D4 (fun z5 I6 D7 => (0 ≤ z5 ∧ z5 < 122) ∧ CV 106 [vR (some 312), vI 5, vI (I6 317 (z5.toNat))] e I6 D7 (fun I10 D11 => RV 112 61 [vR (some 312), vI x1, vI x2] [] e I10 D11 Q)))))))) :
    RV 112 25 [vR (some 312), vI x1, vI x2] [] e I D Q := by
  show Run 112 25 [vR (some 312), vI x1, vI x2] [] (mk e I D) (pV e Q)
  refine R_iload_n (pc' := 26) rfl rfl rfl ?_
  refine R_aload_n (pc' := 27) rfl rfl rfl ?_
  refine K_getI (pc' := 30) rfl rfl (by decide) rfl rfl ?_
  refine R_icge (pc' := 33) rfl rfl (fun hc => ?_) (fun hc => ?_)
  · replace h := h.1 hc
    exact R_forget (ls' := [vR (some 312), vI x1, vJ]) ⟨Or.inl rfl, Or.inl rfl, Or.inr rfl, trivial⟩ h
  · replace h := h.2 hc
    refine R_aload_n (pc' := 34) rfl rfl rfl ?_
    refine R_aload_n (pc' := 35) rfl rfl rfl ?_
    refine K_getR (pc' := 38) rfl rfl rfl rfl (st_at he rfl rfl (by decide)) ?_
    refine R_iload_n (pc' := 39) rfl rfl rfl ?_
    have g1 := h.1
    replace h := h.2
    refine K_iald (pc' := 40) rfl rfl rfl g1.1 g1.2 rfl ?_
    refine KI_iv (as := [vI (I 335 (x2.toNat))]) (rest := []) (pc' := 43) rfl rfl rfl rfl rfl (Nat.le_of_ble_eq_true rfl) rfl (CI_mono h ?_)
    intro z2 I3 D4 h
    refine R_ifne (pc' := 46) rfl rfl (fun hc => ?_) (fun hc => ?_)
    · replace h := h.1 hc
      exact h
    · replace h := h.2 hc
      refine R_aload_n (pc' := 47) rfl rfl rfl ?_
      refine R_iconst (pc' := 48) rfl rfl ?_
      refine R_aload_n (pc' := 49) rfl rfl rfl ?_
      refine K_getR (pc' := 52) rfl rfl rfl rfl (st_at he rfl rfl (by decide)) ?_
      refine R_aload_n (pc' := 53) rfl rfl rfl ?_
      refine R_iload_n (pc' := 54) rfl rfl rfl ?_
      refine KI_iv (as := [vI x1]) (rest := [vR (some 317), vI 5, vR (some 312)]) (pc' := 57) rfl rfl rfl rfl rfl (Nat.le_of_ble_eq_true rfl) rfl (CI_mono h ?_)
      intro z5 I6 D7 h
      have g8 := h.1
      replace h := h.2
      refine K_iald (pc' := 58) rfl rfl rfl g8.1 g8.2 rfl ?_
      refine KV_iv (as := [vI 5, vI (I6 317 (z5.toNat))]) (rest := []) (pc' := 61) rfl rfl rfl rfl rfl (Nat.le_of_ble_eq_true rfl) rfl (CV_mono h ?_)
      intro I10 D11 h
      exact h
theorem S112_61 {e : En} {I : HI} {D : HD} {Q : HI → HD → Prop} {x1 : Int} {x2 : Int} (he : HS e)
    (h : (-2147483648 ≤ (x2 + 1) ∧ (x2 + 1) < 2147483648) ∧ RV 112 25 [vR (some 312), vI x1, vI (x2 + 1)] [] e I D Q) :
    RV 112 61 [vR (some 312), vI x1, vI x2] [] e I D Q := by
  show Run 112 61 [vR (some 312), vI x1, vI x2] [] (mk e I D) (pV e Q)
  have g1 := h.1
  replace h := h.2
  refine R_iinc (ls' := [vR (some 312), vI x1, vI (x2 + 1)]) (pc' := 64) rfl rfl rfl g1 rfl ?_
  refine R_goto rfl ?_
  exact h
theorem S112_67 {e : En} {I : HI} {D : HD} {Q : HI → HD → Prop} {x1 : Int} (he : HS e)
    (h : (-2147483648 ≤ (x1 + 1) ∧ (x1 + 1) < 2147483648) ∧ RV 112 2 [vR (some 312), vI (x1 + 1), vJ] [] e I D Q) :
    RV 112 67 [vR (some 312), vI x1, vJ] [] e I D Q := by
  show Run 112 67 [vR (some 312), vI x1, vJ] [] (mk e I D) (pV e Q)
  have g1 := h.1
  replace h := h.2
  refine R_iinc (ls' := [vR (some 312), vI (x1 + 1), vJ]) (pc' := 70) rfl rfl rfl g1 rfl ?_
  refine R_goto rfl ?_
  exact h
/-! 113 X9_pagesOf -/
theorem S113 {e : En} {I : HI} {D : HD} {Q : Int → HI → HD → Prop} {x1 : Int} (he : HS e)
    (h : CV 104 [vR (some 312), vI x1, vL 126879363321903, vI 6] e I D (fun I2 D3 => CI 101 [vR (some 312)] e I2 D3 (fun z4 I5 D6 => Q z4 I5 D6))) :
    CI 113 [vR (some 312), vI x1] e I D Q := by
  refine Call_run (ls := [vR (some 312), vI x1]) rfl rfl ?_
  refine R_aload_n (pc' := 1) rfl rfl rfl ?_
  refine R_iload_n (pc' := 2) rfl rfl rfl ?_
  refine R_ldc2 (pc' := 5) rfl rfl ?_
  refine R_bipush (pc' := 7) rfl rfl ?_
  refine KV_iv (as := [vI x1, vL 126879363321903, vI 6]) (rest := []) (pc' := 10) rfl rfl rfl rfl rfl (Nat.le_of_ble_eq_true rfl) rfl (CV_mono h ?_)
  intro I2 D3 h
  refine R_aload_n (pc' := 11) rfl rfl rfl ?_
  refine KI_iv (as := []) (rest := []) (pc' := 14) rfl rfl rfl rfl rfl (Nat.le_of_ble_eq_true rfl) rfl (CI_mono h ?_)
  intro z4 I5 D6 h
  exact R_iret rfl rfl ⟨_, _, _, rfl, rfl, h⟩
/-! 114 X9_guess -/
theorem S114 {e : En} {I : HI} {D : HD} {Q : Int → HI → HD → Prop} (he : HS e)
    (h : CV 106 [vR (some 312), vI 6, vI 0] e I D (fun I2 D3 => RI 114 13 [vR (some 312), vI 0, vI 0, vI 1, vJ, vJ] [] e I2 D3 Q)) :
    CI 114 [vR (some 312)] e I D Q := by
  refine Call_run (ls := [vR (some 312), vJ, vJ, vJ, vJ, vJ]) rfl rfl ?_
  refine R_aload_n (pc' := 1) rfl rfl rfl ?_
  refine R_bipush (pc' := 3) rfl rfl ?_
  refine R_iconst (pc' := 4) rfl rfl ?_
  refine KV_iv (as := [vI 6, vI 0]) (rest := []) (pc' := 7) rfl rfl rfl rfl rfl (Nat.le_of_ble_eq_true rfl) rfl (CV_mono h ?_)
  intro I2 D3 h
  refine R_iconst (pc' := 8) rfl rfl ?_
  refine R_istore_n (ls' := [vR (some 312), vI 0, vJ, vJ, vJ, vJ]) (pc' := 9) rfl rfl rfl ?_
  refine R_iconst (pc' := 10) rfl rfl ?_
  refine R_istore_n (ls' := [vR (some 312), vI 0, vI 0, vJ, vJ, vJ]) (pc' := 11) rfl rfl rfl ?_
  refine R_iconst (pc' := 12) rfl rfl ?_
  refine R_istore_n (ls' := [vR (some 312), vI 0, vI 0, vI 1, vJ, vJ]) (pc' := 13) rfl rfl rfl ?_
  exact h
theorem S114_13 {e : En} {I : HI} {D : HD} {Q : Int → HI → HD → Prop} {x1 : Int} {x2 : Int} {x3 : Int} (he : HS e)
    (h : (((61 : Int) ≤ x3 → ((x1 ≤ 0 → Q x1 I D) ∧ (¬ (x1 ≤ 0) → CI 102 [vR (some 312), vI x1] e I D (fun z1 I2 D3 => (0 ≤ z1 ∧ z1 < 122) ∧ CV 106 [vR (some 312), vI 7, vI (I2 317 (z1.toNat))] e I2 D3 (fun I6 D7 => Q x1 I6 D7))))) ∧ (¬ ((61 : Int) ≤ x3) → CI 105 [vR (some 312), vI x3] e I D (fun z8 I9 D10 => ((¬ z8 = 1 → RI 114 120 [vR (some 312), vI x1, vI x2, vI x3, vJ, vJ] [] e I9 D10 Q) ∧ (¬ (¬ z8 = 1) → CI 113 [vR (some 312), vI x3] e I9 D10 (fun z11 I12 D13 => CI 105 [vR (some 312), vI z11] e I12 D13 (fun z14 I15 D16 => ((¬ z14 = 2 → RI 114 46 [vR (some 312), vI x1, vI x2, vI x3, vJ, vJ] [vI 0] e I15 D16 Q) ∧ (¬ (¬ z14 = 2) → RI 114 46 [vR (some 312), vI x1, vI x2, vI x3, vJ, vJ] [vI 1] e I15 D16 Q)))))))))) :
    RI 114 13 [vR (some 312), vI x1, vI x2, vI x3, vJ, vJ] [] e I D Q := by
  show Run 114 13 [vR (some 312), vI x1, vI x2, vI x3, vJ, vJ] [] (mk e I D) (pI e Q)
  refine R_iload_n (pc' := 14) rfl rfl rfl ?_
  refine R_bipush (pc' := 16) rfl rfl ?_
  refine R_icge (pc' := 19) rfl rfl (fun hc => ?_) (fun hc => ?_)
  · replace h := h.1 hc
    refine R_iload_n (pc' := 127) rfl rfl rfl ?_
    refine R_ifle (pc' := 130) rfl rfl (fun hc => ?_) (fun hc => ?_)
    · replace h := h.1 hc
      refine R_iload_n (pc' := 147) rfl rfl rfl ?_
      exact R_iret rfl rfl ⟨_, _, _, rfl, rfl, h⟩
    · replace h := h.2 hc
      refine R_aload_n (pc' := 131) rfl rfl rfl ?_
      refine R_bipush (pc' := 133) rfl rfl ?_
      refine R_aload_n (pc' := 134) rfl rfl rfl ?_
      refine K_getR (pc' := 137) rfl rfl rfl rfl (st_at he rfl rfl (by decide)) ?_
      refine R_aload_n (pc' := 138) rfl rfl rfl ?_
      refine R_iload_n (pc' := 139) rfl rfl rfl ?_
      refine KI_iv (as := [vI x1]) (rest := [vR (some 317), vI 7, vR (some 312)]) (pc' := 142) rfl rfl rfl rfl rfl (Nat.le_of_ble_eq_true rfl) rfl (CI_mono h ?_)
      intro z1 I2 D3 h
      have g4 := h.1
      replace h := h.2
      refine K_iald (pc' := 143) rfl rfl rfl g4.1 g4.2 rfl ?_
      refine KV_iv (as := [vI 7, vI (I2 317 (z1.toNat))]) (rest := []) (pc' := 146) rfl rfl rfl rfl rfl (Nat.le_of_ble_eq_true rfl) rfl (CV_mono h ?_)
      intro I6 D7 h
      refine R_iload_n (pc' := 147) rfl rfl rfl ?_
      exact R_iret rfl rfl ⟨_, _, _, rfl, rfl, h⟩
  · replace h := h.2 hc
    refine R_aload_n (pc' := 20) rfl rfl rfl ?_
    refine R_iload_n (pc' := 21) rfl rfl rfl ?_
    refine KI_iv (as := [vI x3]) (rest := []) (pc' := 24) rfl rfl rfl rfl rfl (Nat.le_of_ble_eq_true rfl) rfl (CI_mono h ?_)
    intro z8 I9 D10 h
    refine R_iconst (pc' := 25) rfl rfl ?_
    refine R_icne (pc' := 28) rfl rfl (fun hc => ?_) (fun hc => ?_)
    · replace h := h.1 hc
      exact h
    · replace h := h.2 hc
      refine R_aload_n (pc' := 29) rfl rfl rfl ?_
      refine R_aload_n (pc' := 30) rfl rfl rfl ?_
      refine R_iload_n (pc' := 31) rfl rfl rfl ?_
      refine KI_iv (as := [vI x3]) (rest := [vR (some 312)]) (pc' := 34) rfl rfl rfl rfl rfl (Nat.le_of_ble_eq_true rfl) rfl (CI_mono h ?_)
      intro z11 I12 D13 h
      refine KI_iv (as := [vI z11]) (rest := []) (pc' := 37) rfl rfl rfl rfl rfl (Nat.le_of_ble_eq_true rfl) rfl (CI_mono h ?_)
      intro z14 I15 D16 h
      refine R_iconst (pc' := 38) rfl rfl ?_
      refine R_icne (pc' := 41) rfl rfl (fun hc => ?_) (fun hc => ?_)
      · replace h := h.1 hc
        refine R_iconst (pc' := 46) rfl rfl ?_
        exact h
      · replace h := h.2 hc
        refine R_iconst (pc' := 42) rfl rfl ?_
        refine R_goto rfl ?_
        exact h
theorem S114_46 {e : En} {I : HI} {D : HD} {Q : Int → HI → HD → Prop} {x1 : Int} {x2 : Int} {x3 : Int} {y0 : Int} (he : HS e)
    (h : ((x1 = 0 → RI 114 90 [vR (some 312), vI x1, vI x2, vI x3, vI y0, vJ] [] e I D Q) ∧ (¬ (x1 = 0) → ((y0 = 0 → RI 114 61 [vR (some 312), vI x1, vI x2, vI x3, vI y0, vJ] [] e I D Q) ∧ (¬ (y0 = 0) → ((x2 = 0 → RI 114 90 [vR (some 312), vI x1, vI x2, vI x3, vI y0, vJ] [] e I D Q) ∧ (¬ (x2 = 0) → RI 114 61 [vR (some 312), vI x1, vI x2, vI x3, vI y0, vJ] [] e I D Q))))))) :
    RI 114 46 [vR (some 312), vI x1, vI x2, vI x3, vJ, vJ] [vI y0] e I D Q := by
  show Run 114 46 [vR (some 312), vI x1, vI x2, vI x3, vJ, vJ] [vI y0] (mk e I D) (pI e Q)
  refine R_istore (ls' := [vR (some 312), vI x1, vI x2, vI x3, vI y0, vJ]) (pc' := 48) rfl rfl rfl ?_
  refine R_iload_n (pc' := 49) rfl rfl rfl ?_
  refine R_ifeq (pc' := 52) rfl rfl (fun hc => ?_) (fun hc => ?_)
  · replace h := h.1 hc
    exact h
  · replace h := h.2 hc
    refine R_iload (pc' := 54) rfl rfl rfl ?_
    refine R_ifeq (pc' := 57) rfl rfl (fun hc => ?_) (fun hc => ?_)
    · replace h := h.1 hc
      exact h
    · replace h := h.2 hc
      refine R_iload_n (pc' := 58) rfl rfl rfl ?_
      refine R_ifeq (pc' := 61) rfl rfl (fun hc => ?_) (fun hc => ?_)
      · replace h := h.1 hc
        exact h
      · replace h := h.2 hc
        exact h
theorem S114_61 {e : En} {I : HI} {D : HD} {Q : Int → HI → HD → Prop} {x1 : Int} {x2 : Int} {x3 : Int} {x4 : Int} (he : HS e)
    (h : ((¬ x4 = x2 → RI 114 94 [vR (some 312), vI x1, vI x2, vI x3, vI x4, vJ] [] e I D Q) ∧ (¬ (¬ x4 = x2) → CI 102 [vR (some 312), vI x3] e I D (fun z1 I2 D3 => (0 ≤ z1 ∧ z1 < 122) ∧ CI 102 [vR (some 312), vI x1] e I2 D3 (fun z5 I6 D7 => (0 ≤ z5 ∧ z5 < 122) ∧ (((I2 317 (z1.toNat)) ≤ (I6 317 (z5.toNat)) → RI 114 94 [vR (some 312), vI x1, vI x2, vI x3, vI x4, vJ] [] e I6 D7 Q) ∧ (¬ ((I2 317 (z1.toNat)) ≤ (I6 317 (z5.toNat))) → RI 114 90 [vR (some 312), vI x1, vI x2, vI x3, vI x4, vJ] [] e I6 D7 Q))))))) :
    RI 114 61 [vR (some 312), vI x1, vI x2, vI x3, vI x4, vJ] [] e I D Q := by
  show Run 114 61 [vR (some 312), vI x1, vI x2, vI x3, vI x4, vJ] [] (mk e I D) (pI e Q)
  refine R_iload (pc' := 63) rfl rfl rfl ?_
  refine R_iload_n (pc' := 64) rfl rfl rfl ?_
  refine R_icne (pc' := 67) rfl rfl (fun hc => ?_) (fun hc => ?_)
  · replace h := h.1 hc
    exact h
  · replace h := h.2 hc
    refine R_aload_n (pc' := 68) rfl rfl rfl ?_
    refine K_getR (pc' := 71) rfl rfl rfl rfl (st_at he rfl rfl (by decide)) ?_
    refine R_aload_n (pc' := 72) rfl rfl rfl ?_
    refine R_iload_n (pc' := 73) rfl rfl rfl ?_
    refine KI_iv (as := [vI x3]) (rest := [vR (some 317)]) (pc' := 76) rfl rfl rfl rfl rfl (Nat.le_of_ble_eq_true rfl) rfl (CI_mono h ?_)
    intro z1 I2 D3 h
    have g4 := h.1
    replace h := h.2
    refine K_iald (pc' := 77) rfl rfl rfl g4.1 g4.2 rfl ?_
    refine R_aload_n (pc' := 78) rfl rfl rfl ?_
    refine K_getR (pc' := 81) rfl rfl rfl rfl (st_at he rfl rfl (by decide)) ?_
    refine R_aload_n (pc' := 82) rfl rfl rfl ?_
    refine R_iload_n (pc' := 83) rfl rfl rfl ?_
    refine KI_iv (as := [vI x1]) (rest := [vR (some 317), vI (I2 317 (z1.toNat))]) (pc' := 86) rfl rfl rfl rfl rfl (Nat.le_of_ble_eq_true rfl) rfl (CI_mono h ?_)
    intro z5 I6 D7 h
    have g8 := h.1
    replace h := h.2
    refine K_iald (pc' := 87) rfl rfl rfl g8.1 g8.2 rfl ?_
    refine R_icle (pc' := 90) rfl rfl (fun hc => ?_) (fun hc => ?_)
    · replace h := h.1 hc
      exact h
    · replace h := h.2 hc
      exact h
theorem S114_90 {e : En} {I : HI} {D : HD} {Q : Int → HI → HD → Prop} {x1 : Int} {x2 : Int} {x3 : Int} {x4 : Int} (he : HS e)
    (h : RI 114 95 [vR (some 312), vI x1, vI x2, vI x3, vI x4, vJ] [vI 1] e I D Q) :
    RI 114 90 [vR (some 312), vI x1, vI x2, vI x3, vI x4, vJ] [] e I D Q := by
  show Run 114 90 [vR (some 312), vI x1, vI x2, vI x3, vI x4, vJ] [] (mk e I D) (pI e Q)
  refine R_iconst (pc' := 91) rfl rfl ?_
  refine R_goto rfl ?_
  exact h
theorem S114_94 {e : En} {I : HI} {D : HD} {Q : Int → HI → HD → Prop} {x1 : Int} {x2 : Int} {x3 : Int} {x4 : Int} (he : HS e)
    (h : RI 114 95 [vR (some 312), vI x1, vI x2, vI x3, vI x4, vJ] [vI 0] e I D Q) :
    RI 114 94 [vR (some 312), vI x1, vI x2, vI x3, vI x4, vJ] [] e I D Q := by
  show Run 114 94 [vR (some 312), vI x1, vI x2, vI x3, vI x4, vJ] [] (mk e I D) (pI e Q)
  refine R_iconst (pc' := 95) rfl rfl ?_
  exact h
theorem S114_95 {e : En} {I : HI} {D : HD} {Q : Int → HI → HD → Prop} {x1 : Int} {x2 : Int} {x3 : Int} {x4 : Int} {y0 : Int} (he : HS e)
    (h : ((y0 = 0 → RI 114 107 [vR (some 312), vJ, vI x2, vI x3, vI x4, vI y0] [vI x1] e I D Q) ∧ (¬ (y0 = 0) → RI 114 107 [vR (some 312), vJ, vI x2, vI x3, vI x4, vI y0] [vI x3] e I D Q))) :
    RI 114 95 [vR (some 312), vI x1, vI x2, vI x3, vI x4, vJ] [vI y0] e I D Q := by
  show Run 114 95 [vR (some 312), vI x1, vI x2, vI x3, vI x4, vJ] [vI y0] (mk e I D) (pI e Q)
  refine R_istore (ls' := [vR (some 312), vI x1, vI x2, vI x3, vI x4, vI y0]) (pc' := 97) rfl rfl rfl ?_
  refine R_iload (pc' := 99) rfl rfl rfl ?_
  refine R_ifeq (pc' := 102) rfl rfl (fun hc => ?_) (fun hc => ?_)
  · replace h := h.1 hc
    refine R_iload_n (pc' := 107) rfl rfl rfl ?_
    exact R_forget (ls' := [vR (some 312), vJ, vI x2, vI x3, vI x4, vI y0]) ⟨Or.inl rfl, Or.inr rfl, Or.inl rfl, Or.inl rfl, Or.inl rfl, Or.inl rfl, trivial⟩ h
  · replace h := h.2 hc
    refine R_iload_n (pc' := 103) rfl rfl rfl ?_
    refine R_goto rfl ?_
    exact R_forget (ls' := [vR (some 312), vJ, vI x2, vI x3, vI x4, vI y0]) ⟨Or.inl rfl, Or.inr rfl, Or.inl rfl, Or.inl rfl, Or.inl rfl, Or.inl rfl, trivial⟩ h
theorem S114_107 {e : En} {I : HI} {D : HD} {Q : Int → HI → HD → Prop} {x2 : Int} {x3 : Int} {x4 : Int} {x5 : Int} {y0 : Int} (he : HS e)
    (h : ((x5 = 0 → RI 114 119 [vR (some 312), vI y0, vJ, vI x3, vJ, vJ] [vI x2] e I D Q) ∧ (¬ (x5 = 0) → RI 114 119 [vR (some 312), vI y0, vJ, vI x3, vJ, vJ] [vI x4] e I D Q))) :
    RI 114 107 [vR (some 312), vJ, vI x2, vI x3, vI x4, vI x5] [vI y0] e I D Q := by
  show Run 114 107 [vR (some 312), vJ, vI x2, vI x3, vI x4, vI x5] [vI y0] (mk e I D) (pI e Q)
  refine R_istore_n (ls' := [vR (some 312), vI y0, vI x2, vI x3, vI x4, vI x5]) (pc' := 108) rfl rfl rfl ?_
  refine R_iload (pc' := 110) rfl rfl rfl ?_
  refine R_ifeq (pc' := 113) rfl rfl (fun hc => ?_) (fun hc => ?_)
  · replace h := h.1 hc
    refine R_iload_n (pc' := 119) rfl rfl rfl ?_
    exact R_forget (ls' := [vR (some 312), vI y0, vJ, vI x3, vJ, vJ]) ⟨Or.inl rfl, Or.inl rfl, Or.inr rfl, Or.inl rfl, Or.inr rfl, Or.inr rfl, trivial⟩ h
  · replace h := h.2 hc
    refine R_iload (pc' := 115) rfl rfl rfl ?_
    refine R_goto rfl ?_
    exact R_forget (ls' := [vR (some 312), vI y0, vJ, vI x3, vJ, vJ]) ⟨Or.inl rfl, Or.inl rfl, Or.inr rfl, Or.inl rfl, Or.inr rfl, Or.inr rfl, trivial⟩ h
theorem S114_119 {e : En} {I : HI} {D : HD} {Q : Int → HI → HD → Prop} {x1 : Int} {x3 : Int} {y0 : Int} (he : HS e)
    (h : RI 114 120 [vR (some 312), vI x1, vI y0, vI x3, vJ, vJ] [] e I D Q) :
    RI 114 119 [vR (some 312), vI x1, vJ, vI x3, vJ, vJ] [vI y0] e I D Q := by
  show Run 114 119 [vR (some 312), vI x1, vJ, vI x3, vJ, vJ] [vI y0] (mk e I D) (pI e Q)
  refine R_istore_n (ls' := [vR (some 312), vI x1, vI y0, vI x3, vJ, vJ]) (pc' := 120) rfl rfl rfl ?_
  exact h
theorem S114_120 {e : En} {I : HI} {D : HD} {Q : Int → HI → HD → Prop} {x1 : Int} {x2 : Int} {x3 : Int} (he : HS e)
    (h : (-2147483648 ≤ (x3 + 1) ∧ (x3 + 1) < 2147483648) ∧ RI 114 13 [vR (some 312), vI x1, vI x2, vI (x3 + 1), vJ, vJ] [] e I D Q) :
    RI 114 120 [vR (some 312), vI x1, vI x2, vI x3, vJ, vJ] [] e I D Q := by
  show Run 114 120 [vR (some 312), vI x1, vI x2, vI x3, vJ, vJ] [] (mk e I D) (pI e Q)
  have g1 := h.1
  replace h := h.2
  refine R_iinc (ls' := [vR (some 312), vI x1, vI x2, vI (x3 + 1), vJ, vJ]) (pc' := 123) rfl rfl rfl g1 rfl ?_
  refine R_goto rfl ?_
  exact h
/-! 115 X9_addPage -/
theorem S115 {e : En} {I : HI} {D : HD} {Q : HI → HD → Prop} {x1 : Int} (he : HS e)
    (h : (-2147483648 ≤ (61 * (I 312 4)) ∧ (61 * (I 312 4)) < 2147483648) ∧ (0 ≤ (I 312 4) ∧ (I 312 4) < 2) ∧ (-2147483648 ≤ ((61 * (I 312 4)) + (I 331 (((I 312 4) : Int).toNat))) ∧ ((61 * (I 312 4)) + (I 331 (((I 312 4) : Int).toNat))) < 2147483648) ∧ (0 ≤ ((61 * (I 312 4)) + (I 331 (((I 312 4) : Int).toNat))) ∧ ((61 * (I 312 4)) + (I 331 (((I 312 4) : Int).toNat))) < 122) ∧ (0 ≤ (I 312 4) ∧ (I 312 4) < 2) ∧ (-2147483648 ≤ ((I 331 (((I 312 4) : Int).toNat)) + 1) ∧ ((I 331 (((I 312 4) : Int).toNat)) + 1) < 2147483648) ∧ (0 ≤ (I 312 4) ∧ (I 312 4) < 2) ∧ Q (uI (uI I 332 ((((61 * (I 312 4)) + (I 331 (((I 312 4) : Int).toNat))) : Int).toNat) x1) 331 (((I 312 4) : Int).toNat) ((I 331 (((I 312 4) : Int).toNat)) + 1)) D) :
    CV 115 [vR (some 312), vI x1] e I D Q := by
  refine Call_run (ls := [vR (some 312), vI x1]) rfl rfl ?_
  refine R_aload_n (pc' := 1) rfl rfl rfl ?_
  refine K_getR (pc' := 4) rfl rfl rfl rfl (st_at he rfl rfl (by decide)) ?_
  refine R_bipush (pc' := 6) rfl rfl ?_
  refine R_aload_n (pc' := 7) rfl rfl rfl ?_
  refine K_getI (pc' := 10) rfl rfl (by decide) rfl rfl ?_
  have g1 := h.1
  replace h := h.2
  refine R_imul (pc' := 11) rfl rfl g1 ?_
  refine R_aload_n (pc' := 12) rfl rfl rfl ?_
  refine K_getR (pc' := 15) rfl rfl rfl rfl (st_at he rfl rfl (by decide)) ?_
  refine R_aload_n (pc' := 16) rfl rfl rfl ?_
  refine K_getI (pc' := 19) rfl rfl (by decide) rfl rfl ?_
  have g2 := h.1
  replace h := h.2
  refine K_iald (pc' := 20) rfl rfl rfl g2.1 g2.2 rfl ?_
  have g3 := h.1
  replace h := h.2
  refine R_iadd (pc' := 21) rfl rfl g3 ?_
  refine R_iload_n (pc' := 22) rfl rfl rfl ?_
  have g4 := h.1
  replace h := h.2
  refine K_iast (pc' := 23) rfl rfl rfl g4.1 g4.2 ?_
  refine R_aload_n (pc' := 24) rfl rfl rfl ?_
  refine K_getR (pc' := 27) rfl rfl rfl rfl (st_at he rfl rfl (by decide)) ?_
  refine R_aload_n (pc' := 28) rfl rfl rfl ?_
  refine K_getI (pc' := 31) rfl rfl (by decide) rfl rfl ?_
  refine R_dup2 (pc' := 32) rfl rfl rfl rfl ?_
  have g5 := h.1
  replace h := h.2
  refine K_iald (pc' := 33) rfl rfl rfl g5.1 g5.2 rfl ?_
  refine R_iconst (pc' := 34) rfl rfl ?_
  have g6 := h.1
  replace h := h.2
  refine R_iadd (pc' := 35) rfl rfl g6 ?_
  have g7 := h.1
  replace h := h.2
  refine K_iast (pc' := 36) rfl rfl rfl g7.1 g7.2 ?_
  exact R_vret rfl rfl ⟨_, _, rfl, rfl, h⟩
/-! 116 X9_walk -/
theorem S116 {e : En} {I : HI} {D : HD} {Q : HI → HD → Prop} {x1 : Int} (he : HS e)
    (h : RV 116 2 [vR (some 312), vI x1, vI 0, vJ, vJ, vJ] [] e I D Q) :
    CV 116 [vR (some 312), vI x1] e I D Q := by
  refine Call_run (ls := [vR (some 312), vI x1, vJ, vJ, vJ, vJ]) rfl rfl ?_
  refine R_iconst (pc' := 1) rfl rfl ?_
  refine R_istore_n (ls' := [vR (some 312), vI x1, vI 0, vJ, vJ, vJ]) (pc' := 2) rfl rfl rfl ?_
  exact h
theorem S116_2 {e : En} {I : HI} {D : HD} {Q : HI → HD → Prop} {x1 : Int} {x2 : Int} (he : HS e)
    (h : (((61 : Int) ≤ x2 → RV 116 30 [vR (some 312), vJ, vI 1, vJ, vJ, vJ] [] e (uI I 339 0 x1) D Q) ∧ (¬ ((61 : Int) ≤ x2) → (0 ≤ x2 ∧ x2 < 61) ∧ (-2147483648 ≤ (x2 + 1) ∧ (x2 + 1) < 2147483648) ∧ RV 116 2 [vR (some 312), vI x1, vI (x2 + 1), vJ, vJ, vJ] [] e (uI I 338 (x2.toNat) 0) D Q))) :
    RV 116 2 [vR (some 312), vI x1, vI x2, vJ, vJ, vJ] [] e I D Q := by
  show Run 116 2 [vR (some 312), vI x1, vI x2, vJ, vJ, vJ] [] (mk e I D) (pV e Q)
  refine R_iload_n (pc' := 3) rfl rfl rfl ?_
  refine R_bipush (pc' := 5) rfl rfl ?_
  refine R_icge (pc' := 8) rfl rfl (fun hc => ?_) (fun hc => ?_)
  · replace h := h.1 hc
    refine R_iconst (pc' := 22) rfl rfl ?_
    refine R_istore_n (ls' := [vR (some 312), vI x1, vI 1, vJ, vJ, vJ]) (pc' := 23) rfl rfl rfl ?_
    refine R_aload_n (pc' := 24) rfl rfl rfl ?_
    refine K_getR (pc' := 27) rfl rfl rfl rfl (st_at he rfl rfl (by decide)) ?_
    refine R_iconst (pc' := 28) rfl rfl ?_
    refine R_iload_n (pc' := 29) rfl rfl rfl ?_
    refine K_iast (pc' := 30) rfl rfl rfl (by decide) (by decide) ?_
    exact R_forget (ls' := [vR (some 312), vJ, vI 1, vJ, vJ, vJ]) ⟨Or.inl rfl, Or.inr rfl, Or.inl rfl, Or.inl rfl, Or.inl rfl, Or.inl rfl, trivial⟩ h
  · replace h := h.2 hc
    refine R_aload_n (pc' := 9) rfl rfl rfl ?_
    refine K_getR (pc' := 12) rfl rfl rfl rfl (st_at he rfl rfl (by decide)) ?_
    refine R_iload_n (pc' := 13) rfl rfl rfl ?_
    refine R_iconst (pc' := 14) rfl rfl ?_
    have g1 := h.1
    replace h := h.2
    refine K_zast (pc' := 15) rfl rfl rfl g1.1 g1.2 (Or.inl rfl) ?_
    have g2 := h.1
    replace h := h.2
    refine R_iinc (ls' := [vR (some 312), vI x1, vI (x2 + 1), vJ, vJ, vJ]) (pc' := 18) rfl rfl rfl g2 rfl ?_
    refine R_goto rfl ?_
    exact h
theorem S116_30 {e : En} {I : HI} {D : HD} {Q : HI → HD → Prop} {x2 : Int} (he : HS e)
    (h : ((x2 ≤ 0 → Q I D) ∧ (¬ (x2 ≤ 0) → (-2147483648 ≤ (x2 + (-1)) ∧ (x2 + (-1)) < 2147483648) ∧ (0 ≤ (x2 + (-1)) ∧ (x2 + (-1)) < 1400) ∧ CI 103 [vR (some 312), vI (I 339 (((x2 + (-1)) : Int).toNat))] e I D (fun z3 I4 D5 => ((z3 = 0 → RV 116 151 [vR (some 312), vJ, vI (x2 + (-1)), vJ, vJ, vJ] [] e I4 D5 Q) ∧ (¬ (z3 = 0) → (0 ≤ (I 339 (((x2 + (-1)) : Int).toNat)) ∧ (I 339 (((x2 + (-1)) : Int).toNat)) < 61) ∧ ((¬ (I4 338 (((I 339 (((x2 + (-1)) : Int).toNat)) : Int).toNat)) = 0 → RV 116 151 [vR (some 312), vJ, vI (x2 + (-1)), vJ, vJ, vJ] [] e I4 D5 Q) ∧ (¬ (¬ (I4 338 (((I 339 (((x2 + (-1)) : Int).toNat)) : Int).toNat)) = 0) → (0 ≤ (I 339 (((x2 + (-1)) : Int).toNat)) ∧ (I 339 (((x2 + (-1)) : Int).toNat)) < 61) ∧ CI 105 [vR (some 312), vI (I 339 (((x2 + (-1)) : Int).toNat))] e (uI I4 338 (((I 339 (((x2 + (-1)) : Int).toNat)) : Int).toNat) 1) D5 (fun z8 I9 D10 => ((¬ z8 = 3 → ((¬ z8 = 2 → RV 116 151 [vR (some 312), vJ, vI (x2 + (-1)), vJ, vJ, vJ] [] e I9 D10 Q) ∧ (¬ (¬ z8 = 2) → CV 104 [vR (some 312), vI (I 339 (((x2 + (-1)) : Int).toNat)), vL 495605861167, vI 5] e I9 D10 (fun I12 D13 => (-2147483648 ≤ ((I12 312 51) - 1) ∧ ((I12 312 51) - 1) < 2147483648) ∧ RV 116 112 [vR (some 312), vJ, vI (x2 + (-1)), vJ, vJ, vI ((I12 312 51) - 1)] [] e I12 D13 Q)))) ∧ (¬ (¬ z8 = 3) → CV 115 [vR (some 312), vI (I 339 (((x2 + (-1)) : Int).toNat))] e I9 D10 (fun I16 D17 => RV 116 151 [vR (some 312), vJ, vI (x2 + (-1)), vJ, vJ, vJ] [] e I16 D17 Q)))))))))))) :
    RV 116 30 [vR (some 312), vJ, vI x2, vJ, vJ, vJ] [] e I D Q := by
  show Run 116 30 [vR (some 312), vJ, vI x2, vJ, vJ, vJ] [] (mk e I D) (pV e Q)
  refine R_iload_n (pc' := 31) rfl rfl rfl ?_
  refine R_ifle (pc' := 34) rfl rfl (fun hc => ?_) (fun hc => ?_)
  · replace h := h.1 hc
    exact R_vret rfl rfl ⟨_, _, rfl, rfl, h⟩
  · replace h := h.2 hc
    have g1 := h.1
    replace h := h.2
    refine R_iinc (ls' := [vR (some 312), vJ, vI (x2 + (-1)), vJ, vJ, vJ]) (pc' := 37) rfl rfl rfl g1 rfl ?_
    refine R_aload_n (pc' := 38) rfl rfl rfl ?_
    refine K_getR (pc' := 41) rfl rfl rfl rfl (st_at he rfl rfl (by decide)) ?_
    refine R_iload_n (pc' := 42) rfl rfl rfl ?_
    have g2 := h.1
    replace h := h.2
    refine K_iald (pc' := 43) rfl rfl rfl g2.1 g2.2 rfl ?_
    refine R_istore_n (ls' := [vR (some 312), vJ, vI (x2 + (-1)), vI (I 339 (((x2 + (-1)) : Int).toNat)), vJ, vJ]) (pc' := 44) rfl rfl rfl ?_
    refine R_aload_n (pc' := 45) rfl rfl rfl ?_
    refine R_iload_n (pc' := 46) rfl rfl rfl ?_
    refine KI_iv (as := [vI (I 339 (((x2 + (-1)) : Int).toNat))]) (rest := []) (pc' := 49) rfl rfl rfl rfl rfl (Nat.le_of_ble_eq_true rfl) rfl (CI_mono h ?_)
    intro z3 I4 D5 h
    refine R_ifeq (pc' := 52) rfl rfl (fun hc => ?_) (fun hc => ?_)
    · replace h := h.1 hc
      exact R_forget (ls' := [vR (some 312), vJ, vI (x2 + (-1)), vJ, vJ, vJ]) ⟨Or.inl rfl, Or.inl rfl, Or.inl rfl, Or.inr rfl, Or.inl rfl, Or.inl rfl, trivial⟩ h
    · replace h := h.2 hc
      refine R_aload_n (pc' := 53) rfl rfl rfl ?_
      refine K_getR (pc' := 56) rfl rfl rfl rfl (st_at he rfl rfl (by decide)) ?_
      refine R_iload_n (pc' := 57) rfl rfl rfl ?_
      have g6 := h.1
      replace h := h.2
      refine K_zald (pc' := 58) rfl rfl rfl g6.1 g6.2 rfl ?_
      refine R_ifne (pc' := 61) rfl rfl (fun hc => ?_) (fun hc => ?_)
      · replace h := h.1 hc
        exact R_forget (ls' := [vR (some 312), vJ, vI (x2 + (-1)), vJ, vJ, vJ]) ⟨Or.inl rfl, Or.inl rfl, Or.inl rfl, Or.inr rfl, Or.inl rfl, Or.inl rfl, trivial⟩ h
      · replace h := h.2 hc
        refine R_aload_n (pc' := 62) rfl rfl rfl ?_
        refine K_getR (pc' := 65) rfl rfl rfl rfl (st_at he rfl rfl (by decide)) ?_
        refine R_iload_n (pc' := 66) rfl rfl rfl ?_
        refine R_iconst (pc' := 67) rfl rfl ?_
        have g7 := h.1
        replace h := h.2
        refine K_zast (pc' := 68) rfl rfl rfl g7.1 g7.2 (Or.inr rfl) ?_
        refine R_aload_n (pc' := 69) rfl rfl rfl ?_
        refine R_iload_n (pc' := 70) rfl rfl rfl ?_
        refine KI_iv (as := [vI (I 339 (((x2 + (-1)) : Int).toNat))]) (rest := []) (pc' := 73) rfl rfl rfl rfl rfl (Nat.le_of_ble_eq_true rfl) rfl (CI_mono h ?_)
        intro z8 I9 D10 h
        refine R_istore (ls' := [vR (some 312), vJ, vI (x2 + (-1)), vI (I 339 (((x2 + (-1)) : Int).toNat)), vI z8, vJ]) (pc' := 75) rfl rfl rfl ?_
        refine R_iload (pc' := 77) rfl rfl rfl ?_
        refine R_iconst (pc' := 78) rfl rfl ?_
        refine R_icne (pc' := 81) rfl rfl (fun hc => ?_) (fun hc => ?_)
        · replace h := h.1 hc
          refine R_iload (pc' := 91) rfl rfl rfl ?_
          refine R_iconst (pc' := 92) rfl rfl ?_
          refine R_icne (pc' := 95) rfl rfl (fun hc => ?_) (fun hc => ?_)
          · replace h := h.1 hc
            exact R_forget (ls' := [vR (some 312), vJ, vI (x2 + (-1)), vJ, vJ, vJ]) ⟨Or.inl rfl, Or.inl rfl, Or.inl rfl, Or.inr rfl, Or.inr rfl, Or.inl rfl, trivial⟩ h
          · replace h := h.2 hc
            refine R_aload_n (pc' := 96) rfl rfl rfl ?_
            refine R_iload_n (pc' := 97) rfl rfl rfl ?_
            refine R_ldc2 (pc' := 100) rfl rfl ?_
            refine R_iconst (pc' := 101) rfl rfl ?_
            refine KV_iv (as := [vI (I 339 (((x2 + (-1)) : Int).toNat)), vL 495605861167, vI 5]) (rest := []) (pc' := 104) rfl rfl rfl rfl rfl (Nat.le_of_ble_eq_true rfl) rfl (CV_mono h ?_)
            intro I12 D13 h
            refine R_aload_n (pc' := 105) rfl rfl rfl ?_
            refine K_getI (pc' := 108) rfl rfl (by decide) rfl rfl ?_
            refine R_iconst (pc' := 109) rfl rfl ?_
            have g14 := h.1
            replace h := h.2
            refine R_isub (pc' := 110) rfl rfl g14 ?_
            refine R_istore (ls' := [vR (some 312), vJ, vI (x2 + (-1)), vI (I 339 (((x2 + (-1)) : Int).toNat)), vI z8, vI ((I12 312 51) - 1)]) (pc' := 112) rfl rfl rfl ?_
            exact R_forget (ls' := [vR (some 312), vJ, vI (x2 + (-1)), vJ, vJ, vI ((I12 312 51) - 1)]) ⟨Or.inl rfl, Or.inl rfl, Or.inl rfl, Or.inr rfl, Or.inr rfl, Or.inl rfl, trivial⟩ h
        · replace h := h.2 hc
          refine R_aload_n (pc' := 82) rfl rfl rfl ?_
          refine R_iload_n (pc' := 83) rfl rfl rfl ?_
          refine KV_iv (as := [vI (I 339 (((x2 + (-1)) : Int).toNat))]) (rest := []) (pc' := 86) rfl rfl rfl rfl rfl (Nat.le_of_ble_eq_true rfl) rfl (CV_mono h ?_)
          intro I16 D17 h
          refine R_goto rfl ?_
          exact R_forget (ls' := [vR (some 312), vJ, vI (x2 + (-1)), vJ, vJ, vJ]) ⟨Or.inl rfl, Or.inl rfl, Or.inl rfl, Or.inr rfl, Or.inr rfl, Or.inl rfl, trivial⟩ h
theorem S116_112 {e : En} {I : HI} {D : HD} {Q : HI → HD → Prop} {x2 : Int} {x5 : Int} (he : HS e)
    (h : (((I 312 45) = 0 → RV 116 151 [vR (some 312), vJ, vI x2, vJ, vJ, vJ] [] e I D Q) ∧ (¬ ((I 312 45) = 0) → ((x5 < 0 → RV 116 151 [vR (some 312), vJ, vI x2, vJ, vJ, vJ] [] e I D Q) ∧ (¬ (x5 < 0) → (-2147483648 ≤ ((I 312 50) + x5) ∧ ((I 312 50) + x5) < 2147483648) ∧ (0 ≤ ((I 312 50) + x5) ∧ ((I 312 50) + x5) < 700) ∧ (0 ≤ x2 ∧ x2 < 1400) ∧ (-2147483648 ≤ (x2 + 1) ∧ (x2 + 1) < 2147483648) ∧ (-2147483648 ≤ (x5 + (-1)) ∧ (x5 + (-1)) < 2147483648) ∧ RV 116 112 [vR (some 312), vJ, vI (x2 + 1), vJ, vJ, vI (x5 + (-1))] [] e (uI I 339 (x2.toNat) (I 335 ((((I 312 50) + x5) : Int).toNat))) D Q))))) :
    RV 116 112 [vR (some 312), vJ, vI x2, vJ, vJ, vI x5] [] e I D Q := by
  show Run 116 112 [vR (some 312), vJ, vI x2, vJ, vJ, vI x5] [] (mk e I D) (pV e Q)
  refine R_aload_n (pc' := 113) rfl rfl rfl ?_
  refine K_getI (pc' := 116) rfl rfl (by decide) rfl rfl ?_
  refine R_ifeq (pc' := 119) rfl rfl (fun hc => ?_) (fun hc => ?_)
  · replace h := h.1 hc
    exact R_forget (ls' := [vR (some 312), vJ, vI x2, vJ, vJ, vJ]) ⟨Or.inl rfl, Or.inl rfl, Or.inl rfl, Or.inl rfl, Or.inl rfl, Or.inr rfl, trivial⟩ h
  · replace h := h.2 hc
    refine R_iload (pc' := 121) rfl rfl rfl ?_
    refine R_iflt (pc' := 124) rfl rfl (fun hc => ?_) (fun hc => ?_)
    · replace h := h.1 hc
      exact R_forget (ls' := [vR (some 312), vJ, vI x2, vJ, vJ, vJ]) ⟨Or.inl rfl, Or.inl rfl, Or.inl rfl, Or.inl rfl, Or.inl rfl, Or.inr rfl, trivial⟩ h
    · replace h := h.2 hc
      refine R_aload_n (pc' := 125) rfl rfl rfl ?_
      refine K_getR (pc' := 128) rfl rfl rfl rfl (st_at he rfl rfl (by decide)) ?_
      refine R_iload_n (pc' := 129) rfl rfl rfl ?_
      refine R_aload_n (pc' := 130) rfl rfl rfl ?_
      refine K_getR (pc' := 133) rfl rfl rfl rfl (st_at he rfl rfl (by decide)) ?_
      refine R_aload_n (pc' := 134) rfl rfl rfl ?_
      refine K_getI (pc' := 137) rfl rfl (by decide) rfl rfl ?_
      refine R_iload (pc' := 139) rfl rfl rfl ?_
      have g1 := h.1
      replace h := h.2
      refine R_iadd (pc' := 140) rfl rfl g1 ?_
      have g2 := h.1
      replace h := h.2
      refine K_iald (pc' := 141) rfl rfl rfl g2.1 g2.2 rfl ?_
      have g3 := h.1
      replace h := h.2
      refine K_iast (pc' := 142) rfl rfl rfl g3.1 g3.2 ?_
      have g4 := h.1
      replace h := h.2
      refine R_iinc (ls' := [vR (some 312), vJ, vI (x2 + 1), vJ, vJ, vI x5]) (pc' := 145) rfl rfl rfl g4 rfl ?_
      have g5 := h.1
      replace h := h.2
      refine R_iinc (ls' := [vR (some 312), vJ, vI (x2 + 1), vJ, vJ, vI (x5 + (-1))]) (pc' := 148) rfl rfl rfl g5 rfl ?_
      refine R_goto rfl ?_
      exact h
theorem S116_151 {e : En} {I : HI} {D : HD} {Q : HI → HD → Prop} {x2 : Int} (he : HS e)
    (h : RV 116 30 [vR (some 312), vJ, vI x2, vJ, vJ, vJ] [] e I D Q) :
    RV 116 151 [vR (some 312), vJ, vI x2, vJ, vJ, vJ] [] e I D Q := by
  show Run 116 151 [vR (some 312), vJ, vI x2, vJ, vJ, vJ] [] (mk e I D) (pV e Q)
  refine R_goto rfl ?_
  exact h
/-! 117 X9_scanAll -/
theorem S117 {e : En} {I : HI} {D : HD} {Q : HI → HD → Prop} (he : HS e)
    (h : (0 ≤ (I 312 4) ∧ (I 312 4) < 2) ∧ (0 ≤ (I 312 4) ∧ (I 312 4) < 2) ∧ (0 ≤ (I 312 4) ∧ (I 312 4) < 2) ∧ (0 ≤ (I 312 4) ∧ (I 312 4) < 2) ∧ (0 ≤ (I 312 4) ∧ (I 312 4) < 2) ∧ RV 117 57 [vR (some 312), vI 0, vJ, vJ] [] e (uI (uI (uI (uI (uI (uI I 323 (((I 312 4) : Int).toNat) 0) 327 (((I 312 4) : Int).toNat) 0) 328 (((I 312 4) : Int).toNat) 0) 329 (((I 312 4) : Int).toNat) 0) 331 (((I 312 4) : Int).toNat) 0) 312 25 0) D Q) :
    CV 117 [vR (some 312)] e I D Q := by
  refine Call_run (ls := [vR (some 312), vJ, vJ, vJ]) rfl rfl ?_
  refine R_aload_n (pc' := 1) rfl rfl rfl ?_
  refine K_getR (pc' := 4) rfl rfl rfl rfl (st_at he rfl rfl (by decide)) ?_
  refine R_aload_n (pc' := 5) rfl rfl rfl ?_
  refine K_getI (pc' := 8) rfl rfl (by decide) rfl rfl ?_
  refine R_iconst (pc' := 9) rfl rfl ?_
  have g1 := h.1
  replace h := h.2
  refine K_iast (pc' := 10) rfl rfl rfl g1.1 g1.2 ?_
  refine R_aload_n (pc' := 11) rfl rfl rfl ?_
  refine K_getR (pc' := 14) rfl rfl rfl rfl (st_at he rfl rfl (by decide)) ?_
  refine R_aload_n (pc' := 15) rfl rfl rfl ?_
  refine K_getI (pc' := 18) rfl rfl (by decide) rfl rfl ?_
  refine R_iconst (pc' := 19) rfl rfl ?_
  have g2 := h.1
  replace h := h.2
  refine K_iast (pc' := 20) rfl rfl rfl g2.1 g2.2 ?_
  refine R_aload_n (pc' := 21) rfl rfl rfl ?_
  refine K_getR (pc' := 24) rfl rfl rfl rfl (st_at he rfl rfl (by decide)) ?_
  refine R_aload_n (pc' := 25) rfl rfl rfl ?_
  refine K_getI (pc' := 28) rfl rfl (by decide) rfl rfl ?_
  refine R_iconst (pc' := 29) rfl rfl ?_
  have g3 := h.1
  replace h := h.2
  refine K_iast (pc' := 30) rfl rfl rfl g3.1 g3.2 ?_
  refine R_aload_n (pc' := 31) rfl rfl rfl ?_
  refine K_getR (pc' := 34) rfl rfl rfl rfl (st_at he rfl rfl (by decide)) ?_
  refine R_aload_n (pc' := 35) rfl rfl rfl ?_
  refine K_getI (pc' := 38) rfl rfl (by decide) rfl rfl ?_
  refine R_iconst (pc' := 39) rfl rfl ?_
  have g4 := h.1
  replace h := h.2
  refine K_iast (pc' := 40) rfl rfl rfl g4.1 g4.2 ?_
  refine R_aload_n (pc' := 41) rfl rfl rfl ?_
  refine K_getR (pc' := 44) rfl rfl rfl rfl (st_at he rfl rfl (by decide)) ?_
  refine R_aload_n (pc' := 45) rfl rfl rfl ?_
  refine K_getI (pc' := 48) rfl rfl (by decide) rfl rfl ?_
  refine R_iconst (pc' := 49) rfl rfl ?_
  have g5 := h.1
  replace h := h.2
  refine K_iast (pc' := 50) rfl rfl rfl g5.1 g5.2 ?_
  refine R_aload_n (pc' := 51) rfl rfl rfl ?_
  refine R_iconst (pc' := 52) rfl rfl ?_
  refine K_putI (pc' := 55) rfl rfl (by decide) (fun h => absurd h (by decide)) rfl ?_
  refine R_iconst (pc' := 56) rfl rfl ?_
  refine R_istore_n (ls' := [vR (some 312), vI 0, vJ, vJ]) (pc' := 57) rfl rfl rfl ?_
  exact h
theorem S117_57 {e : En} {I : HI} {D : HD} {Q : HI → HD → Prop} {x1 : Int} (he : HS e)
    (h : (((61 : Int) ≤ x1 → CI 92 [vR (some 312), vI 0, vL 20517, vI 2] e I D (fun z1 I2 D3 => ((¬ z1 = 0 → RV 117 99 [vR (some 312), vJ, vJ, vJ] [] e I2 D3 Q) ∧ (¬ (¬ z1 = 0) → CV 106 [vR (some 312), vI 9, vI 0] e I2 D3 (fun I5 D6 => RV 117 99 [vR (some 312), vJ, vJ, vJ] [] e I5 D6 Q))))) ∧ (¬ ((61 : Int) ≤ x1) → CI 102 [vR (some 312), vI x1] e I D (fun z7 I8 D9 => (0 ≤ z7 ∧ z7 < 122) ∧ (-2147483648 ≤ (x1 + 1) ∧ (x1 + 1) < 2147483648) ∧ RV 117 57 [vR (some 312), vI (x1 + 1), vJ, vJ] [] e (uI I8 316 (z7.toNat) 0) D9 Q)))) :
    RV 117 57 [vR (some 312), vI x1, vJ, vJ] [] e I D Q := by
  show Run 117 57 [vR (some 312), vI x1, vJ, vJ] [] (mk e I D) (pV e Q)
  refine R_iload_n (pc' := 58) rfl rfl rfl ?_
  refine R_bipush (pc' := 60) rfl rfl ?_
  refine R_icge (pc' := 63) rfl rfl (fun hc => ?_) (fun hc => ?_)
  · replace h := h.1 hc
    refine R_aload_n (pc' := 81) rfl rfl rfl ?_
    refine R_iconst (pc' := 82) rfl rfl ?_
    refine R_ldc2 (pc' := 85) rfl rfl ?_
    refine R_iconst (pc' := 86) rfl rfl ?_
    refine KI_iv (as := [vI 0, vL 20517, vI 2]) (rest := []) (pc' := 89) rfl rfl rfl rfl rfl (Nat.le_of_ble_eq_true rfl) rfl (CI_mono h ?_)
    intro z1 I2 D3 h
    refine R_ifne (pc' := 92) rfl rfl (fun hc => ?_) (fun hc => ?_)
    · replace h := h.1 hc
      exact R_forget (ls' := [vR (some 312), vJ, vJ, vJ]) ⟨Or.inl rfl, Or.inr rfl, Or.inl rfl, Or.inl rfl, trivial⟩ h
    · replace h := h.2 hc
      refine R_aload_n (pc' := 93) rfl rfl rfl ?_
      refine R_bipush (pc' := 95) rfl rfl ?_
      refine R_iconst (pc' := 96) rfl rfl ?_
      refine KV_iv (as := [vI 9, vI 0]) (rest := []) (pc' := 99) rfl rfl rfl rfl rfl (Nat.le_of_ble_eq_true rfl) rfl (CV_mono h ?_)
      intro I5 D6 h
      exact R_forget (ls' := [vR (some 312), vJ, vJ, vJ]) ⟨Or.inl rfl, Or.inr rfl, Or.inl rfl, Or.inl rfl, trivial⟩ h
  · replace h := h.2 hc
    refine R_aload_n (pc' := 64) rfl rfl rfl ?_
    refine K_getR (pc' := 67) rfl rfl rfl rfl (st_at he rfl rfl (by decide)) ?_
    refine R_aload_n (pc' := 68) rfl rfl rfl ?_
    refine R_iload_n (pc' := 69) rfl rfl rfl ?_
    refine KI_iv (as := [vI x1]) (rest := [vR (some 316)]) (pc' := 72) rfl rfl rfl rfl rfl (Nat.le_of_ble_eq_true rfl) rfl (CI_mono h ?_)
    intro z7 I8 D9 h
    refine R_iconst (pc' := 73) rfl rfl ?_
    have g10 := h.1
    replace h := h.2
    refine K_zast (pc' := 74) rfl rfl rfl g10.1 g10.2 (Or.inl rfl) ?_
    have g11 := h.1
    replace h := h.2
    refine R_iinc (ls' := [vR (some 312), vI (x1 + 1), vJ, vJ]) (pc' := 77) rfl rfl rfl g11 rfl ?_
    refine R_goto rfl ?_
    exact h
theorem S117_99 {e : En} {I : HI} {D : HD} {Q : HI → HD → Prop} (he : HS e)
    (h : CV 111 [vR (some 312)] e I D (fun I2 D3 => (((I2 312 25) ≤ 0 → RV 117 133 [vR (some 312), vJ, vJ, vJ] [] e I2 D3 Q) ∧ (¬ ((I2 312 25) ≤ 0) → (((I2 312 28) < 0 → RV 117 133 [vR (some 312), vJ, vJ, vJ] [] e I2 D3 Q) ∧ (¬ ((I2 312 28) < 0) → (0 ≤ (I2 312 4) ∧ (I2 312 4) < 2) ∧ CV 108 [vR (some 312), vI (I2 314 (((I2 312 4) : Int).toNat))] e I2 D3 (fun I6 D7 => RV 117 168 [vR (some 312), vJ, vJ, vJ] [] e I6 D7 Q))))))) :
    RV 117 99 [vR (some 312), vJ, vJ, vJ] [] e I D Q := by
  show Run 117 99 [vR (some 312), vJ, vJ, vJ] [] (mk e I D) (pV e Q)
  refine R_aload_n (pc' := 100) rfl rfl rfl ?_
  refine KV_iv (as := []) (rest := []) (pc' := 103) rfl rfl rfl rfl rfl (Nat.le_of_ble_eq_true rfl) rfl (CV_mono h ?_)
  intro I2 D3 h
  refine R_aload_n (pc' := 104) rfl rfl rfl ?_
  refine K_getI (pc' := 107) rfl rfl (by decide) rfl rfl ?_
  refine R_ifle (pc' := 110) rfl rfl (fun hc => ?_) (fun hc => ?_)
  · replace h := h.1 hc
    exact h
  · replace h := h.2 hc
    refine R_aload_n (pc' := 111) rfl rfl rfl ?_
    refine K_getI (pc' := 114) rfl rfl (by decide) rfl rfl ?_
    refine R_iflt (pc' := 117) rfl rfl (fun hc => ?_) (fun hc => ?_)
    · replace h := h.1 hc
      exact h
    · replace h := h.2 hc
      refine R_aload_n (pc' := 118) rfl rfl rfl ?_
      refine R_aload_n (pc' := 119) rfl rfl rfl ?_
      refine K_getR (pc' := 122) rfl rfl rfl rfl (st_at he rfl rfl (by decide)) ?_
      refine R_aload_n (pc' := 123) rfl rfl rfl ?_
      refine K_getI (pc' := 126) rfl rfl (by decide) rfl rfl ?_
      have g4 := h.1
      replace h := h.2
      refine K_iald (pc' := 127) rfl rfl rfl g4.1 g4.2 rfl ?_
      refine KV_iv (as := [vI (I2 314 (((I2 312 4) : Int).toNat))]) (rest := []) (pc' := 130) rfl rfl rfl rfl rfl (Nat.le_of_ble_eq_true rfl) rfl (CV_mono h ?_)
      intro I6 D7 h
      refine R_goto rfl ?_
      exact h
theorem S117_133 {e : En} {I : HI} {D : HD} {Q : HI → HD → Prop} (he : HS e)
    (h : (((I 312 25) ≤ 0 → RV 117 168 [vR (some 312), vJ, vJ, vJ] [] e I D Q) ∧ (¬ ((I 312 25) ≤ 0) → (0 ≤ (I 312 4) ∧ (I 312 4) < 2) ∧ CV 106 [vR (some 312), vI 10, vI (I 312 26)] e (uI I 329 (((I 312 4) : Int).toNat) (I 312 25)) D (fun I3 D4 => RV 117 168 [vR (some 312), vJ, vJ, vJ] [] e (uI I3 312 25 0) D4 Q)))) :
    RV 117 133 [vR (some 312), vJ, vJ, vJ] [] e I D Q := by
  show Run 117 133 [vR (some 312), vJ, vJ, vJ] [] (mk e I D) (pV e Q)
  refine R_aload_n (pc' := 134) rfl rfl rfl ?_
  refine K_getI (pc' := 137) rfl rfl (by decide) rfl rfl ?_
  refine R_ifle (pc' := 140) rfl rfl (fun hc => ?_) (fun hc => ?_)
  · replace h := h.1 hc
    exact h
  · replace h := h.2 hc
    refine R_aload_n (pc' := 141) rfl rfl rfl ?_
    refine K_getR (pc' := 144) rfl rfl rfl rfl (st_at he rfl rfl (by decide)) ?_
    refine R_aload_n (pc' := 145) rfl rfl rfl ?_
    refine K_getI (pc' := 148) rfl rfl (by decide) rfl rfl ?_
    refine R_aload_n (pc' := 149) rfl rfl rfl ?_
    refine K_getI (pc' := 152) rfl rfl (by decide) rfl rfl ?_
    have g1 := h.1
    replace h := h.2
    refine K_iast (pc' := 153) rfl rfl rfl g1.1 g1.2 ?_
    refine R_aload_n (pc' := 154) rfl rfl rfl ?_
    refine R_bipush (pc' := 156) rfl rfl ?_
    refine R_aload_n (pc' := 157) rfl rfl rfl ?_
    refine K_getI (pc' := 160) rfl rfl (by decide) rfl rfl ?_
    refine KV_iv (as := [vI 10, vI (I 312 26)]) (rest := []) (pc' := 163) rfl rfl rfl rfl rfl (Nat.le_of_ble_eq_true rfl) rfl (CV_mono h ?_)
    intro I3 D4 h
    refine R_aload_n (pc' := 164) rfl rfl rfl ?_
    refine R_iconst (pc' := 165) rfl rfl ?_
    refine K_putI (pc' := 168) rfl rfl (by decide) (fun h => absurd h (by decide)) rfl ?_
    exact h
theorem S117_168 {e : En} {I : HI} {D : HD} {Q : HI → HD → Prop} (he : HS e)
    (h : CV 112 [vR (some 312)] e I D (fun I2 D3 => (0 ≤ (I2 312 4) ∧ (I2 312 4) < 2) ∧ CI 105 [vR (some 312), vI (I2 327 (((I2 312 4) : Int).toNat))] e I2 D3 (fun z5 I6 D7 => ((¬ z5 = 1 → CI 114 [vR (some 312)] e I6 D7 (fun z8 I9 D10 => RV 117 213 [vR (some 312), vJ, vJ, vJ] [vI z8, vI (I2 312 4), vR (some 330)] e I9 D10 Q)) ∧ (¬ (¬ z5 = 1) → (0 ≤ (I6 312 4) ∧ (I6 312 4) < 2) ∧ RV 117 213 [vR (some 312), vJ, vJ, vJ] [vI (I6 327 (((I6 312 4) : Int).toNat)), vI (I2 312 4), vR (some 330)] e I6 D7 Q))))) :
    RV 117 168 [vR (some 312), vJ, vJ, vJ] [] e I D Q := by
  show Run 117 168 [vR (some 312), vJ, vJ, vJ] [] (mk e I D) (pV e Q)
  refine R_aload_n (pc' := 169) rfl rfl rfl ?_
  refine KV_iv (as := []) (rest := []) (pc' := 172) rfl rfl rfl rfl rfl (Nat.le_of_ble_eq_true rfl) rfl (CV_mono h ?_)
  intro I2 D3 h
  refine R_aload_n (pc' := 173) rfl rfl rfl ?_
  refine K_getR (pc' := 176) rfl rfl rfl rfl (st_at he rfl rfl (by decide)) ?_
  refine R_aload_n (pc' := 177) rfl rfl rfl ?_
  refine K_getI (pc' := 180) rfl rfl (by decide) rfl rfl ?_
  refine R_aload_n (pc' := 181) rfl rfl rfl ?_
  refine R_aload_n (pc' := 182) rfl rfl rfl ?_
  refine K_getR (pc' := 185) rfl rfl rfl rfl (st_at he rfl rfl (by decide)) ?_
  refine R_aload_n (pc' := 186) rfl rfl rfl ?_
  refine K_getI (pc' := 189) rfl rfl (by decide) rfl rfl ?_
  have g4 := h.1
  replace h := h.2
  refine K_iald (pc' := 190) rfl rfl rfl g4.1 g4.2 rfl ?_
  refine KI_iv (as := [vI (I2 327 (((I2 312 4) : Int).toNat))]) (rest := [vI (I2 312 4), vR (some 330)]) (pc' := 193) rfl rfl rfl rfl rfl (Nat.le_of_ble_eq_true rfl) rfl (CI_mono h ?_)
  intro z5 I6 D7 h
  refine R_iconst (pc' := 194) rfl rfl ?_
  refine R_icne (pc' := 197) rfl rfl (fun hc => ?_) (fun hc => ?_)
  · replace h := h.1 hc
    refine R_aload_n (pc' := 210) rfl rfl rfl ?_
    refine KI_iv (as := []) (rest := [vI (I2 312 4), vR (some 330)]) (pc' := 213) rfl rfl rfl rfl rfl (Nat.le_of_ble_eq_true rfl) rfl (CI_mono h ?_)
    intro z8 I9 D10 h
    exact h
  · replace h := h.2 hc
    refine R_aload_n (pc' := 198) rfl rfl rfl ?_
    refine K_getR (pc' := 201) rfl rfl rfl rfl (st_at he rfl rfl (by decide)) ?_
    refine R_aload_n (pc' := 202) rfl rfl rfl ?_
    refine K_getI (pc' := 205) rfl rfl (by decide) rfl rfl ?_
    have g11 := h.1
    replace h := h.2
    refine K_iald (pc' := 206) rfl rfl rfl g11.1 g11.2 rfl ?_
    refine R_goto rfl ?_
    exact h
theorem S117_213 {e : En} {I : HI} {D : HD} {Q : HI → HD → Prop} {y1 : Int} {y2 : Int} (he : HS e)
    (h : (0 ≤ y1 ∧ y1 < 2) ∧ (0 ≤ (I 312 4) ∧ (I 312 4) < 2) ∧ ((¬ ((uI I 330 (y1.toNat) y2) 330 (((I 312 4) : Int).toNat)) = 0 → (0 ≤ (I 312 4) ∧ (I 312 4) < 2) ∧ CI 113 [vR (some 312), vI ((uI I 330 (y1.toNat) y2) 330 (((I 312 4) : Int).toNat))] e (uI I 330 (y1.toNat) y2) D (fun z4 I5 D6 => RV 117 243 [vR (some 312), vJ, vJ, vJ] [vI z4] e I5 D6 Q)) ∧ (¬ (¬ ((uI I 330 (y1.toNat) y2) 330 (((I 312 4) : Int).toNat)) = 0) → RV 117 243 [vR (some 312), vJ, vJ, vJ] [vI 0] e (uI I 330 (y1.toNat) y2) D Q))) :
    RV 117 213 [vR (some 312), vJ, vJ, vJ] [vI y2, vI y1, vR (some 330)] e I D Q := by
  show Run 117 213 [vR (some 312), vJ, vJ, vJ] [vI y2, vI y1, vR (some 330)] (mk e I D) (pV e Q)
  have g1 := h.1
  replace h := h.2
  refine K_iast (pc' := 214) rfl rfl rfl g1.1 g1.2 ?_
  refine R_aload_n (pc' := 215) rfl rfl rfl ?_
  refine K_getR (pc' := 218) rfl rfl rfl rfl (st_at he rfl rfl (by decide)) ?_
  refine R_aload_n (pc' := 219) rfl rfl rfl ?_
  refine K_getI (pc' := 222) rfl rfl (by decide) rfl rfl ?_
  have g2 := h.1
  replace h := h.2
  refine K_iald (pc' := 223) rfl rfl rfl g2.1 g2.2 rfl ?_
  refine R_ifne (pc' := 226) rfl rfl (fun hc => ?_) (fun hc => ?_)
  · replace h := h.1 hc
    refine R_aload_n (pc' := 231) rfl rfl rfl ?_
    refine R_aload_n (pc' := 232) rfl rfl rfl ?_
    refine K_getR (pc' := 235) rfl rfl rfl rfl (st_at he rfl rfl (by decide)) ?_
    refine R_aload_n (pc' := 236) rfl rfl rfl ?_
    refine K_getI (pc' := 239) rfl rfl (by decide) rfl rfl ?_
    have g3 := h.1
    replace h := h.2
    refine K_iald (pc' := 240) rfl rfl rfl g3.1 g3.2 rfl ?_
    refine KI_iv (as := [vI ((uI I 330 (y1.toNat) y2) 330 (((I 312 4) : Int).toNat))]) (rest := []) (pc' := 243) rfl rfl rfl rfl rfl (Nat.le_of_ble_eq_true rfl) rfl (CI_mono h ?_)
    intro z4 I5 D6 h
    exact h
  · replace h := h.2 hc
    refine R_iconst (pc' := 227) rfl rfl ?_
    refine R_goto rfl ?_
    exact h
theorem S117_243 {e : En} {I : HI} {D : HD} {Q : HI → HD → Prop} {y0 : Int} (he : HS e)
    (h : CI 105 [vR (some 312), vI y0] e I D (fun z1 I2 D3 => ((¬ z1 = 2 → RV 117 258 [vR (some 312), vJ, vJ, vJ] [] e I2 D3 Q) ∧ (¬ (¬ z1 = 2) → CV 116 [vR (some 312), vI y0] e I2 D3 (fun I5 D6 => RV 117 258 [vR (some 312), vJ, vJ, vJ] [] e I5 D6 Q))))) :
    RV 117 243 [vR (some 312), vJ, vJ, vJ] [vI y0] e I D Q := by
  show Run 117 243 [vR (some 312), vJ, vJ, vJ] [vI y0] (mk e I D) (pV e Q)
  refine R_istore_n (ls' := [vR (some 312), vI y0, vJ, vJ]) (pc' := 244) rfl rfl rfl ?_
  refine R_aload_n (pc' := 245) rfl rfl rfl ?_
  refine R_iload_n (pc' := 246) rfl rfl rfl ?_
  refine KI_iv (as := [vI y0]) (rest := []) (pc' := 249) rfl rfl rfl rfl rfl (Nat.le_of_ble_eq_true rfl) rfl (CI_mono h ?_)
  intro z1 I2 D3 h
  refine R_iconst (pc' := 250) rfl rfl ?_
  refine R_icne (pc' := 253) rfl rfl (fun hc => ?_) (fun hc => ?_)
  · replace h := h.1 hc
    exact R_forget (ls' := [vR (some 312), vJ, vJ, vJ]) ⟨Or.inl rfl, Or.inr rfl, Or.inl rfl, Or.inl rfl, trivial⟩ h
  · replace h := h.2 hc
    refine R_aload_n (pc' := 254) rfl rfl rfl ?_
    refine R_iload_n (pc' := 255) rfl rfl rfl ?_
    refine KV_iv (as := [vI y0]) (rest := []) (pc' := 258) rfl rfl rfl rfl rfl (Nat.le_of_ble_eq_true rfl) rfl (CV_mono h ?_)
    intro I5 D6 h
    exact R_forget (ls' := [vR (some 312), vJ, vJ, vJ]) ⟨Or.inl rfl, Or.inr rfl, Or.inl rfl, Or.inl rfl, trivial⟩ h
theorem S117_258 {e : En} {I : HI} {D : HD} {Q : HI → HD → Prop} (he : HS e)
    (h : RV 117 262 [vR (some 312), vJ, vI 0, vI 1] [] e I D Q) :
    RV 117 258 [vR (some 312), vJ, vJ, vJ] [] e I D Q := by
  show Run 117 258 [vR (some 312), vJ, vJ, vJ] [] (mk e I D) (pV e Q)
  refine R_iconst (pc' := 259) rfl rfl ?_
  refine R_istore_n (ls' := [vR (some 312), vJ, vI 0, vJ]) (pc' := 260) rfl rfl rfl ?_
  refine R_iconst (pc' := 261) rfl rfl ?_
  refine R_istore_n (ls' := [vR (some 312), vJ, vI 0, vI 1]) (pc' := 262) rfl rfl rfl ?_
  exact h
theorem S117_262 {e : En} {I : HI} {D : HD} {Q : HI → HD → Prop} {x2 : Int} {x3 : Int} (he : HS e)
    (h : (((61 : Int) ≤ x3 → (0 ≤ (I 312 4) ∧ (I 312 4) < 2) ∧ ((x2 = (I 331 (((I 312 4) : Int).toNat)) → Q I D) ∧ (¬ (x2 = (I 331 (((I 312 4) : Int).toNat))) → CV 106 [vR (some 312), vI 8, vI 0] e I D (fun I3 D4 => (0 ≤ (I3 312 4) ∧ (I3 312 4) < 2) ∧ RV 117 323 [vR (some 312), vJ, vJ, vI 1] [] e (uI I3 331 (((I3 312 4) : Int).toNat) 0) D4 Q)))) ∧ (¬ ((61 : Int) ≤ x3) → CI 105 [vR (some 312), vI x3] e I D (fun z6 I7 D8 => ((¬ z6 = 3 → RV 117 284 [vR (some 312), vJ, vJ, vI x3] [vI x2] e I7 D8 Q) ∧ (¬ (¬ z6 = 3) → (-2147483648 ≤ (x2 + 1) ∧ (x2 + 1) < 2147483648) ∧ RV 117 284 [vR (some 312), vJ, vJ, vI x3] [vI (x2 + 1)] e I7 D8 Q)))))) :
    RV 117 262 [vR (some 312), vJ, vI x2, vI x3] [] e I D Q := by
  show Run 117 262 [vR (some 312), vJ, vI x2, vI x3] [] (mk e I D) (pV e Q)
  refine R_iload_n (pc' := 263) rfl rfl rfl ?_
  refine R_bipush (pc' := 265) rfl rfl ?_
  refine R_icge (pc' := 268) rfl rfl (fun hc => ?_) (fun hc => ?_)
  · replace h := h.1 hc
    refine R_iload_n (pc' := 292) rfl rfl rfl ?_
    refine R_aload_n (pc' := 293) rfl rfl rfl ?_
    refine K_getR (pc' := 296) rfl rfl rfl rfl (st_at he rfl rfl (by decide)) ?_
    refine R_aload_n (pc' := 297) rfl rfl rfl ?_
    refine K_getI (pc' := 300) rfl rfl (by decide) rfl rfl ?_
    have g1 := h.1
    replace h := h.2
    refine K_iald (pc' := 301) rfl rfl rfl g1.1 g1.2 rfl ?_
    refine R_iceq (pc' := 304) rfl rfl (fun hc => ?_) (fun hc => ?_)
    · replace h := h.1 hc
      exact R_vret rfl rfl ⟨_, _, rfl, rfl, h⟩
    · replace h := h.2 hc
      refine R_aload_n (pc' := 305) rfl rfl rfl ?_
      refine R_bipush (pc' := 307) rfl rfl ?_
      refine R_iconst (pc' := 308) rfl rfl ?_
      refine KV_iv (as := [vI 8, vI 0]) (rest := []) (pc' := 311) rfl rfl rfl rfl rfl (Nat.le_of_ble_eq_true rfl) rfl (CV_mono h ?_)
      intro I3 D4 h
      refine R_aload_n (pc' := 312) rfl rfl rfl ?_
      refine K_getR (pc' := 315) rfl rfl rfl rfl (st_at he rfl rfl (by decide)) ?_
      refine R_aload_n (pc' := 316) rfl rfl rfl ?_
      refine K_getI (pc' := 319) rfl rfl (by decide) rfl rfl ?_
      refine R_iconst (pc' := 320) rfl rfl ?_
      have g5 := h.1
      replace h := h.2
      refine K_iast (pc' := 321) rfl rfl rfl g5.1 g5.2 ?_
      refine R_iconst (pc' := 322) rfl rfl ?_
      refine R_istore_n (ls' := [vR (some 312), vJ, vI x2, vI 1]) (pc' := 323) rfl rfl rfl ?_
      exact R_forget (ls' := [vR (some 312), vJ, vJ, vI 1]) ⟨Or.inl rfl, Or.inl rfl, Or.inr rfl, Or.inl rfl, trivial⟩ h
  · replace h := h.2 hc
    refine R_aload_n (pc' := 269) rfl rfl rfl ?_
    refine R_iload_n (pc' := 270) rfl rfl rfl ?_
    refine KI_iv (as := [vI x3]) (rest := []) (pc' := 273) rfl rfl rfl rfl rfl (Nat.le_of_ble_eq_true rfl) rfl (CI_mono h ?_)
    intro z6 I7 D8 h
    refine R_iconst (pc' := 274) rfl rfl ?_
    refine R_icne (pc' := 277) rfl rfl (fun hc => ?_) (fun hc => ?_)
    · replace h := h.1 hc
      refine R_iload_n (pc' := 284) rfl rfl rfl ?_
      exact R_forget (ls' := [vR (some 312), vJ, vJ, vI x3]) ⟨Or.inl rfl, Or.inl rfl, Or.inr rfl, Or.inl rfl, trivial⟩ h
    · replace h := h.2 hc
      refine R_iload_n (pc' := 278) rfl rfl rfl ?_
      refine R_iconst (pc' := 279) rfl rfl ?_
      have g9 := h.1
      replace h := h.2
      refine R_iadd (pc' := 280) rfl rfl g9 ?_
      refine R_goto rfl ?_
      exact R_forget (ls' := [vR (some 312), vJ, vJ, vI x3]) ⟨Or.inl rfl, Or.inl rfl, Or.inr rfl, Or.inl rfl, trivial⟩ h
theorem S117_284 {e : En} {I : HI} {D : HD} {Q : HI → HD → Prop} {x3 : Int} {y0 : Int} (he : HS e)
    (h : (-2147483648 ≤ (x3 + 1) ∧ (x3 + 1) < 2147483648) ∧ RV 117 262 [vR (some 312), vJ, vI y0, vI (x3 + 1)] [] e I D Q) :
    RV 117 284 [vR (some 312), vJ, vJ, vI x3] [vI y0] e I D Q := by
  show Run 117 284 [vR (some 312), vJ, vJ, vI x3] [vI y0] (mk e I D) (pV e Q)
  refine R_istore_n (ls' := [vR (some 312), vJ, vI y0, vI x3]) (pc' := 285) rfl rfl rfl ?_
  have g1 := h.1
  replace h := h.2
  refine R_iinc (ls' := [vR (some 312), vJ, vI y0, vI (x3 + 1)]) (pc' := 288) rfl rfl rfl g1 rfl ?_
  refine R_goto rfl ?_
  exact h
theorem S117_323 {e : En} {I : HI} {D : HD} {Q : HI → HD → Prop} {x3 : Int} (he : HS e)
    (h : (((61 : Int) ≤ x3 → Q I D) ∧ (¬ ((61 : Int) ≤ x3) → CI 105 [vR (some 312), vI x3] e I D (fun z1 I2 D3 => ((¬ z1 = 3 → RV 117 343 [vR (some 312), vJ, vJ, vI x3] [] e I2 D3 Q) ∧ (¬ (¬ z1 = 3) → CV 115 [vR (some 312), vI x3] e I2 D3 (fun I5 D6 => RV 117 343 [vR (some 312), vJ, vJ, vI x3] [] e I5 D6 Q))))))) :
    RV 117 323 [vR (some 312), vJ, vJ, vI x3] [] e I D Q := by
  show Run 117 323 [vR (some 312), vJ, vJ, vI x3] [] (mk e I D) (pV e Q)
  refine R_iload_n (pc' := 324) rfl rfl rfl ?_
  refine R_bipush (pc' := 326) rfl rfl ?_
  refine R_icge (pc' := 329) rfl rfl (fun hc => ?_) (fun hc => ?_)
  · replace h := h.1 hc
    exact R_vret rfl rfl ⟨_, _, rfl, rfl, h⟩
  · replace h := h.2 hc
    refine R_aload_n (pc' := 330) rfl rfl rfl ?_
    refine R_iload_n (pc' := 331) rfl rfl rfl ?_
    refine KI_iv (as := [vI x3]) (rest := []) (pc' := 334) rfl rfl rfl rfl rfl (Nat.le_of_ble_eq_true rfl) rfl (CI_mono h ?_)
    intro z1 I2 D3 h
    refine R_iconst (pc' := 335) rfl rfl ?_
    refine R_icne (pc' := 338) rfl rfl (fun hc => ?_) (fun hc => ?_)
    · replace h := h.1 hc
      exact h
    · replace h := h.2 hc
      refine R_aload_n (pc' := 339) rfl rfl rfl ?_
      refine R_iload_n (pc' := 340) rfl rfl rfl ?_
      refine KV_iv (as := [vI x3]) (rest := []) (pc' := 343) rfl rfl rfl rfl rfl (Nat.le_of_ble_eq_true rfl) rfl (CV_mono h ?_)
      intro I5 D6 h
      exact h
theorem S117_343 {e : En} {I : HI} {D : HD} {Q : HI → HD → Prop} {x3 : Int} (he : HS e)
    (h : (-2147483648 ≤ (x3 + 1) ∧ (x3 + 1) < 2147483648) ∧ RV 117 323 [vR (some 312), vJ, vJ, vI (x3 + 1)] [] e I D Q) :
    RV 117 343 [vR (some 312), vJ, vJ, vI x3] [] e I D Q := by
  show Run 117 343 [vR (some 312), vJ, vJ, vI x3] [] (mk e I D) (pV e Q)
  have g1 := h.1
  replace h := h.2
  refine R_iinc (ls' := [vR (some 312), vJ, vJ, vI (x3 + 1)]) (pc' := 346) rfl rfl rfl g1 rfl ?_
  refine R_goto rfl ?_
  exact h
/-! 118 X9_scan -/
theorem S118 {e : En} {I : HI} {D : HD} {Q : Int → HI → HD → Prop} (he : HS e)
    (h : ((¬ (I 312 1) = 0 → RI 118 13 [vR (some 312), vJ, vJ] [vI 0, vR (some 312)] e I D Q) ∧ (¬ (¬ (I 312 1) = 0) → RI 118 13 [vR (some 312), vJ, vJ] [vI 1, vR (some 312)] e I D Q))) :
    CI 118 [vR (some 312)] e I D Q := by
  refine Call_run (ls := [vR (some 312), vJ, vJ]) rfl rfl ?_
  refine R_aload_n (pc' := 1) rfl rfl rfl ?_
  refine R_aload_n (pc' := 2) rfl rfl rfl ?_
  refine K_getI (pc' := 5) rfl rfl (by decide) rfl rfl ?_
  refine R_ifne (pc' := 8) rfl rfl (fun hc => ?_) (fun hc => ?_)
  · replace h := h.1 hc
    refine R_iconst (pc' := 13) rfl rfl ?_
    exact h
  · replace h := h.2 hc
    refine R_iconst (pc' := 9) rfl rfl ?_
    refine R_goto rfl ?_
    exact h
theorem S118_13 {e : En} {I : HI} {D : HD} {Q : Int → HI → HD → Prop} {y1 : Int} (he : HS e)
    (h : ((y1 ≤ 0 → RI 118 52 [vR (some 312), vI 0, vJ] [] e (uI (uI (uI (uI (uI I 312 0 y1) 312 4 0) 312 3 1) 312 17 0) 314 0 (I 312 1)) D Q) ∧ (¬ (y1 ≤ 0) → Q 0 (uI I 312 0 y1) D))) :
    RI 118 13 [vR (some 312), vJ, vJ] [vI y1, vR (some 312)] e I D Q := by
  show Run 118 13 [vR (some 312), vJ, vJ] [vI y1, vR (some 312)] (mk e I D) (pI e Q)
  refine K_putI (pc' := 16) rfl rfl (by decide) (fun h => absurd h (by decide)) rfl ?_
  refine R_aload_n (pc' := 17) rfl rfl rfl ?_
  refine K_getI (pc' := 20) rfl rfl (by decide) rfl rfl ?_
  refine R_ifle (pc' := 23) rfl rfl (fun hc => ?_) (fun hc => ?_)
  · replace h := h.1 hc
    refine R_aload_n (pc' := 26) rfl rfl rfl ?_
    refine R_iconst (pc' := 27) rfl rfl ?_
    refine K_putI (pc' := 30) rfl rfl (by decide) (fun h => absurd h (by decide)) rfl ?_
    refine R_aload_n (pc' := 31) rfl rfl rfl ?_
    refine R_iconst (pc' := 32) rfl rfl ?_
    refine K_putI (pc' := 35) rfl rfl (by decide) (fun _ => Or.inr rfl) rfl ?_
    refine R_aload_n (pc' := 36) rfl rfl rfl ?_
    refine R_iconst (pc' := 37) rfl rfl ?_
    refine K_putI (pc' := 40) rfl rfl (by decide) (fun h => absurd h (by decide)) rfl ?_
    refine R_aload_n (pc' := 41) rfl rfl rfl ?_
    refine K_getR (pc' := 44) rfl rfl rfl rfl (st_at he rfl rfl (by decide)) ?_
    refine R_iconst (pc' := 45) rfl rfl ?_
    refine R_aload_n (pc' := 46) rfl rfl rfl ?_
    refine K_getI (pc' := 49) rfl rfl (by decide) rfl rfl ?_
    refine K_iast (pc' := 50) rfl rfl rfl (by decide) (by decide) ?_
    refine R_iconst (pc' := 51) rfl rfl ?_
    refine R_istore_n (ls' := [vR (some 312), vI 0, vJ]) (pc' := 52) rfl rfl rfl ?_
    exact h
  · replace h := h.2 hc
    refine R_iconst (pc' := 24) rfl rfl ?_
    exact R_iret rfl rfl ⟨_, _, _, rfl, rfl, h⟩
theorem S118_52 {e : En} {I : HI} {D : HD} {Q : Int → HI → HD → Prop} {x1 : Int} (he : HS e)
    (h : (((I 312 1) ≤ x1 → CV 117 [vR (some 312)] e (uI I 312 1 0) D (fun I2 D3 => RI 118 91 [vR (some 312), vI 0, vI 1] [] e I2 D3 Q)) ∧ (¬ ((I 312 1) ≤ x1) → (0 ≤ x1 ∧ x1 < 1500) ∧ (0 ≤ x1 ∧ x1 < 6000) ∧ (-2147483648 ≤ (x1 + 1) ∧ (x1 + 1) < 2147483648) ∧ RI 118 52 [vR (some 312), vI (x1 + 1), vJ] [] e (uI I 315 (x1.toNat) (I 313 (x1.toNat))) D Q))) :
    RI 118 52 [vR (some 312), vI x1, vJ] [] e I D Q := by
  show Run 118 52 [vR (some 312), vI x1, vJ] [] (mk e I D) (pI e Q)
  refine R_iload_n (pc' := 53) rfl rfl rfl ?_
  refine R_aload_n (pc' := 54) rfl rfl rfl ?_
  refine K_getI (pc' := 57) rfl rfl (by decide) rfl rfl ?_
  refine R_icge (pc' := 60) rfl rfl (fun hc => ?_) (fun hc => ?_)
  · replace h := h.1 hc
    refine R_aload_n (pc' := 79) rfl rfl rfl ?_
    refine R_iconst (pc' := 80) rfl rfl ?_
    refine K_putI (pc' := 83) rfl rfl (by decide) (fun h => absurd h (by decide)) rfl ?_
    refine R_aload_n (pc' := 84) rfl rfl rfl ?_
    refine KV_iv (as := []) (rest := []) (pc' := 87) rfl rfl rfl rfl rfl (Nat.le_of_ble_eq_true rfl) rfl (CV_mono h ?_)
    intro I2 D3 h
    refine R_iconst (pc' := 88) rfl rfl ?_
    refine R_istore_n (ls' := [vR (some 312), vI 0, vJ]) (pc' := 89) rfl rfl rfl ?_
    refine R_iconst (pc' := 90) rfl rfl ?_
    refine R_istore_n (ls' := [vR (some 312), vI 0, vI 1]) (pc' := 91) rfl rfl rfl ?_
    exact h
  · replace h := h.2 hc
    refine R_aload_n (pc' := 61) rfl rfl rfl ?_
    refine K_getR (pc' := 64) rfl rfl rfl rfl (st_at he rfl rfl (by decide)) ?_
    refine R_iload_n (pc' := 65) rfl rfl rfl ?_
    refine R_aload_n (pc' := 66) rfl rfl rfl ?_
    refine K_getR (pc' := 69) rfl rfl rfl rfl (st_at he rfl rfl (by decide)) ?_
    refine R_iload_n (pc' := 70) rfl rfl rfl ?_
    have g4 := h.1
    replace h := h.2
    refine K_iald (pc' := 71) rfl rfl rfl g4.1 g4.2 rfl ?_
    have g5 := h.1
    replace h := h.2
    refine K_iast (pc' := 72) rfl rfl rfl g5.1 g5.2 ?_
    have g6 := h.1
    replace h := h.2
    refine R_iinc (ls' := [vR (some 312), vI (x1 + 1), vJ]) (pc' := 75) rfl rfl rfl g6 rfl ?_
    refine R_goto rfl ?_
    exact h
theorem S118_91 {e : En} {I : HI} {D : HD} {Q : Int → HI → HD → Prop} {x1 : Int} {x2 : Int} (he : HS e)
    (h : (((61 : Int) ≤ x2 → Q x1 I D) ∧ (¬ ((61 : Int) ≤ x2) → (0 ≤ x2 ∧ x2 < 122) ∧ (((I 316 (x2.toNat)) = 0 → RI 118 113 [vR (some 312), vJ, vI x2] [vI x1] e I D Q) ∧ (¬ ((I 316 (x2.toNat)) = 0) → (-2147483648 ≤ (x1 + 1) ∧ (x1 + 1) < 2147483648) ∧ RI 118 113 [vR (some 312), vJ, vI x2] [vI (x1 + 1)] e I D Q))))) :
    RI 118 91 [vR (some 312), vI x1, vI x2] [] e I D Q := by
  show Run 118 91 [vR (some 312), vI x1, vI x2] [] (mk e I D) (pI e Q)
  refine R_iload_n (pc' := 92) rfl rfl rfl ?_
  refine R_bipush (pc' := 94) rfl rfl ?_
  refine R_icge (pc' := 97) rfl rfl (fun hc => ?_) (fun hc => ?_)
  · replace h := h.1 hc
    refine R_iload_n (pc' := 121) rfl rfl rfl ?_
    exact R_iret rfl rfl ⟨_, _, _, rfl, rfl, h⟩
  · replace h := h.2 hc
    refine R_aload_n (pc' := 98) rfl rfl rfl ?_
    refine K_getR (pc' := 101) rfl rfl rfl rfl (st_at he rfl rfl (by decide)) ?_
    refine R_iload_n (pc' := 102) rfl rfl rfl ?_
    have g1 := h.1
    replace h := h.2
    refine K_zald (pc' := 103) rfl rfl rfl g1.1 g1.2 rfl ?_
    refine R_ifeq (pc' := 106) rfl rfl (fun hc => ?_) (fun hc => ?_)
    · replace h := h.1 hc
      refine R_iload_n (pc' := 113) rfl rfl rfl ?_
      exact R_forget (ls' := [vR (some 312), vJ, vI x2]) ⟨Or.inl rfl, Or.inr rfl, Or.inl rfl, trivial⟩ h
    · replace h := h.2 hc
      refine R_iload_n (pc' := 107) rfl rfl rfl ?_
      refine R_iconst (pc' := 108) rfl rfl ?_
      have g2 := h.1
      replace h := h.2
      refine R_iadd (pc' := 109) rfl rfl g2 ?_
      refine R_goto rfl ?_
      exact R_forget (ls' := [vR (some 312), vJ, vI x2]) ⟨Or.inl rfl, Or.inr rfl, Or.inl rfl, trivial⟩ h
theorem S118_113 {e : En} {I : HI} {D : HD} {Q : Int → HI → HD → Prop} {x2 : Int} {y0 : Int} (he : HS e)
    (h : (-2147483648 ≤ (x2 + 1) ∧ (x2 + 1) < 2147483648) ∧ RI 118 91 [vR (some 312), vI y0, vI (x2 + 1)] [] e I D Q) :
    RI 118 113 [vR (some 312), vJ, vI x2] [vI y0] e I D Q := by
  show Run 118 113 [vR (some 312), vJ, vI x2] [vI y0] (mk e I D) (pI e Q)
  refine R_istore_n (ls' := [vR (some 312), vI y0, vI x2]) (pc' := 114) rfl rfl rfl ?_
  have g1 := h.1
  replace h := h.2
  refine R_iinc (ls' := [vR (some 312), vI y0, vI (x2 + 1)]) (pc' := 117) rfl rfl rfl g1 rfl ?_
  refine R_goto rfl ?_
  exact h
/-! 119 X9_isFound -/
theorem S119 {e : En} {I : HI} {D : HD} {Q : Int → HI → HD → Prop} {x1 : Int} (he : HS e)
    (h : (((I 312 3) = 0 → Q 0 (uI I 312 4 0) D) ∧ (¬ ((I 312 3) = 0) → CI 103 [vR (some 312), vI x1] e (uI I 312 4 0) D (fun z1 I2 D3 => ((z1 = 0 → Q 0 I2 D3) ∧ (¬ (z1 = 0) → Q 1 I2 D3)))))) :
    CI 119 [vR (some 312), vI x1] e I D Q := by
  refine Call_run (ls := [vR (some 312), vI x1]) rfl rfl ?_
  refine R_aload_n (pc' := 1) rfl rfl rfl ?_
  refine R_iconst (pc' := 2) rfl rfl ?_
  refine K_putI (pc' := 5) rfl rfl (by decide) (fun h => absurd h (by decide)) rfl ?_
  refine R_aload_n (pc' := 6) rfl rfl rfl ?_
  refine K_getI (pc' := 9) rfl rfl (by decide) rfl rfl ?_
  refine R_ifeq (pc' := 12) rfl rfl (fun hc => ?_) (fun hc => ?_)
  · replace h := h.1 hc
    refine R_iconst (pc' := 25) rfl rfl ?_
    exact R_zret rfl rfl (Or.inl rfl) ⟨_, _, _, rfl, rfl, h⟩
  · replace h := h.2 hc
    refine R_aload_n (pc' := 13) rfl rfl rfl ?_
    refine R_iload_n (pc' := 14) rfl rfl rfl ?_
    refine KI_iv (as := [vI x1]) (rest := []) (pc' := 17) rfl rfl rfl rfl rfl (Nat.le_of_ble_eq_true rfl) rfl (CI_mono h ?_)
    intro z1 I2 D3 h
    refine R_ifeq (pc' := 20) rfl rfl (fun hc => ?_) (fun hc => ?_)
    · replace h := h.1 hc
      refine R_iconst (pc' := 25) rfl rfl ?_
      exact R_zret rfl rfl (Or.inl rfl) ⟨_, _, _, rfl, rfl, h⟩
    · replace h := h.2 hc
      refine R_iconst (pc' := 21) rfl rfl ?_
      refine R_goto rfl ?_
      exact R_zret rfl rfl (Or.inr rfl) ⟨_, _, _, rfl, rfl, h⟩
/-! 120 X9_found -/
theorem S120 {e : En} {I : HI} {D : HD} {Q : Int → HI → HD → Prop} {x1 : Int} {x2 : Int} (he : HS e)
    (h : CI 119 [vR (some 312), vI x1] e I D (fun z1 I2 D3 => ((¬ z1 = 0 → ((x2 < 0 → RL 120 22 [vR (some 312), vI x1, vI x2] [vR (some 312)] e I2 D3 Q) ∧ (¬ (x2 < 0) → ((x2 ≤ 4 → RL 120 27 [vR (some 312), vI x1, vI x2] [vI 0, vR (some 312)] e I2 D3 Q) ∧ (¬ (x2 ≤ 4) → RL 120 22 [vR (some 312), vI x1, vI x2] [vR (some 312)] e I2 D3 Q))))) ∧ (¬ (¬ z1 = 0) → RL 120 27 [vR (some 312), vI x1, vI x2] [vI 1, vR (some 312)] e I2 D3 Q)))) :
    CL 120 [vR (some 312), vI x1, vI x2] e I D Q := by
  refine Call_run (ls := [vR (some 312), vI x1, vI x2]) rfl rfl ?_
  refine R_aload_n (pc' := 1) rfl rfl rfl ?_
  refine R_aload_n (pc' := 2) rfl rfl rfl ?_
  refine R_iload_n (pc' := 3) rfl rfl rfl ?_
  refine KI_iv (as := [vI x1]) (rest := [vR (some 312)]) (pc' := 6) rfl rfl rfl rfl rfl (Nat.le_of_ble_eq_true rfl) rfl (CI_mono h ?_)
  intro z1 I2 D3 h
  refine R_ifne (pc' := 9) rfl rfl (fun hc => ?_) (fun hc => ?_)
  · replace h := h.1 hc
    refine R_iload_n (pc' := 14) rfl rfl rfl ?_
    refine R_iflt (pc' := 17) rfl rfl (fun hc => ?_) (fun hc => ?_)
    · replace h := h.1 hc
      exact h
    · replace h := h.2 hc
      refine R_iload_n (pc' := 18) rfl rfl rfl ?_
      refine R_iconst (pc' := 19) rfl rfl ?_
      refine R_icle (pc' := 22) rfl rfl (fun hc => ?_) (fun hc => ?_)
      · replace h := h.1 hc
        refine R_iconst (pc' := 27) rfl rfl ?_
        exact h
      · replace h := h.2 hc
        exact h
  · replace h := h.2 hc
    refine R_iconst (pc' := 10) rfl rfl ?_
    refine R_goto rfl ?_
    exact h
theorem S120_22 {e : En} {I : HI} {D : HD} {Q : Int → HI → HD → Prop} {x1 : Int} {x2 : Int} (he : HS e)
    (h : RL 120 27 [vR (some 312), vI x1, vI x2] [vI 2, vR (some 312)] e I D Q) :
    RL 120 22 [vR (some 312), vI x1, vI x2] [vR (some 312)] e I D Q := by
  show Run 120 22 [vR (some 312), vI x1, vI x2] [vR (some 312)] (mk e I D) (pL e Q)
  refine R_iconst (pc' := 23) rfl rfl ?_
  refine R_goto rfl ?_
  exact h
theorem S120_27 {e : En} {I : HI} {D : HD} {Q : Int → HI → HD → Prop} {x1 : Int} {x2 : Int} {y1 : Int} (he : HS e)
    (h : ((y1 ≤ 0 → (((3 : Int) ≤ x2 → ((¬ x2 = 3 → CV 104 [vR (some 312), vI x1, vL 0, vI 0] e (uI I 312 0 y1) D (fun I2 D3 => Q (I2 312 38) I2 D3)) ∧ (¬ (¬ x2 = 3) → CI 105 [vR (some 312), vI x1] e (uI I 312 0 y1) D (fun z4 I5 D6 => Q z4 I5 D6)))) ∧ (¬ ((3 : Int) ≤ x2) → ((¬ x2 = 0 → ((¬ x2 = 1 → (0 ≤ x1 ∧ x1 < 122) ∧ Q (I 319 (x1.toNat)) (uI I 312 0 y1) D) ∧ (¬ (¬ x2 = 1) → (0 ≤ x1 ∧ x1 < 122) ∧ Q (I 318 (x1.toNat)) (uI I 312 0 y1) D))) ∧ (¬ (¬ x2 = 0) → (0 ≤ x1 ∧ x1 < 122) ∧ Q (I 317 (x1.toNat)) (uI I 312 0 y1) D))))) ∧ (¬ (y1 ≤ 0) → Q 0 (uI I 312 0 y1) D))) :
    RL 120 27 [vR (some 312), vI x1, vI x2] [vI y1, vR (some 312)] e I D Q := by
  show Run 120 27 [vR (some 312), vI x1, vI x2] [vI y1, vR (some 312)] (mk e I D) (pL e Q)
  refine K_putI (pc' := 30) rfl rfl (by decide) (fun h => absurd h (by decide)) rfl ?_
  refine R_aload_n (pc' := 31) rfl rfl rfl ?_
  refine K_getI (pc' := 34) rfl rfl (by decide) rfl rfl ?_
  refine R_ifle (pc' := 37) rfl rfl (fun hc => ?_) (fun hc => ?_)
  · replace h := h.1 hc
    refine R_iload_n (pc' := 40) rfl rfl rfl ?_
    refine R_iconst (pc' := 41) rfl rfl ?_
    refine R_icge (pc' := 44) rfl rfl (fun hc => ?_) (fun hc => ?_)
    · replace h := h.1 hc
      refine R_iload_n (pc' := 82) rfl rfl rfl ?_
      refine R_iconst (pc' := 83) rfl rfl ?_
      refine R_icne (pc' := 86) rfl rfl (fun hc => ?_) (fun hc => ?_)
      · replace h := h.1 hc
        refine R_aload_n (pc' := 94) rfl rfl rfl ?_
        refine R_iload_n (pc' := 95) rfl rfl rfl ?_
        refine R_lconst (pc' := 96) rfl rfl ?_
        refine R_iconst (pc' := 97) rfl rfl ?_
        refine KV_iv (as := [vI x1, vL 0, vI 0]) (rest := []) (pc' := 100) rfl rfl rfl rfl rfl (Nat.le_of_ble_eq_true rfl) rfl (CV_mono h ?_)
        intro I2 D3 h
        refine R_aload_n (pc' := 101) rfl rfl rfl ?_
        refine K_getI (pc' := 104) rfl rfl (by decide) rfl rfl ?_
        refine R_i2l (pc' := 105) rfl rfl ?_
        exact R_lret rfl rfl ⟨_, _, _, rfl, rfl, h⟩
      · replace h := h.2 hc
        refine R_aload_n (pc' := 87) rfl rfl rfl ?_
        refine R_iload_n (pc' := 88) rfl rfl rfl ?_
        refine KI_iv (as := [vI x1]) (rest := []) (pc' := 91) rfl rfl rfl rfl rfl (Nat.le_of_ble_eq_true rfl) rfl (CI_mono h ?_)
        intro z4 I5 D6 h
        refine R_i2l (pc' := 92) rfl rfl ?_
        exact R_lret rfl rfl ⟨_, _, _, rfl, rfl, h⟩
    · replace h := h.2 hc
      refine R_iload_n (pc' := 45) rfl rfl rfl ?_
      refine R_ifne (pc' := 48) rfl rfl (fun hc => ?_) (fun hc => ?_)
      · replace h := h.1 hc
        refine R_iload_n (pc' := 59) rfl rfl rfl ?_
        refine R_iconst (pc' := 60) rfl rfl ?_
        refine R_icne (pc' := 63) rfl rfl (fun hc => ?_) (fun hc => ?_)
        · replace h := h.1 hc
          refine R_aload_n (pc' := 74) rfl rfl rfl ?_
          refine K_getR (pc' := 77) rfl rfl rfl rfl (st_at he rfl rfl (by decide)) ?_
          refine R_iload_n (pc' := 78) rfl rfl rfl ?_
          have g7 := h.1
          replace h := h.2
          refine K_iald (pc' := 79) rfl rfl rfl g7.1 g7.2 rfl ?_
          refine R_i2l (pc' := 80) rfl rfl ?_
          exact R_lret rfl rfl ⟨_, _, _, rfl, rfl, h⟩
        · replace h := h.2 hc
          refine R_aload_n (pc' := 64) rfl rfl rfl ?_
          refine K_getR (pc' := 67) rfl rfl rfl rfl (st_at he rfl rfl (by decide)) ?_
          refine R_iload_n (pc' := 68) rfl rfl rfl ?_
          have g8 := h.1
          replace h := h.2
          refine K_iald (pc' := 69) rfl rfl rfl g8.1 g8.2 rfl ?_
          refine R_i2l (pc' := 70) rfl rfl ?_
          refine R_goto rfl ?_
          exact R_lret rfl rfl ⟨_, _, _, rfl, rfl, h⟩
      · replace h := h.2 hc
        refine R_aload_n (pc' := 49) rfl rfl rfl ?_
        refine K_getR (pc' := 52) rfl rfl rfl rfl (st_at he rfl rfl (by decide)) ?_
        refine R_iload_n (pc' := 53) rfl rfl rfl ?_
        have g9 := h.1
        replace h := h.2
        refine K_iald (pc' := 54) rfl rfl rfl g9.1 g9.2 rfl ?_
        refine R_i2l (pc' := 55) rfl rfl ?_
        refine R_goto rfl ?_
        exact R_lret rfl rfl ⟨_, _, _, rfl, rfl, h⟩
  · replace h := h.2 hc
    refine R_lconst (pc' := 38) rfl rfl ?_
    exact R_lret rfl rfl ⟨_, _, _, rfl, rfl, h⟩
/-! 121 X9_mended -/
theorem S121 {e : En} {I : HI} {D : HD} {Q : Int → HI → HD → Prop} {x1 : Int} {x2 : Int} (he : HS e)
    (h : ((¬ x1 = (-1) → ((x1 < 0 → RI 121 41 [vR (some 312), vI x1, vI x2] [vR (some 312)] e (uI I 312 0 0) D Q) ∧ (¬ (x1 < 0) → (((I 323 0) ≤ x1 → RI 121 41 [vR (some 312), vI x1, vI x2] [vR (some 312)] e (uI I 312 0 0) D Q) ∧ (¬ ((I 323 0) ≤ x1) → ((x2 < 0 → RI 121 41 [vR (some 312), vI x1, vI x2] [vR (some 312)] e (uI I 312 0 0) D Q) ∧ (¬ (x2 < 0) → ((x2 ≤ 1 → RI 121 46 [vR (some 312), vI x1, vI x2] [vI 0, vR (some 312)] e (uI I 312 0 0) D Q) ∧ (¬ (x2 ≤ 1) → RI 121 41 [vR (some 312), vI x1, vI x2] [vR (some 312)] e (uI I 312 0 0) D Q))))))))) ∧ (¬ (¬ x1 = (-1)) → Q (I 323 0) (uI I 312 0 0) D))) :
    CI 121 [vR (some 312), vI x1, vI x2] e I D Q := by
  refine Call_run (ls := [vR (some 312), vI x1, vI x2]) rfl rfl ?_
  refine R_aload_n (pc' := 1) rfl rfl rfl ?_
  refine R_iconst (pc' := 2) rfl rfl ?_
  refine K_putI (pc' := 5) rfl rfl (by decide) (fun h => absurd h (by decide)) rfl ?_
  refine R_iload_n (pc' := 6) rfl rfl rfl ?_
  refine R_iconst (pc' := 7) rfl rfl ?_
  refine R_icne (pc' := 10) rfl rfl (fun hc => ?_) (fun hc => ?_)
  · replace h := h.1 hc
    refine R_aload_n (pc' := 18) rfl rfl rfl ?_
    refine R_iload_n (pc' := 19) rfl rfl rfl ?_
    refine R_iflt (pc' := 22) rfl rfl (fun hc => ?_) (fun hc => ?_)
    · replace h := h.1 hc
      exact h
    · replace h := h.2 hc
      refine R_iload_n (pc' := 23) rfl rfl rfl ?_
      refine R_aload_n (pc' := 24) rfl rfl rfl ?_
      refine K_getR (pc' := 27) rfl rfl rfl rfl (st_at he rfl rfl (by decide)) ?_
      refine R_iconst (pc' := 28) rfl rfl ?_
      refine K_iald (pc' := 29) rfl rfl rfl (by decide) (by decide) rfl ?_
      refine R_icge (pc' := 32) rfl rfl (fun hc => ?_) (fun hc => ?_)
      · replace h := h.1 hc
        exact h
      · replace h := h.2 hc
        refine R_iload_n (pc' := 33) rfl rfl rfl ?_
        refine R_iflt (pc' := 36) rfl rfl (fun hc => ?_) (fun hc => ?_)
        · replace h := h.1 hc
          exact h
        · replace h := h.2 hc
          refine R_iload_n (pc' := 37) rfl rfl rfl ?_
          refine R_iconst (pc' := 38) rfl rfl ?_
          refine R_icle (pc' := 41) rfl rfl (fun hc => ?_) (fun hc => ?_)
          · replace h := h.1 hc
            refine R_iconst (pc' := 46) rfl rfl ?_
            exact h
          · replace h := h.2 hc
            exact h
  · replace h := h.2 hc
    refine R_aload_n (pc' := 11) rfl rfl rfl ?_
    refine K_getR (pc' := 14) rfl rfl rfl rfl (st_at he rfl rfl (by decide)) ?_
    refine R_iconst (pc' := 15) rfl rfl ?_
    refine K_iald (pc' := 16) rfl rfl rfl (by decide) (by decide) rfl ?_
    exact R_iret rfl rfl ⟨_, _, _, rfl, rfl, h⟩
theorem S121_41 {e : En} {I : HI} {D : HD} {Q : Int → HI → HD → Prop} {x1 : Int} {x2 : Int} (he : HS e)
    (h : RI 121 46 [vR (some 312), vI x1, vI x2] [vI 1, vR (some 312)] e I D Q) :
    RI 121 41 [vR (some 312), vI x1, vI x2] [vR (some 312)] e I D Q := by
  show Run 121 41 [vR (some 312), vI x1, vI x2] [vR (some 312)] (mk e I D) (pI e Q)
  refine R_iconst (pc' := 42) rfl rfl ?_
  refine R_goto rfl ?_
  exact h
theorem S121_46 {e : En} {I : HI} {D : HD} {Q : Int → HI → HD → Prop} {x1 : Int} {x2 : Int} {y1 : Int} (he : HS e)
    (h : ((y1 ≤ 0 → ((¬ x2 = 0 → (0 ≤ x1 ∧ x1 < 4000) ∧ Q (I 325 (x1.toNat)) (uI I 312 0 y1) D) ∧ (¬ (¬ x2 = 0) → (0 ≤ x1 ∧ x1 < 4000) ∧ Q (I 324 (x1.toNat)) (uI I 312 0 y1) D))) ∧ (¬ (y1 ≤ 0) → Q 0 (uI I 312 0 y1) D))) :
    RI 121 46 [vR (some 312), vI x1, vI x2] [vI y1, vR (some 312)] e I D Q := by
  show Run 121 46 [vR (some 312), vI x1, vI x2] [vI y1, vR (some 312)] (mk e I D) (pI e Q)
  refine K_putI (pc' := 49) rfl rfl (by decide) (fun h => absurd h (by decide)) rfl ?_
  refine R_aload_n (pc' := 50) rfl rfl rfl ?_
  refine K_getI (pc' := 53) rfl rfl (by decide) rfl rfl ?_
  refine R_ifle (pc' := 56) rfl rfl (fun hc => ?_) (fun hc => ?_)
  · replace h := h.1 hc
    refine R_iload_n (pc' := 61) rfl rfl rfl ?_
    refine R_ifne (pc' := 64) rfl rfl (fun hc => ?_) (fun hc => ?_)
    · replace h := h.1 hc
      refine R_aload_n (pc' := 74) rfl rfl rfl ?_
      refine K_getR (pc' := 77) rfl rfl rfl rfl (st_at he rfl rfl (by decide)) ?_
      refine R_iload_n (pc' := 78) rfl rfl rfl ?_
      have g1 := h.1
      replace h := h.2
      refine K_iald (pc' := 79) rfl rfl rfl g1.1 g1.2 rfl ?_
      exact R_iret rfl rfl ⟨_, _, _, rfl, rfl, h⟩
    · replace h := h.2 hc
      refine R_aload_n (pc' := 65) rfl rfl rfl ?_
      refine K_getR (pc' := 68) rfl rfl rfl rfl (st_at he rfl rfl (by decide)) ?_
      refine R_iload_n (pc' := 69) rfl rfl rfl ?_
      have g2 := h.1
      replace h := h.2
      refine K_iald (pc' := 70) rfl rfl rfl g2.1 g2.2 rfl ?_
      refine R_goto rfl ?_
      exact R_iret rfl rfl ⟨_, _, _, rfl, rfl, h⟩
  · replace h := h.2 hc
    refine R_iconst (pc' := 57) rfl rfl ?_
    refine R_goto rfl ?_
    exact R_iret rfl rfl ⟨_, _, _, rfl, rfl, h⟩
/-! 122 X9_catalogue -/
theorem S122 {e : En} {I : HI} {D : HD} {Q : Int → HI → HD → Prop} (he : HS e)
    (h : Q (I 330 0) (uI I 312 0 0) D) :
    CI 122 [vR (some 312)] e I D Q := by
  refine Call_run (ls := [vR (some 312)]) rfl rfl ?_
  refine R_aload_n (pc' := 1) rfl rfl rfl ?_
  refine R_iconst (pc' := 2) rfl rfl ?_
  refine K_putI (pc' := 5) rfl rfl (by decide) (fun h => absurd h (by decide)) rfl ?_
  refine R_aload_n (pc' := 6) rfl rfl rfl ?_
  refine K_getR (pc' := 9) rfl rfl rfl rfl (st_at he rfl rfl (by decide)) ?_
  refine R_iconst (pc' := 10) rfl rfl ?_
  refine K_iald (pc' := 11) rfl rfl rfl (by decide) (by decide) rfl ?_
  exact R_iret rfl rfl ⟨_, _, _, rfl, rfl, h⟩
/-! 123 X9_pages -/
theorem S123 {e : En} {I : HI} {D : HD} {Q : Int → HI → HD → Prop} (he : HS e)
    (h : Q (I 331 0) (uI I 312 0 0) D) :
    CI 123 [vR (some 312)] e I D Q := by
  refine Call_run (ls := [vR (some 312)]) rfl rfl ?_
  refine R_aload_n (pc' := 1) rfl rfl rfl ?_
  refine R_iconst (pc' := 2) rfl rfl ?_
  refine K_putI (pc' := 5) rfl rfl (by decide) (fun h => absurd h (by decide)) rfl ?_
  refine R_aload_n (pc' := 6) rfl rfl rfl ?_
  refine K_getR (pc' := 9) rfl rfl rfl rfl (st_at he rfl rfl (by decide)) ?_
  refine R_iconst (pc' := 10) rfl rfl ?_
  refine K_iald (pc' := 11) rfl rfl rfl (by decide) (by decide) rfl ?_
  exact R_iret rfl rfl ⟨_, _, _, rfl, rfl, h⟩
/-! 124 X9_page -/
theorem S124 {e : En} {I : HI} {D : HD} {Q : Int → HI → HD → Prop} {x1 : Int} (he : HS e)
    (h : ((x1 < 0 → RI 124 15 [vR (some 312), vI x1] [vR (some 312)] e I D Q) ∧ (¬ (x1 < 0) → ((x1 < (I 331 0) → RI 124 20 [vR (some 312), vI x1] [vI 0, vR (some 312)] e I D Q) ∧ (¬ (x1 < (I 331 0)) → RI 124 15 [vR (some 312), vI x1] [vR (some 312)] e I D Q))))) :
    CI 124 [vR (some 312), vI x1] e I D Q := by
  refine Call_run (ls := [vR (some 312), vI x1]) rfl rfl ?_
  refine R_aload_n (pc' := 1) rfl rfl rfl ?_
  refine R_iload_n (pc' := 2) rfl rfl rfl ?_
  refine R_iflt (pc' := 5) rfl rfl (fun hc => ?_) (fun hc => ?_)
  · replace h := h.1 hc
    exact h
  · replace h := h.2 hc
    refine R_iload_n (pc' := 6) rfl rfl rfl ?_
    refine R_aload_n (pc' := 7) rfl rfl rfl ?_
    refine K_getR (pc' := 10) rfl rfl rfl rfl (st_at he rfl rfl (by decide)) ?_
    refine R_iconst (pc' := 11) rfl rfl ?_
    refine K_iald (pc' := 12) rfl rfl rfl (by decide) (by decide) rfl ?_
    refine R_iclt (pc' := 15) rfl rfl (fun hc => ?_) (fun hc => ?_)
    · replace h := h.1 hc
      refine R_iconst (pc' := 20) rfl rfl ?_
      exact h
    · replace h := h.2 hc
      exact h
theorem S124_15 {e : En} {I : HI} {D : HD} {Q : Int → HI → HD → Prop} {x1 : Int} (he : HS e)
    (h : RI 124 20 [vR (some 312), vI x1] [vI 1, vR (some 312)] e I D Q) :
    RI 124 15 [vR (some 312), vI x1] [vR (some 312)] e I D Q := by
  show Run 124 15 [vR (some 312), vI x1] [vR (some 312)] (mk e I D) (pI e Q)
  refine R_iconst (pc' := 16) rfl rfl ?_
  refine R_goto rfl ?_
  exact h
theorem S124_20 {e : En} {I : HI} {D : HD} {Q : Int → HI → HD → Prop} {x1 : Int} {y1 : Int} (he : HS e)
    (h : ((y1 ≤ 0 → (0 ≤ x1 ∧ x1 < 122) ∧ Q (I 332 (x1.toNat)) (uI I 312 0 y1) D) ∧ (¬ (y1 ≤ 0) → Q 0 (uI I 312 0 y1) D))) :
    RI 124 20 [vR (some 312), vI x1] [vI y1, vR (some 312)] e I D Q := by
  show Run 124 20 [vR (some 312), vI x1] [vI y1, vR (some 312)] (mk e I D) (pI e Q)
  refine K_putI (pc' := 23) rfl rfl (by decide) (fun h => absurd h (by decide)) rfl ?_
  refine R_aload_n (pc' := 24) rfl rfl rfl ?_
  refine K_getI (pc' := 27) rfl rfl (by decide) rfl rfl ?_
  refine R_ifle (pc' := 30) rfl rfl (fun hc => ?_) (fun hc => ?_)
  · replace h := h.1 hc
    refine R_aload_n (pc' := 35) rfl rfl rfl ?_
    refine K_getR (pc' := 38) rfl rfl rfl rfl (st_at he rfl rfl (by decide)) ?_
    refine R_iload_n (pc' := 39) rfl rfl rfl ?_
    have g1 := h.1
    replace h := h.2
    refine K_iald (pc' := 40) rfl rfl rfl g1.1 g1.2 rfl ?_
    exact R_iret rfl rfl ⟨_, _, _, rfl, rfl, h⟩
  · replace h := h.2 hc
    refine R_iconst (pc' := 31) rfl rfl ?_
    refine R_goto rfl ?_
    exact R_iret rfl rfl ⟨_, _, _, rfl, rfl, h⟩
/-! 125 X9_cut -/
theorem S125 {e : En} {I : HI} {D : HD} {Q : Int → HI → HD → Prop} (he : HS e)
    (h : Q (I 329 0) (uI I 312 0 0) D) :
    CI 125 [vR (some 312)] e I D Q := by
  refine Call_run (ls := [vR (some 312)]) rfl rfl ?_
  refine R_aload_n (pc' := 1) rfl rfl rfl ?_
  refine R_iconst (pc' := 2) rfl rfl ?_
  refine K_putI (pc' := 5) rfl rfl (by decide) (fun h => absurd h (by decide)) rfl ?_
  refine R_aload_n (pc' := 6) rfl rfl rfl ?_
  refine K_getR (pc' := 9) rfl rfl rfl rfl (st_at he rfl rfl (by decide)) ?_
  refine R_iconst (pc' := 10) rfl rfl ?_
  refine K_iald (pc' := 11) rfl rfl rfl (by decide) (by decide) rfl ?_
  exact R_iret rfl rfl ⟨_, _, _, rfl, rfl, h⟩
/-! 126 X9_trailer -/
theorem S126 {e : En} {I : HI} {D : HD} {Q : Int → HI → HD → Prop} {x1 : Int} (he : HS e)
    (h : ((x1 < 0 → RI 126 10 [vR (some 312), vI x1] [vR (some 312)] e I D Q) ∧ (¬ (x1 < 0) → ((x1 ≤ 1 → RI 126 15 [vR (some 312), vI x1] [vI 0, vR (some 312)] e I D Q) ∧ (¬ (x1 ≤ 1) → RI 126 10 [vR (some 312), vI x1] [vR (some 312)] e I D Q))))) :
    CI 126 [vR (some 312), vI x1] e I D Q := by
  refine Call_run (ls := [vR (some 312), vI x1]) rfl rfl ?_
  refine R_aload_n (pc' := 1) rfl rfl rfl ?_
  refine R_iload_n (pc' := 2) rfl rfl rfl ?_
  refine R_iflt (pc' := 5) rfl rfl (fun hc => ?_) (fun hc => ?_)
  · replace h := h.1 hc
    exact h
  · replace h := h.2 hc
    refine R_iload_n (pc' := 6) rfl rfl rfl ?_
    refine R_iconst (pc' := 7) rfl rfl ?_
    refine R_icle (pc' := 10) rfl rfl (fun hc => ?_) (fun hc => ?_)
    · replace h := h.1 hc
      refine R_iconst (pc' := 15) rfl rfl ?_
      exact h
    · replace h := h.2 hc
      exact h
theorem S126_10 {e : En} {I : HI} {D : HD} {Q : Int → HI → HD → Prop} {x1 : Int} (he : HS e)
    (h : RI 126 15 [vR (some 312), vI x1] [vI 1, vR (some 312)] e I D Q) :
    RI 126 10 [vR (some 312), vI x1] [vR (some 312)] e I D Q := by
  show Run 126 10 [vR (some 312), vI x1] [vR (some 312)] (mk e I D) (pI e Q)
  refine R_iconst (pc' := 11) rfl rfl ?_
  refine R_goto rfl ?_
  exact h
theorem S126_15 {e : En} {I : HI} {D : HD} {Q : Int → HI → HD → Prop} {x1 : Int} {y1 : Int} (he : HS e)
    (h : ((y1 ≤ 0 → ((¬ x1 = 0 → Q (I 328 0) (uI I 312 0 y1) D) ∧ (¬ (¬ x1 = 0) → Q (I 327 0) (uI I 312 0 y1) D))) ∧ (¬ (y1 ≤ 0) → Q 0 (uI I 312 0 y1) D))) :
    RI 126 15 [vR (some 312), vI x1] [vI y1, vR (some 312)] e I D Q := by
  show Run 126 15 [vR (some 312), vI x1] [vI y1, vR (some 312)] (mk e I D) (pI e Q)
  refine K_putI (pc' := 18) rfl rfl (by decide) (fun h => absurd h (by decide)) rfl ?_
  refine R_aload_n (pc' := 19) rfl rfl rfl ?_
  refine K_getI (pc' := 22) rfl rfl (by decide) rfl rfl ?_
  refine R_ifle (pc' := 25) rfl rfl (fun hc => ?_) (fun hc => ?_)
  · replace h := h.1 hc
    refine R_iload_n (pc' := 30) rfl rfl rfl ?_
    refine R_ifne (pc' := 33) rfl rfl (fun hc => ?_) (fun hc => ?_)
    · replace h := h.1 hc
      refine R_aload_n (pc' := 43) rfl rfl rfl ?_
      refine K_getR (pc' := 46) rfl rfl rfl rfl (st_at he rfl rfl (by decide)) ?_
      refine R_iconst (pc' := 47) rfl rfl ?_
      refine K_iald (pc' := 48) rfl rfl rfl (by decide) (by decide) rfl ?_
      exact R_iret rfl rfl ⟨_, _, _, rfl, rfl, h⟩
    · replace h := h.2 hc
      refine R_aload_n (pc' := 34) rfl rfl rfl ?_
      refine K_getR (pc' := 37) rfl rfl rfl rfl (st_at he rfl rfl (by decide)) ?_
      refine R_iconst (pc' := 38) rfl rfl ?_
      refine K_iald (pc' := 39) rfl rfl rfl (by decide) (by decide) rfl ?_
      refine R_goto rfl ?_
      exact R_iret rfl rfl ⟨_, _, _, rfl, rfl, h⟩
  · replace h := h.2 hc
    refine R_iconst (pc' := 26) rfl rfl ?_
    refine R_goto rfl ?_
    exact R_iret rfl rfl ⟨_, _, _, rfl, rfl, h⟩
/-! 127 X9_stream -/
theorem S127 {e : En} {I : HI} {D : HD} {Q : Int → HI → HD → Prop} {x1 : Int} {x2 : Int} (he : HS e)
    (h : CI 119 [vR (some 312), vI x1] e I D (fun z1 I2 D3 => ((z1 = 0 → RI 127 18 [vR (some 312), vI x1, vI x2, vJ] [vR (some 312)] e I2 D3 Q) ∧ (¬ (z1 = 0) → (0 ≤ x1 ∧ x1 < 122) ∧ (((0 : Int) ≤ (I2 321 (x1.toNat)) → RI 127 23 [vR (some 312), vI x1, vI x2, vJ] [vI 0, vR (some 312)] e I2 D3 Q) ∧ (¬ ((0 : Int) ≤ (I2 321 (x1.toNat))) → RI 127 18 [vR (some 312), vI x1, vI x2, vJ] [vR (some 312)] e I2 D3 Q)))))) :
    CI 127 [vR (some 312), vI x1, vI x2] e I D Q := by
  refine Call_run (ls := [vR (some 312), vI x1, vI x2, vJ]) rfl rfl ?_
  refine R_aload_n (pc' := 1) rfl rfl rfl ?_
  refine R_aload_n (pc' := 2) rfl rfl rfl ?_
  refine R_iload_n (pc' := 3) rfl rfl rfl ?_
  refine KI_iv (as := [vI x1]) (rest := [vR (some 312)]) (pc' := 6) rfl rfl rfl rfl rfl (Nat.le_of_ble_eq_true rfl) rfl (CI_mono h ?_)
  intro z1 I2 D3 h
  refine R_ifeq (pc' := 9) rfl rfl (fun hc => ?_) (fun hc => ?_)
  · replace h := h.1 hc
    exact h
  · replace h := h.2 hc
    refine R_aload_n (pc' := 10) rfl rfl rfl ?_
    refine K_getR (pc' := 13) rfl rfl rfl rfl (st_at he rfl rfl (by decide)) ?_
    refine R_iload_n (pc' := 14) rfl rfl rfl ?_
    have g4 := h.1
    replace h := h.2
    refine K_iald (pc' := 15) rfl rfl rfl g4.1 g4.2 rfl ?_
    refine R_ifge (pc' := 18) rfl rfl (fun hc => ?_) (fun hc => ?_)
    · replace h := h.1 hc
      refine R_iconst (pc' := 23) rfl rfl ?_
      exact h
    · replace h := h.2 hc
      exact h
theorem S127_18 {e : En} {I : HI} {D : HD} {Q : Int → HI → HD → Prop} {x1 : Int} {x2 : Int} (he : HS e)
    (h : RI 127 23 [vR (some 312), vI x1, vI x2, vJ] [vI 1, vR (some 312)] e I D Q) :
    RI 127 18 [vR (some 312), vI x1, vI x2, vJ] [vR (some 312)] e I D Q := by
  show Run 127 18 [vR (some 312), vI x1, vI x2, vJ] [vR (some 312)] (mk e I D) (pI e Q)
  refine R_iconst (pc' := 19) rfl rfl ?_
  refine R_goto rfl ?_
  exact h
theorem S127_23 {e : En} {I : HI} {D : HD} {Q : Int → HI → HD → Prop} {x1 : Int} {x2 : Int} {y1 : Int} (he : HS e)
    (h : ((y1 ≤ 0 → (0 ≤ x1 ∧ x1 < 122) ∧ (0 ≤ x1 ∧ x1 < 122) ∧ (-2147483648 ≤ ((I 322 (x1.toNat)) - (I 321 (x1.toNat))) ∧ ((I 322 (x1.toNat)) - (I 321 (x1.toNat))) < 2147483648) ∧ ((x2 < (-1) → RI 127 60 [vR (some 312), vI x1, vI x2, vI ((I 322 (x1.toNat)) - (I 321 (x1.toNat)))] [vR (some 312)] e (uI I 312 0 y1) D Q) ∧ (¬ (x2 < (-1)) → ((x2 < ((I 322 (x1.toNat)) - (I 321 (x1.toNat))) → RI 127 65 [vR (some 312), vI x1, vI x2, vI ((I 322 (x1.toNat)) - (I 321 (x1.toNat)))] [vI 0, vR (some 312)] e (uI I 312 0 y1) D Q) ∧ (¬ (x2 < ((I 322 (x1.toNat)) - (I 321 (x1.toNat)))) → RI 127 60 [vR (some 312), vI x1, vI x2, vI ((I 322 (x1.toNat)) - (I 321 (x1.toNat)))] [vR (some 312)] e (uI I 312 0 y1) D Q))))) ∧ (¬ (y1 ≤ 0) → Q 0 (uI I 312 0 y1) D))) :
    RI 127 23 [vR (some 312), vI x1, vI x2, vJ] [vI y1, vR (some 312)] e I D Q := by
  show Run 127 23 [vR (some 312), vI x1, vI x2, vJ] [vI y1, vR (some 312)] (mk e I D) (pI e Q)
  refine K_putI (pc' := 26) rfl rfl (by decide) (fun h => absurd h (by decide)) rfl ?_
  refine R_aload_n (pc' := 27) rfl rfl rfl ?_
  refine K_getI (pc' := 30) rfl rfl (by decide) rfl rfl ?_
  refine R_ifle (pc' := 33) rfl rfl (fun hc => ?_) (fun hc => ?_)
  · replace h := h.1 hc
    refine R_aload_n (pc' := 36) rfl rfl rfl ?_
    refine K_getR (pc' := 39) rfl rfl rfl rfl (st_at he rfl rfl (by decide)) ?_
    refine R_iload_n (pc' := 40) rfl rfl rfl ?_
    have g1 := h.1
    replace h := h.2
    refine K_iald (pc' := 41) rfl rfl rfl g1.1 g1.2 rfl ?_
    refine R_aload_n (pc' := 42) rfl rfl rfl ?_
    refine K_getR (pc' := 45) rfl rfl rfl rfl (st_at he rfl rfl (by decide)) ?_
    refine R_iload_n (pc' := 46) rfl rfl rfl ?_
    have g2 := h.1
    replace h := h.2
    refine K_iald (pc' := 47) rfl rfl rfl g2.1 g2.2 rfl ?_
    have g3 := h.1
    replace h := h.2
    refine R_isub (pc' := 48) rfl rfl g3 ?_
    refine R_istore_n (ls' := [vR (some 312), vI x1, vI x2, vI ((I 322 (x1.toNat)) - (I 321 (x1.toNat)))]) (pc' := 49) rfl rfl rfl ?_
    refine R_aload_n (pc' := 50) rfl rfl rfl ?_
    refine R_iload_n (pc' := 51) rfl rfl rfl ?_
    refine R_iconst (pc' := 52) rfl rfl ?_
    refine R_iclt (pc' := 55) rfl rfl (fun hc => ?_) (fun hc => ?_)
    · replace h := h.1 hc
      exact h
    · replace h := h.2 hc
      refine R_iload_n (pc' := 56) rfl rfl rfl ?_
      refine R_iload_n (pc' := 57) rfl rfl rfl ?_
      refine R_iclt (pc' := 60) rfl rfl (fun hc => ?_) (fun hc => ?_)
      · replace h := h.1 hc
        refine R_iconst (pc' := 65) rfl rfl ?_
        exact h
      · replace h := h.2 hc
        exact h
  · replace h := h.2 hc
    refine R_iconst (pc' := 34) rfl rfl ?_
    exact R_iret rfl rfl ⟨_, _, _, rfl, rfl, h⟩
theorem S127_60 {e : En} {I : HI} {D : HD} {Q : Int → HI → HD → Prop} {x1 : Int} {x2 : Int} {x3 : Int} (he : HS e)
    (h : RI 127 65 [vR (some 312), vI x1, vI x2, vI x3] [vI 2, vR (some 312)] e I D Q) :
    RI 127 60 [vR (some 312), vI x1, vI x2, vI x3] [vR (some 312)] e I D Q := by
  show Run 127 60 [vR (some 312), vI x1, vI x2, vI x3] [vR (some 312)] (mk e I D) (pI e Q)
  refine R_iconst (pc' := 61) rfl rfl ?_
  refine R_goto rfl ?_
  exact h
theorem S127_65 {e : En} {I : HI} {D : HD} {Q : Int → HI → HD → Prop} {x1 : Int} {x2 : Int} {x3 : Int} {y1 : Int} (he : HS e)
    (h : ((y1 ≤ 0 → ((¬ x2 = (-1) → (0 ≤ x1 ∧ x1 < 122) ∧ (-2147483648 ≤ ((I 321 (x1.toNat)) + x2) ∧ ((I 321 (x1.toNat)) + x2) < 2147483648) ∧ CI 88 [vR (some 312), vI ((I 321 (x1.toNat)) + x2)] e (uI I 312 0 y1) D (fun z3 I4 D5 => Q z3 I4 D5)) ∧ (¬ (¬ x2 = (-1)) → Q x3 (uI I 312 0 y1) D))) ∧ (¬ (y1 ≤ 0) → Q 0 (uI I 312 0 y1) D))) :
    RI 127 65 [vR (some 312), vI x1, vI x2, vI x3] [vI y1, vR (some 312)] e I D Q := by
  show Run 127 65 [vR (some 312), vI x1, vI x2, vI x3] [vI y1, vR (some 312)] (mk e I D) (pI e Q)
  refine K_putI (pc' := 68) rfl rfl (by decide) (fun h => absurd h (by decide)) rfl ?_
  refine R_aload_n (pc' := 69) rfl rfl rfl ?_
  refine K_getI (pc' := 72) rfl rfl (by decide) rfl rfl ?_
  refine R_ifle (pc' := 75) rfl rfl (fun hc => ?_) (fun hc => ?_)
  · replace h := h.1 hc
    refine R_iload_n (pc' := 80) rfl rfl rfl ?_
    refine R_iconst (pc' := 81) rfl rfl ?_
    refine R_icne (pc' := 84) rfl rfl (fun hc => ?_) (fun hc => ?_)
    · replace h := h.1 hc
      refine R_aload_n (pc' := 89) rfl rfl rfl ?_
      refine R_aload_n (pc' := 90) rfl rfl rfl ?_
      refine K_getR (pc' := 93) rfl rfl rfl rfl (st_at he rfl rfl (by decide)) ?_
      refine R_iload_n (pc' := 94) rfl rfl rfl ?_
      have g1 := h.1
      replace h := h.2
      refine K_iald (pc' := 95) rfl rfl rfl g1.1 g1.2 rfl ?_
      refine R_iload_n (pc' := 96) rfl rfl rfl ?_
      have g2 := h.1
      replace h := h.2
      refine R_iadd (pc' := 97) rfl rfl g2 ?_
      refine KI_iv (as := [vI ((I 321 (x1.toNat)) + x2)]) (rest := []) (pc' := 100) rfl rfl rfl rfl rfl (Nat.le_of_ble_eq_true rfl) rfl (CI_mono h ?_)
      intro z3 I4 D5 h
      exact R_iret rfl rfl ⟨_, _, _, rfl, rfl, h⟩
    · replace h := h.2 hc
      refine R_iload_n (pc' := 85) rfl rfl rfl ?_
      refine R_goto rfl ?_
      exact R_iret rfl rfl ⟨_, _, _, rfl, rfl, h⟩
  · replace h := h.2 hc
    refine R_iconst (pc' := 76) rfl rfl ?_
    refine R_goto rfl ?_
    exact R_iret rfl rfl ⟨_, _, _, rfl, rfl, h⟩
/-! 128 X9_whole -/
theorem S128 {e : En} {I : HI} {D : HD} {Q : Int → HI → HD → Prop} {x1 : Int} (he : HS e)
    (h : CI 119 [vR (some 312), vI x1] e I D (fun z1 I2 D3 => ((z1 = 0 → RI 128 14 [vR (some 312), vI x1] [vI 1, vR (some 312)] e I2 D3 Q) ∧ (¬ (z1 = 0) → RI 128 14 [vR (some 312), vI x1] [vI 0, vR (some 312)] e I2 D3 Q)))) :
    CI 128 [vR (some 312), vI x1] e I D Q := by
  refine Call_run (ls := [vR (some 312), vI x1]) rfl rfl ?_
  refine R_aload_n (pc' := 1) rfl rfl rfl ?_
  refine R_aload_n (pc' := 2) rfl rfl rfl ?_
  refine R_iload_n (pc' := 3) rfl rfl rfl ?_
  refine KI_iv (as := [vI x1]) (rest := [vR (some 312)]) (pc' := 6) rfl rfl rfl rfl rfl (Nat.le_of_ble_eq_true rfl) rfl (CI_mono h ?_)
  intro z1 I2 D3 h
  refine R_ifeq (pc' := 9) rfl rfl (fun hc => ?_) (fun hc => ?_)
  · replace h := h.1 hc
    refine R_iconst (pc' := 14) rfl rfl ?_
    exact h
  · replace h := h.2 hc
    refine R_iconst (pc' := 10) rfl rfl ?_
    refine R_goto rfl ?_
    exact h
theorem S128_14 {e : En} {I : HI} {D : HD} {Q : Int → HI → HD → Prop} {x1 : Int} {y1 : Int} (he : HS e)
    (h : ((¬ y1 = 0 → Q 0 (uI I 312 0 y1) D) ∧ (¬ (¬ y1 = 0) → (0 ≤ x1 ∧ x1 < 122) ∧ (((I 320 (x1.toNat)) = 0 → Q 0 (uI I 312 0 y1) D) ∧ (¬ ((I 320 (x1.toNat)) = 0) → Q 1 (uI I 312 0 y1) D))))) :
    RI 128 14 [vR (some 312), vI x1] [vI y1, vR (some 312)] e I D Q := by
  show Run 128 14 [vR (some 312), vI x1] [vI y1, vR (some 312)] (mk e I D) (pI e Q)
  refine K_putI (pc' := 17) rfl rfl (by decide) (fun h => absurd h (by decide)) rfl ?_
  refine R_aload_n (pc' := 18) rfl rfl rfl ?_
  refine K_getI (pc' := 21) rfl rfl (by decide) rfl rfl ?_
  refine R_ifne (pc' := 24) rfl rfl (fun hc => ?_) (fun hc => ?_)
  · replace h := h.1 hc
    refine R_iconst (pc' := 38) rfl rfl ?_
    exact R_zret rfl rfl (Or.inl rfl) ⟨_, _, _, rfl, rfl, h⟩
  · replace h := h.2 hc
    refine R_aload_n (pc' := 25) rfl rfl rfl ?_
    refine K_getR (pc' := 28) rfl rfl rfl rfl (st_at he rfl rfl (by decide)) ?_
    refine R_iload_n (pc' := 29) rfl rfl rfl ?_
    have g1 := h.1
    replace h := h.2
    refine K_zald (pc' := 30) rfl rfl rfl g1.1 g1.2 rfl ?_
    refine R_ifeq (pc' := 33) rfl rfl (fun hc => ?_) (fun hc => ?_)
    · replace h := h.1 hc
      refine R_iconst (pc' := 38) rfl rfl ?_
      exact R_zret rfl rfl (Or.inl rfl) ⟨_, _, _, rfl, rfl, h⟩
    · replace h := h.2 hc
      refine R_iconst (pc' := 34) rfl rfl ?_
      refine R_goto rfl ?_
      exact R_zret rfl rfl (Or.inr rfl) ⟨_, _, _, rfl, rfl, h⟩
/-! 129 X9_twice -/
theorem S129 {e : En} {I : HI} {D : HD} {Q : Int → HI → HD → Prop} {x1 : Int} (he : HS e)
    (h : ((¬ x1 = (-1) → ((x1 < 0 → RI 129 28 [vR (some 312), vI x1] [vR (some 312)] e (uI I 312 0 0) D Q) ∧ (¬ (x1 < 0) → ((x1 < (I 312 17) → RI 129 33 [vR (some 312), vI x1] [vI 0, vR (some 312)] e (uI I 312 0 0) D Q) ∧ (¬ (x1 < (I 312 17)) → RI 129 28 [vR (some 312), vI x1] [vR (some 312)] e (uI I 312 0 0) D Q))))) ∧ (¬ (¬ x1 = (-1)) → Q (I 312 17) (uI I 312 0 0) D))) :
    CI 129 [vR (some 312), vI x1] e I D Q := by
  refine Call_run (ls := [vR (some 312), vI x1]) rfl rfl ?_
  refine R_aload_n (pc' := 1) rfl rfl rfl ?_
  refine R_iconst (pc' := 2) rfl rfl ?_
  refine K_putI (pc' := 5) rfl rfl (by decide) (fun h => absurd h (by decide)) rfl ?_
  refine R_iload_n (pc' := 6) rfl rfl rfl ?_
  refine R_iconst (pc' := 7) rfl rfl ?_
  refine R_icne (pc' := 10) rfl rfl (fun hc => ?_) (fun hc => ?_)
  · replace h := h.1 hc
    refine R_aload_n (pc' := 16) rfl rfl rfl ?_
    refine R_iload_n (pc' := 17) rfl rfl rfl ?_
    refine R_iflt (pc' := 20) rfl rfl (fun hc => ?_) (fun hc => ?_)
    · replace h := h.1 hc
      exact h
    · replace h := h.2 hc
      refine R_iload_n (pc' := 21) rfl rfl rfl ?_
      refine R_aload_n (pc' := 22) rfl rfl rfl ?_
      refine K_getI (pc' := 25) rfl rfl (by decide) rfl rfl ?_
      refine R_iclt (pc' := 28) rfl rfl (fun hc => ?_) (fun hc => ?_)
      · replace h := h.1 hc
        refine R_iconst (pc' := 33) rfl rfl ?_
        exact h
      · replace h := h.2 hc
        exact h
  · replace h := h.2 hc
    refine R_aload_n (pc' := 11) rfl rfl rfl ?_
    refine K_getI (pc' := 14) rfl rfl (by decide) rfl rfl ?_
    exact R_iret rfl rfl ⟨_, _, _, rfl, rfl, h⟩
theorem S129_28 {e : En} {I : HI} {D : HD} {Q : Int → HI → HD → Prop} {x1 : Int} (he : HS e)
    (h : RI 129 33 [vR (some 312), vI x1] [vI 1, vR (some 312)] e I D Q) :
    RI 129 28 [vR (some 312), vI x1] [vR (some 312)] e I D Q := by
  show Run 129 28 [vR (some 312), vI x1] [vR (some 312)] (mk e I D) (pI e Q)
  refine R_iconst (pc' := 29) rfl rfl ?_
  refine R_goto rfl ?_
  exact h
theorem S129_33 {e : En} {I : HI} {D : HD} {Q : Int → HI → HD → Prop} {x1 : Int} {y1 : Int} (he : HS e)
    (h : ((y1 ≤ 0 → (0 ≤ x1 ∧ x1 < 800) ∧ Q (I 326 (x1.toNat)) (uI I 312 0 y1) D) ∧ (¬ (y1 ≤ 0) → Q 0 (uI I 312 0 y1) D))) :
    RI 129 33 [vR (some 312), vI x1] [vI y1, vR (some 312)] e I D Q := by
  show Run 129 33 [vR (some 312), vI x1] [vI y1, vR (some 312)] (mk e I D) (pI e Q)
  refine K_putI (pc' := 36) rfl rfl (by decide) (fun h => absurd h (by decide)) rfl ?_
  refine R_aload_n (pc' := 37) rfl rfl rfl ?_
  refine K_getI (pc' := 40) rfl rfl (by decide) rfl rfl ?_
  refine R_ifle (pc' := 43) rfl rfl (fun hc => ?_) (fun hc => ?_)
  · replace h := h.1 hc
    refine R_aload_n (pc' := 48) rfl rfl rfl ?_
    refine K_getR (pc' := 51) rfl rfl rfl rfl (st_at he rfl rfl (by decide)) ?_
    refine R_iload_n (pc' := 52) rfl rfl rfl ?_
    have g1 := h.1
    replace h := h.2
    refine K_iald (pc' := 53) rfl rfl rfl g1.1 g1.2 rfl ?_
    exact R_iret rfl rfl ⟨_, _, _, rfl, rfl, h⟩
  · replace h := h.2 hc
    refine R_iconst (pc' := 44) rfl rfl ?_
    refine R_goto rfl ?_
    exact R_iret rfl rfl ⟨_, _, _, rfl, rfl, h⟩
/-! 130 X9_put -/
theorem S130 {e : En} {I : HI} {D : HD} {Q : HI → HD → Prop} {x1 : Int} (he : HS e)
    (h : (((3000 : Int) ≤ (I 312 54) → Q I D) ∧ (¬ ((3000 : Int) ≤ (I 312 54)) → (0 ≤ (I 312 54) ∧ (I 312 54) < 3000) ∧ (-2147483648 ≤ ((I 312 54) + 1) ∧ ((I 312 54) + 1) < 2147483648) ∧ Q (uI (uI I 340 (((I 312 54) : Int).toNat) x1) 312 54 ((I 312 54) + 1)) D))) :
    CV 130 [vR (some 312), vI x1] e I D Q := by
  refine Call_run (ls := [vR (some 312), vI x1]) rfl rfl ?_
  refine R_aload_n (pc' := 1) rfl rfl rfl ?_
  refine K_getI (pc' := 4) rfl rfl (by decide) rfl rfl ?_
  refine R_sipush (pc' := 7) rfl rfl ?_
  refine R_icge (pc' := 10) rfl rfl (fun hc => ?_) (fun hc => ?_)
  · replace h := h.1 hc
    exact R_vret rfl rfl ⟨_, _, rfl, rfl, h⟩
  · replace h := h.2 hc
    refine R_aload_n (pc' := 11) rfl rfl rfl ?_
    refine K_getR (pc' := 14) rfl rfl rfl rfl (st_at he rfl rfl (by decide)) ?_
    refine R_aload_n (pc' := 15) rfl rfl rfl ?_
    refine K_getI (pc' := 18) rfl rfl (by decide) rfl rfl ?_
    refine R_iload_n (pc' := 19) rfl rfl rfl ?_
    have g1 := h.1
    replace h := h.2
    refine K_iast (pc' := 20) rfl rfl rfl g1.1 g1.2 ?_
    refine R_aload_n (pc' := 21) rfl rfl rfl ?_
    refine R_dup (pc' := 22) rfl rfl rfl ?_
    refine K_getI (pc' := 25) rfl rfl (by decide) rfl rfl ?_
    refine R_iconst (pc' := 26) rfl rfl ?_
    have g2 := h.1
    replace h := h.2
    refine R_iadd (pc' := 27) rfl rfl g2 ?_
    refine K_putI (pc' := 30) rfl rfl (by decide) (fun h => absurd h (by decide)) rfl ?_
    exact R_vret rfl rfl ⟨_, _, rfl, rfl, h⟩
/-! 131 X9_say -/
theorem S131 {e : En} {I : HI} {D : HD} {Q : HI → HD → Prop} {w1 : Int} (he : HS e)
    (h : RV 131 2 [vR (some 312), vJ, vJ, vL w1, vJ] [] e I D Q) :
    CV 131 [vR (some 312), vL w1] e I D Q := by
  refine Call_run (ls := [vR (some 312), vL w1, vJ, vJ, vJ]) rfl rfl ?_
  refine R_lload_n (pc' := 1) rfl rfl rfl ?_
  refine R_lstore_n (ls' := [vR (some 312), vL w1, vJ, vL w1, vJ]) (pc' := 2) rfl rfl rfl ?_
  exact R_forget (ls' := [vR (some 312), vJ, vJ, vL w1, vJ]) ⟨Or.inl rfl, Or.inr rfl, Or.inl rfl, Or.inl rfl, Or.inl rfl, trivial⟩ h
theorem S131_2 {e : En} {I : HI} {D : HD} {Q : HI → HD → Prop} {w3 : Int} (he : HS e)
    (h : (((if 0 < w3 then (1 : Int) else if w3 = 0 then 0 else -1) = 0 → Q I D) ∧ (¬ ((if 0 < w3 then (1 : Int) else if w3 = 0 then 0 else -1) = 0) → (-9223372036854775808 ≤ (Int.tdiv w3 256) ∧ (Int.tdiv w3 256) < 9223372036854775808) ∧ (-9223372036854775808 ≤ (Int.tmod w3 256) ∧ (Int.tmod w3 256) < 9223372036854775808) ∧ (-2147483648 ≤ (Int.tmod w3 256) ∧ (Int.tmod w3 256) < 2147483648) ∧ CV 130 [vR (some 312), vI (Int.tmod w3 256)] e I D (fun I5 D6 => (-9223372036854775808 ≤ (Int.tdiv w3 256) ∧ (Int.tdiv w3 256) < 9223372036854775808) ∧ RV 131 2 [vR (some 312), vJ, vJ, vL (Int.tdiv w3 256), vJ] [] e I5 D6 Q)))) :
    RV 131 2 [vR (some 312), vJ, vJ, vL w3, vJ] [] e I D Q := by
  show Run 131 2 [vR (some 312), vJ, vJ, vL w3, vJ] [] (mk e I D) (pV e Q)
  refine R_lload_n (pc' := 3) rfl rfl rfl ?_
  refine R_lconst (pc' := 4) rfl rfl ?_
  refine R_lcmp (pc' := 5) rfl rfl ?_
  refine R_ifeq (pc' := 8) rfl rfl (fun hc => ?_) (fun hc => ?_)
  · replace h := h.1 hc
    exact R_vret rfl rfl ⟨_, _, rfl, rfl, h⟩
  · replace h := h.2 hc
    refine R_aload_n (pc' := 9) rfl rfl rfl ?_
    refine R_lload_n (pc' := 10) rfl rfl rfl ?_
    refine R_ldc2 (pc' := 13) rfl rfl ?_
    have g1 := h.1
    replace h := h.2
    have g2 := h.1
    replace h := h.2
    refine R_lrem (pc' := 14) rfl rfl (by decide) g1 g2 ?_
    have g3 := h.1
    replace h := h.2
    refine R_l2i (pc' := 15) rfl rfl g3 ?_
    refine KV_iv (as := [vI (Int.tmod w3 256)]) (rest := []) (pc' := 18) rfl rfl rfl rfl rfl (Nat.le_of_ble_eq_true rfl) rfl (CV_mono h ?_)
    intro I5 D6 h
    refine R_lload_n (pc' := 19) rfl rfl rfl ?_
    refine R_ldc2 (pc' := 22) rfl rfl ?_
    have g7 := h.1
    replace h := h.2
    refine R_ldiv (pc' := 23) rfl rfl (by decide) g7 ?_
    refine R_lstore_n (ls' := [vR (some 312), vJ, vJ, vL (Int.tdiv w3 256), vJ]) (pc' := 24) rfl rfl rfl ?_
    refine R_goto rfl ?_
    exact h
/-! 132 X9_putNumber -/
theorem S132 {e : En} {I : HI} {D : HD} {Q : HI → HD → Prop} {x1 : Int} (he : HS e)
    (h : RV 132 2 [vR (some 312), vI x1, vI 1] [] e I D Q) :
    CV 132 [vR (some 312), vI x1] e I D Q := by
  refine Call_run (ls := [vR (some 312), vI x1, vJ]) rfl rfl ?_
  refine R_iconst (pc' := 1) rfl rfl ?_
  refine R_istore_n (ls' := [vR (some 312), vI x1, vI 1]) (pc' := 2) rfl rfl rfl ?_
  exact h
theorem S132_2 {e : En} {I : HI} {D : HD} {Q : HI → HD → Prop} {x1 : Int} {x2 : Int} (he : HS e)
    (h : (x2 ≠ 0) ∧ (-2147483648 ≤ (Int.tdiv x1 x2) ∧ (Int.tdiv x1 x2) < 2147483648) ∧ (((Int.tdiv x1 x2) ≤ 9 → RV 132 18 [vR (some 312), vI x1, vI x2] [] e I D Q) ∧ (¬ ((Int.tdiv x1 x2) ≤ 9) → (-2147483648 ≤ (10 * x2) ∧ (10 * x2) < 2147483648) ∧ RV 132 2 [vR (some 312), vI x1, vI (10 * x2)] [] e I D Q))) :
    RV 132 2 [vR (some 312), vI x1, vI x2] [] e I D Q := by
  show Run 132 2 [vR (some 312), vI x1, vI x2] [] (mk e I D) (pV e Q)
  refine R_iload_n (pc' := 3) rfl rfl rfl ?_
  refine R_iload_n (pc' := 4) rfl rfl rfl ?_
  have g1 := h.1
  replace h := h.2
  have g2 := h.1
  replace h := h.2
  refine R_idiv (pc' := 5) rfl rfl g1 g2 ?_
  refine R_bipush (pc' := 7) rfl rfl ?_
  refine R_icle (pc' := 10) rfl rfl (fun hc => ?_) (fun hc => ?_)
  · replace h := h.1 hc
    exact h
  · replace h := h.2 hc
    refine R_bipush (pc' := 12) rfl rfl ?_
    refine R_iload_n (pc' := 13) rfl rfl rfl ?_
    have g3 := h.1
    replace h := h.2
    refine R_imul (pc' := 14) rfl rfl g3 ?_
    refine R_istore_n (ls' := [vR (some 312), vI x1, vI (10 * x2)]) (pc' := 15) rfl rfl rfl ?_
    refine R_goto rfl ?_
    exact h
theorem S132_18 {e : En} {I : HI} {D : HD} {Q : HI → HD → Prop} {x1 : Int} {x2 : Int} (he : HS e)
    (h : ((x2 ≤ 0 → Q I D) ∧ (¬ (x2 ≤ 0) → (x2 ≠ 0) ∧ (-2147483648 ≤ (Int.tdiv x1 x2) ∧ (Int.tdiv x1 x2) < 2147483648) ∧ (-2147483648 ≤ (Int.tdiv (Int.tdiv x1 x2) 10) ∧ (Int.tdiv (Int.tdiv x1 x2) 10) < 2147483648) ∧ (-2147483648 ≤ (Int.tmod (Int.tdiv x1 x2) 10) ∧ (Int.tmod (Int.tdiv x1 x2) 10) < 2147483648) ∧ (-2147483648 ≤ (48 + (Int.tmod (Int.tdiv x1 x2) 10)) ∧ (48 + (Int.tmod (Int.tdiv x1 x2) 10)) < 2147483648) ∧ CV 130 [vR (some 312), vI (48 + (Int.tmod (Int.tdiv x1 x2) 10))] e I D (fun I7 D8 => (-2147483648 ≤ (Int.tdiv x2 10) ∧ (Int.tdiv x2 10) < 2147483648) ∧ RV 132 18 [vR (some 312), vI x1, vI (Int.tdiv x2 10)] [] e I7 D8 Q)))) :
    RV 132 18 [vR (some 312), vI x1, vI x2] [] e I D Q := by
  show Run 132 18 [vR (some 312), vI x1, vI x2] [] (mk e I D) (pV e Q)
  refine R_iload_n (pc' := 19) rfl rfl rfl ?_
  refine R_ifle (pc' := 22) rfl rfl (fun hc => ?_) (fun hc => ?_)
  · replace h := h.1 hc
    exact R_vret rfl rfl ⟨_, _, rfl, rfl, h⟩
  · replace h := h.2 hc
    refine R_aload_n (pc' := 23) rfl rfl rfl ?_
    refine R_bipush (pc' := 25) rfl rfl ?_
    refine R_iload_n (pc' := 26) rfl rfl rfl ?_
    refine R_iload_n (pc' := 27) rfl rfl rfl ?_
    have g1 := h.1
    replace h := h.2
    have g2 := h.1
    replace h := h.2
    refine R_idiv (pc' := 28) rfl rfl g1 g2 ?_
    refine R_bipush (pc' := 30) rfl rfl ?_
    have g3 := h.1
    replace h := h.2
    have g4 := h.1
    replace h := h.2
    refine R_irem (pc' := 31) rfl rfl (by decide) g3 g4 ?_
    have g5 := h.1
    replace h := h.2
    refine R_iadd (pc' := 32) rfl rfl g5 ?_
    refine KV_iv (as := [vI (48 + (Int.tmod (Int.tdiv x1 x2) 10))]) (rest := []) (pc' := 35) rfl rfl rfl rfl rfl (Nat.le_of_ble_eq_true rfl) rfl (CV_mono h ?_)
    intro I7 D8 h
    refine R_iload_n (pc' := 36) rfl rfl rfl ?_
    refine R_bipush (pc' := 38) rfl rfl ?_
    have g9 := h.1
    replace h := h.2
    refine R_idiv (pc' := 39) rfl rfl (by decide) g9 ?_
    refine R_istore_n (ls' := [vR (some 312), vI x1, vI (Int.tdiv x2 10)]) (pc' := 40) rfl rfl rfl ?_
    refine R_goto rfl ?_
    exact h
/-! 133 X9_copy -/
theorem S133 {e : En} {I : HI} {D : HD} {Q : HI → HD → Prop} {x1 : Int} {x2 : Int} {x3 : Int} (he : HS e)
    (h : RV 133 3 [vR (some 312), vJ, vI x2, vI x3, vI x1, vJ, vJ, vJ] [] e I D Q) :
    CV 133 [vR (some 312), vI x1, vI x2, vI x3] e I D Q := by
  refine Call_run (ls := [vR (some 312), vI x1, vI x2, vI x3, vJ, vJ, vJ, vJ]) rfl rfl ?_
  refine R_iload_n (pc' := 1) rfl rfl rfl ?_
  refine R_istore (ls' := [vR (some 312), vI x1, vI x2, vI x3, vI x1, vJ, vJ, vJ]) (pc' := 3) rfl rfl rfl ?_
  exact R_forget (ls' := [vR (some 312), vJ, vI x2, vI x3, vI x1, vJ, vJ, vJ]) ⟨Or.inl rfl, Or.inr rfl, Or.inl rfl, Or.inl rfl, Or.inl rfl, Or.inl rfl, Or.inl rfl, Or.inl rfl, trivial⟩ h
theorem S133_3 {e : En} {I : HI} {D : HD} {Q : HI → HD → Prop} {x2 : Int} {x3 : Int} {x4 : Int} (he : HS e)
    (h : ((x2 ≤ x4 → Q I D) ∧ (¬ (x2 ≤ x4) → RV 133 16 [vR (some 312), vJ, vI x2, vI x3, vI x4, vI x4, vI 0, vJ] [] e I D Q))) :
    RV 133 3 [vR (some 312), vJ, vI x2, vI x3, vI x4, vJ, vJ, vJ] [] e I D Q := by
  show Run 133 3 [vR (some 312), vJ, vI x2, vI x3, vI x4, vJ, vJ, vJ] [] (mk e I D) (pV e Q)
  refine R_iload (pc' := 5) rfl rfl rfl ?_
  refine R_iload_n (pc' := 6) rfl rfl rfl ?_
  refine R_icge (pc' := 9) rfl rfl (fun hc => ?_) (fun hc => ?_)
  · replace h := h.1 hc
    exact R_vret rfl rfl ⟨_, _, rfl, rfl, h⟩
  · replace h := h.2 hc
    refine R_iload (pc' := 11) rfl rfl rfl ?_
    refine R_istore (ls' := [vR (some 312), vJ, vI x2, vI x3, vI x4, vI x4, vJ, vJ]) (pc' := 13) rfl rfl rfl ?_
    refine R_iconst (pc' := 14) rfl rfl ?_
    refine R_istore (ls' := [vR (some 312), vJ, vI x2, vI x3, vI x4, vI x4, vI 0, vJ]) (pc' := 16) rfl rfl rfl ?_
    exact h
theorem S133_16 {e : En} {I : HI} {D : HD} {Q : HI → HD → Prop} {x2 : Int} {x3 : Int} {x4 : Int} {x5 : Int} {x6 : Int} (he : HS e)
    (h : (((I 312 42) ≤ x6 → RV 133 61 [vR (some 312), vJ, vI x2, vI x3, vI x4, vI x5, vJ, vJ] [] e I D Q) ∧ (¬ ((I 312 42) ≤ x6) → ((x3 = 0 → RV 133 61 [vR (some 312), vJ, vI x2, vI x3, vI x4, vI x5, vJ, vJ] [] e I D Q) ∧ (¬ (x3 = 0) → (0 ≤ x6 ∧ x6 < 700) ∧ ((¬ (I 336 (x6.toNat)) = x4 → RV 133 53 [vR (some 312), vJ, vI x2, vI x3, vI x4, vJ, vI x6, vJ] [vI x5] e I D Q) ∧ (¬ (¬ (I 336 (x6.toNat)) = x4) → (0 ≤ x6 ∧ x6 < 700) ∧ RV 133 53 [vR (some 312), vJ, vI x2, vI x3, vI x4, vJ, vI x6, vJ] [vI (I 337 (x6.toNat))] e I D Q))))))) :
    RV 133 16 [vR (some 312), vJ, vI x2, vI x3, vI x4, vI x5, vI x6, vJ] [] e I D Q := by
  show Run 133 16 [vR (some 312), vJ, vI x2, vI x3, vI x4, vI x5, vI x6, vJ] [] (mk e I D) (pV e Q)
  refine R_iload (pc' := 18) rfl rfl rfl ?_
  refine R_aload_n (pc' := 19) rfl rfl rfl ?_
  refine K_getI (pc' := 22) rfl rfl (by decide) rfl rfl ?_
  refine R_icge (pc' := 25) rfl rfl (fun hc => ?_) (fun hc => ?_)
  · replace h := h.1 hc
    exact R_forget (ls' := [vR (some 312), vJ, vI x2, vI x3, vI x4, vI x5, vJ, vJ]) ⟨Or.inl rfl, Or.inl rfl, Or.inl rfl, Or.inl rfl, Or.inl rfl, Or.inl rfl, Or.inr rfl, Or.inl rfl, trivial⟩ h
  · replace h := h.2 hc
    refine R_iload_n (pc' := 26) rfl rfl rfl ?_
    refine R_ifeq (pc' := 29) rfl rfl (fun hc => ?_) (fun hc => ?_)
    · replace h := h.1 hc
      exact R_forget (ls' := [vR (some 312), vJ, vI x2, vI x3, vI x4, vI x5, vJ, vJ]) ⟨Or.inl rfl, Or.inl rfl, Or.inl rfl, Or.inl rfl, Or.inl rfl, Or.inl rfl, Or.inr rfl, Or.inl rfl, trivial⟩ h
    · replace h := h.2 hc
      refine R_aload_n (pc' := 30) rfl rfl rfl ?_
      refine K_getR (pc' := 33) rfl rfl rfl rfl (st_at he rfl rfl (by decide)) ?_
      refine R_iload (pc' := 35) rfl rfl rfl ?_
      have g1 := h.1
      replace h := h.2
      refine K_iald (pc' := 36) rfl rfl rfl g1.1 g1.2 rfl ?_
      refine R_iload (pc' := 38) rfl rfl rfl ?_
      refine R_icne (pc' := 41) rfl rfl (fun hc => ?_) (fun hc => ?_)
      · replace h := h.1 hc
        refine R_iload (pc' := 53) rfl rfl rfl ?_
        exact R_forget (ls' := [vR (some 312), vJ, vI x2, vI x3, vI x4, vJ, vI x6, vJ]) ⟨Or.inl rfl, Or.inl rfl, Or.inl rfl, Or.inl rfl, Or.inl rfl, Or.inr rfl, Or.inl rfl, Or.inl rfl, trivial⟩ h
      · replace h := h.2 hc
        refine R_aload_n (pc' := 42) rfl rfl rfl ?_
        refine K_getR (pc' := 45) rfl rfl rfl rfl (st_at he rfl rfl (by decide)) ?_
        refine R_iload (pc' := 47) rfl rfl rfl ?_
        have g2 := h.1
        replace h := h.2
        refine K_iald (pc' := 48) rfl rfl rfl g2.1 g2.2 rfl ?_
        refine R_goto rfl ?_
        exact R_forget (ls' := [vR (some 312), vJ, vI x2, vI x3, vI x4, vJ, vI x6, vJ]) ⟨Or.inl rfl, Or.inl rfl, Or.inl rfl, Or.inl rfl, Or.inl rfl, Or.inr rfl, Or.inl rfl, Or.inl rfl, trivial⟩ h
theorem S133_53 {e : En} {I : HI} {D : HD} {Q : HI → HD → Prop} {x2 : Int} {x3 : Int} {x4 : Int} {x6 : Int} {y0 : Int} (he : HS e)
    (h : (-2147483648 ≤ (x6 + 1) ∧ (x6 + 1) < 2147483648) ∧ RV 133 16 [vR (some 312), vJ, vI x2, vI x3, vI x4, vI y0, vI (x6 + 1), vJ] [] e I D Q) :
    RV 133 53 [vR (some 312), vJ, vI x2, vI x3, vI x4, vJ, vI x6, vJ] [vI y0] e I D Q := by
  show Run 133 53 [vR (some 312), vJ, vI x2, vI x3, vI x4, vJ, vI x6, vJ] [vI y0] (mk e I D) (pV e Q)
  refine R_istore (ls' := [vR (some 312), vJ, vI x2, vI x3, vI x4, vI y0, vI x6, vJ]) (pc' := 55) rfl rfl rfl ?_
  have g1 := h.1
  replace h := h.2
  refine R_iinc (ls' := [vR (some 312), vJ, vI x2, vI x3, vI x4, vI y0, vI (x6 + 1), vJ]) (pc' := 58) rfl rfl rfl g1 rfl ?_
  refine R_goto rfl ?_
  exact h
theorem S133_61 {e : En} {I : HI} {D : HD} {Q : HI → HD → Prop} {x2 : Int} {x3 : Int} {x4 : Int} {x5 : Int} (he : HS e)
    (h : RV 133 68 [vR (some 312), vJ, vI x2, vI x3, vI x4, vI x5, vI x4, vI 0] [] e I D Q) :
    RV 133 61 [vR (some 312), vJ, vI x2, vI x3, vI x4, vI x5, vJ, vJ] [] e I D Q := by
  show Run 133 61 [vR (some 312), vJ, vI x2, vI x3, vI x4, vI x5, vJ, vJ] [] (mk e I D) (pV e Q)
  refine R_iload (pc' := 63) rfl rfl rfl ?_
  refine R_istore (ls' := [vR (some 312), vJ, vI x2, vI x3, vI x4, vI x5, vI x4, vJ]) (pc' := 65) rfl rfl rfl ?_
  refine R_iconst (pc' := 66) rfl rfl ?_
  refine R_istore (ls' := [vR (some 312), vJ, vI x2, vI x3, vI x4, vI x5, vI x4, vI 0]) (pc' := 68) rfl rfl rfl ?_
  exact h
theorem S133_68 {e : En} {I : HI} {D : HD} {Q : HI → HD → Prop} {x2 : Int} {x3 : Int} {x4 : Int} {x5 : Int} {x6 : Int} {x7 : Int} (he : HS e)
    (h : (((I 312 38) ≤ x7 → RV 133 130 [vR (some 312), vJ, vI x2, vI x3, vI x4, vI x5, vI x6, vJ] [] e I D Q) ∧ (¬ ((I 312 38) ≤ x7) → ((¬ x5 = x4 → RV 133 130 [vR (some 312), vJ, vI x2, vI x3, vI x4, vI x5, vI x6, vJ] [] e I D Q) ∧ (¬ (¬ x5 = x4) → (0 ≤ x7 ∧ x7 < 700) ∧ ((¬ (I 333 (x7.toNat)) = x4 → RV 133 120 [vR (some 312), vJ, vI x2, vI x3, vI x4, vI x5, vI x6, vI x7] [] e I D Q) ∧ (¬ (¬ (I 333 (x7.toNat)) = x4) → (0 ≤ x7 ∧ x7 < 700) ∧ CI 103 [vR (some 312), vI (I 335 (x7.toNat))] e I D (fun z3 I4 D5 => ((¬ z3 = 0 → RV 133 120 [vR (some 312), vJ, vI x2, vI x3, vI x4, vI x5, vI x6, vI x7] [] e I4 D5 Q) ∧ (¬ (¬ z3 = 0) → (0 ≤ x7 ∧ x7 < 700) ∧ RV 133 122 [vR (some 312), vJ, vI x2, vI x3, vI x4, vI x5, vJ, vI x7] [vI (I4 334 (x7.toNat))] e I4 D5 Q)))))))))) :
    RV 133 68 [vR (some 312), vJ, vI x2, vI x3, vI x4, vI x5, vI x6, vI x7] [] e I D Q := by
  show Run 133 68 [vR (some 312), vJ, vI x2, vI x3, vI x4, vI x5, vI x6, vI x7] [] (mk e I D) (pV e Q)
  refine R_iload (pc' := 70) rfl rfl rfl ?_
  refine R_aload_n (pc' := 71) rfl rfl rfl ?_
  refine K_getI (pc' := 74) rfl rfl (by decide) rfl rfl ?_
  refine R_icge (pc' := 77) rfl rfl (fun hc => ?_) (fun hc => ?_)
  · replace h := h.1 hc
    exact R_forget (ls' := [vR (some 312), vJ, vI x2, vI x3, vI x4, vI x5, vI x6, vJ]) ⟨Or.inl rfl, Or.inl rfl, Or.inl rfl, Or.inl rfl, Or.inl rfl, Or.inl rfl, Or.inl rfl, Or.inr rfl, trivial⟩ h
  · replace h := h.2 hc
    refine R_iload (pc' := 79) rfl rfl rfl ?_
    refine R_iload (pc' := 81) rfl rfl rfl ?_
    refine R_icne (pc' := 84) rfl rfl (fun hc => ?_) (fun hc => ?_)
    · replace h := h.1 hc
      exact R_forget (ls' := [vR (some 312), vJ, vI x2, vI x3, vI x4, vI x5, vI x6, vJ]) ⟨Or.inl rfl, Or.inl rfl, Or.inl rfl, Or.inl rfl, Or.inl rfl, Or.inl rfl, Or.inl rfl, Or.inr rfl, trivial⟩ h
    · replace h := h.2 hc
      refine R_aload_n (pc' := 85) rfl rfl rfl ?_
      refine K_getR (pc' := 88) rfl rfl rfl rfl (st_at he rfl rfl (by decide)) ?_
      refine R_iload (pc' := 90) rfl rfl rfl ?_
      have g1 := h.1
      replace h := h.2
      refine K_iald (pc' := 91) rfl rfl rfl g1.1 g1.2 rfl ?_
      refine R_iload (pc' := 93) rfl rfl rfl ?_
      refine R_icne (pc' := 96) rfl rfl (fun hc => ?_) (fun hc => ?_)
      · replace h := h.1 hc
        exact h
      · replace h := h.2 hc
        refine R_aload_n (pc' := 97) rfl rfl rfl ?_
        refine R_aload_n (pc' := 98) rfl rfl rfl ?_
        refine K_getR (pc' := 101) rfl rfl rfl rfl (st_at he rfl rfl (by decide)) ?_
        refine R_iload (pc' := 103) rfl rfl rfl ?_
        have g2 := h.1
        replace h := h.2
        refine K_iald (pc' := 104) rfl rfl rfl g2.1 g2.2 rfl ?_
        refine KI_iv (as := [vI (I 335 (x7.toNat))]) (rest := []) (pc' := 107) rfl rfl rfl rfl rfl (Nat.le_of_ble_eq_true rfl) rfl (CI_mono h ?_)
        intro z3 I4 D5 h
        refine R_ifne (pc' := 110) rfl rfl (fun hc => ?_) (fun hc => ?_)
        · replace h := h.1 hc
          exact h
        · replace h := h.2 hc
          refine R_aload_n (pc' := 111) rfl rfl rfl ?_
          refine K_getR (pc' := 114) rfl rfl rfl rfl (st_at he rfl rfl (by decide)) ?_
          refine R_iload (pc' := 116) rfl rfl rfl ?_
          have g6 := h.1
          replace h := h.2
          refine K_iald (pc' := 117) rfl rfl rfl g6.1 g6.2 rfl ?_
          refine R_goto rfl ?_
          exact R_forget (ls' := [vR (some 312), vJ, vI x2, vI x3, vI x4, vI x5, vJ, vI x7]) ⟨Or.inl rfl, Or.inl rfl, Or.inl rfl, Or.inl rfl, Or.inl rfl, Or.inl rfl, Or.inr rfl, Or.inl rfl, trivial⟩ h
theorem S133_120 {e : En} {I : HI} {D : HD} {Q : HI → HD → Prop} {x2 : Int} {x3 : Int} {x4 : Int} {x5 : Int} {x6 : Int} {x7 : Int} (he : HS e)
    (h : RV 133 122 [vR (some 312), vJ, vI x2, vI x3, vI x4, vI x5, vJ, vI x7] [vI x6] e I D Q) :
    RV 133 120 [vR (some 312), vJ, vI x2, vI x3, vI x4, vI x5, vI x6, vI x7] [] e I D Q := by
  show Run 133 120 [vR (some 312), vJ, vI x2, vI x3, vI x4, vI x5, vI x6, vI x7] [] (mk e I D) (pV e Q)
  refine R_iload (pc' := 122) rfl rfl rfl ?_
  exact R_forget (ls' := [vR (some 312), vJ, vI x2, vI x3, vI x4, vI x5, vJ, vI x7]) ⟨Or.inl rfl, Or.inl rfl, Or.inl rfl, Or.inl rfl, Or.inl rfl, Or.inl rfl, Or.inr rfl, Or.inl rfl, trivial⟩ h
theorem S133_122 {e : En} {I : HI} {D : HD} {Q : HI → HD → Prop} {x2 : Int} {x3 : Int} {x4 : Int} {x5 : Int} {x7 : Int} {y0 : Int} (he : HS e)
    (h : (-2147483648 ≤ (x7 + 1) ∧ (x7 + 1) < 2147483648) ∧ RV 133 68 [vR (some 312), vJ, vI x2, vI x3, vI x4, vI x5, vI y0, vI (x7 + 1)] [] e I D Q) :
    RV 133 122 [vR (some 312), vJ, vI x2, vI x3, vI x4, vI x5, vJ, vI x7] [vI y0] e I D Q := by
  show Run 133 122 [vR (some 312), vJ, vI x2, vI x3, vI x4, vI x5, vJ, vI x7] [vI y0] (mk e I D) (pV e Q)
  refine R_istore (ls' := [vR (some 312), vJ, vI x2, vI x3, vI x4, vI x5, vI y0, vI x7]) (pc' := 124) rfl rfl rfl ?_
  have g1 := h.1
  replace h := h.2
  refine R_iinc (ls' := [vR (some 312), vJ, vI x2, vI x3, vI x4, vI x5, vI y0, vI (x7 + 1)]) (pc' := 127) rfl rfl rfl g1 rfl ?_
  refine R_goto rfl ?_
  exact h
theorem S133_130 {e : En} {I : HI} {D : HD} {Q : HI → HD → Prop} {x2 : Int} {x3 : Int} {x4 : Int} {x5 : Int} {x6 : Int} (he : HS e)
    (h : ((x5 ≤ x4 → ((x6 ≤ x4 → CI 88 [vR (some 312), vI x4] e I D (fun z1 I2 D3 => CV 130 [vR (some 312), vI z1] e I2 D3 (fun I5 D6 => (-2147483648 ≤ (x4 + 1) ∧ (x4 + 1) < 2147483648) ∧ RV 133 178 [vR (some 312), vJ, vI x2, vI x3, vI (x4 + 1), vJ, vJ, vJ] [] e I5 D6 Q))) ∧ (¬ (x6 ≤ x4) → CV 131 [vR (some 312), vL 1819047278] e I D (fun I9 D10 => RV 133 178 [vR (some 312), vJ, vI x2, vI x3, vI x6, vJ, vJ, vJ] [] e I9 D10 Q)))) ∧ (¬ (x5 ≤ x4) → RV 133 178 [vR (some 312), vJ, vI x2, vI x3, vI x5, vJ, vJ, vJ] [] e I D Q))) :
    RV 133 130 [vR (some 312), vJ, vI x2, vI x3, vI x4, vI x5, vI x6, vJ] [] e I D Q := by
  show Run 133 130 [vR (some 312), vJ, vI x2, vI x3, vI x4, vI x5, vI x6, vJ] [] (mk e I D) (pV e Q)
  refine R_iload (pc' := 132) rfl rfl rfl ?_
  refine R_iload (pc' := 134) rfl rfl rfl ?_
  refine R_icle (pc' := 137) rfl rfl (fun hc => ?_) (fun hc => ?_)
  · replace h := h.1 hc
    refine R_iload (pc' := 146) rfl rfl rfl ?_
    refine R_iload (pc' := 148) rfl rfl rfl ?_
    refine R_icle (pc' := 151) rfl rfl (fun hc => ?_) (fun hc => ?_)
    · replace h := h.1 hc
      refine R_aload_n (pc' := 166) rfl rfl rfl ?_
      refine R_aload_n (pc' := 167) rfl rfl rfl ?_
      refine R_iload (pc' := 169) rfl rfl rfl ?_
      refine KI_iv (as := [vI x4]) (rest := [vR (some 312)]) (pc' := 172) rfl rfl rfl rfl rfl (Nat.le_of_ble_eq_true rfl) rfl (CI_mono h ?_)
      intro z1 I2 D3 h
      refine KV_iv (as := [vI z1]) (rest := []) (pc' := 175) rfl rfl rfl rfl rfl (Nat.le_of_ble_eq_true rfl) rfl (CV_mono h ?_)
      intro I5 D6 h
      have g7 := h.1
      replace h := h.2
      refine R_iinc (ls' := [vR (some 312), vJ, vI x2, vI x3, vI (x4 + 1), vI x5, vI x6, vJ]) (pc' := 178) rfl rfl rfl g7 rfl ?_
      exact R_forget (ls' := [vR (some 312), vJ, vI x2, vI x3, vI (x4 + 1), vJ, vJ, vJ]) ⟨Or.inl rfl, Or.inl rfl, Or.inl rfl, Or.inl rfl, Or.inl rfl, Or.inr rfl, Or.inr rfl, Or.inl rfl, trivial⟩ h
    · replace h := h.2 hc
      refine R_aload_n (pc' := 152) rfl rfl rfl ?_
      refine R_ldc2 (pc' := 155) rfl rfl ?_
      refine KV_iv (as := [vL 1819047278]) (rest := []) (pc' := 158) rfl rfl rfl rfl rfl (Nat.le_of_ble_eq_true rfl) rfl (CV_mono h ?_)
      intro I9 D10 h
      refine R_iload (pc' := 160) rfl rfl rfl ?_
      refine R_istore (ls' := [vR (some 312), vJ, vI x2, vI x3, vI x6, vI x5, vI x6, vJ]) (pc' := 162) rfl rfl rfl ?_
      refine R_goto rfl ?_
      exact R_forget (ls' := [vR (some 312), vJ, vI x2, vI x3, vI x6, vJ, vJ, vJ]) ⟨Or.inl rfl, Or.inl rfl, Or.inl rfl, Or.inl rfl, Or.inl rfl, Or.inr rfl, Or.inr rfl, Or.inl rfl, trivial⟩ h
  · replace h := h.2 hc
    refine R_iload (pc' := 139) rfl rfl rfl ?_
    refine R_istore (ls' := [vR (some 312), vJ, vI x2, vI x3, vI x5, vI x5, vI x6, vJ]) (pc' := 141) rfl rfl rfl ?_
    refine R_goto rfl ?_
    exact R_forget (ls' := [vR (some 312), vJ, vI x2, vI x3, vI x5, vJ, vJ, vJ]) ⟨Or.inl rfl, Or.inl rfl, Or.inl rfl, Or.inl rfl, Or.inl rfl, Or.inr rfl, Or.inr rfl, Or.inl rfl, trivial⟩ h
theorem S133_178 {e : En} {I : HI} {D : HD} {Q : HI → HD → Prop} {x2 : Int} {x3 : Int} {x4 : Int} (he : HS e)
    (h : RV 133 3 [vR (some 312), vJ, vI x2, vI x3, vI x4, vJ, vJ, vJ] [] e I D Q) :
    RV 133 178 [vR (some 312), vJ, vI x2, vI x3, vI x4, vJ, vJ, vJ] [] e I D Q := by
  show Run 133 178 [vR (some 312), vJ, vI x2, vI x3, vI x4, vJ, vJ, vJ] [] (mk e I D) (pV e Q)
  refine R_goto rfl ?_
  exact h
/-! 134 X9_putObject -/
theorem S134 {e : En} {I : HI} {D : HD} {Q : HI → HD → Prop} {x1 : Int} (he : HS e)
    (h : CV 132 [vR (some 312), vI x1] e I D (fun I2 D3 => CV 131 [vR (some 312), vL 116971003719712] e I2 D3 (fun I5 D6 => CV 130 [vR (some 312), vI 10] e I5 D6 (fun I8 D9 => CV 104 [vR (some 312), vI x1, vL 0, vI 0] e I8 D9 (fun I11 D12 => (0 ≤ x1 ∧ x1 < 122) ∧ (((0 : Int) ≤ (I11 321 (x1.toNat)) → CV 131 [vR (some 312), vL 111377882561596] e I11 D12 (fun I15 D16 => CV 131 [vR (some 312), vL 139191412590] e I15 D16 (fun I18 D19 => (0 ≤ x1 ∧ x1 < 122) ∧ (0 ≤ x1 ∧ x1 < 122) ∧ (-2147483648 ≤ ((I18 322 (x1.toNat)) - (I18 321 (x1.toNat))) ∧ ((I18 322 (x1.toNat)) - (I18 321 (x1.toNat))) < 2147483648) ∧ CV 132 [vR (some 312), vI ((I18 322 (x1.toNat)) - (I18 321 (x1.toNat)))] e I18 D19 (fun I24 D25 => CV 130 [vR (some 312), vI 32] e I24 D25 (fun I27 D28 => CV 133 [vR (some 312), vI (I27 312 36), vI (I27 312 37), vI 1] e I27 D28 (fun I30 D31 => CV 131 [vR (some 312), vL 30787860801286944] e I30 D31 (fun I33 D34 => CV 130 [vR (some 312), vI 10] e I33 D34 (fun I36 D37 => (0 ≤ x1 ∧ x1 < 122) ∧ RV 134 172 [vR (some 312), vI x1, vI (I36 321 (x1.toNat)), vJ] [] e I36 D37 Q)))))))) ∧ (¬ ((0 : Int) ≤ (I11 321 (x1.toNat))) → (0 ≤ x1 ∧ x1 < 122) ∧ (0 ≤ x1 ∧ x1 < 122) ∧ RV 134 48 [vR (some 312), vJ, vI (I11 318 (x1.toNat)), vI (I11 319 (x1.toNat))] [] e I11 D12 Q))))))) :
    CV 134 [vR (some 312), vI x1] e I D Q := by
  refine Call_run (ls := [vR (some 312), vI x1, vJ, vJ]) rfl rfl ?_
  refine R_aload_n (pc' := 1) rfl rfl rfl ?_
  refine R_iload_n (pc' := 2) rfl rfl rfl ?_
  refine KV_iv (as := [vI x1]) (rest := []) (pc' := 5) rfl rfl rfl rfl rfl (Nat.le_of_ble_eq_true rfl) rfl (CV_mono h ?_)
  intro I2 D3 h
  refine R_aload_n (pc' := 6) rfl rfl rfl ?_
  refine R_ldc2 (pc' := 9) rfl rfl ?_
  refine KV_iv (as := [vL 116971003719712]) (rest := []) (pc' := 12) rfl rfl rfl rfl rfl (Nat.le_of_ble_eq_true rfl) rfl (CV_mono h ?_)
  intro I5 D6 h
  refine R_aload_n (pc' := 13) rfl rfl rfl ?_
  refine R_bipush (pc' := 15) rfl rfl ?_
  refine KV_iv (as := [vI 10]) (rest := []) (pc' := 18) rfl rfl rfl rfl rfl (Nat.le_of_ble_eq_true rfl) rfl (CV_mono h ?_)
  intro I8 D9 h
  refine R_aload_n (pc' := 19) rfl rfl rfl ?_
  refine R_iload_n (pc' := 20) rfl rfl rfl ?_
  refine R_lconst (pc' := 21) rfl rfl ?_
  refine R_iconst (pc' := 22) rfl rfl ?_
  refine KV_iv (as := [vI x1, vL 0, vI 0]) (rest := []) (pc' := 25) rfl rfl rfl rfl rfl (Nat.le_of_ble_eq_true rfl) rfl (CV_mono h ?_)
  intro I11 D12 h
  refine R_aload_n (pc' := 26) rfl rfl rfl ?_
  refine K_getR (pc' := 29) rfl rfl rfl rfl (st_at he rfl rfl (by decide)) ?_
  refine R_iload_n (pc' := 30) rfl rfl rfl ?_
  have g13 := h.1
  replace h := h.2
  refine K_iald (pc' := 31) rfl rfl rfl g13.1 g13.2 rfl ?_
  refine R_ifge (pc' := 34) rfl rfl (fun hc => ?_) (fun hc => ?_)
  · replace h := h.1 hc
    refine R_aload_n (pc' := 103) rfl rfl rfl ?_
    refine R_ldc2 (pc' := 106) rfl rfl ?_
    refine KV_iv (as := [vL 111377882561596]) (rest := []) (pc' := 109) rfl rfl rfl rfl rfl (Nat.le_of_ble_eq_true rfl) rfl (CV_mono h ?_)
    intro I15 D16 h
    refine R_aload_n (pc' := 110) rfl rfl rfl ?_
    refine R_ldc2 (pc' := 113) rfl rfl ?_
    refine KV_iv (as := [vL 139191412590]) (rest := []) (pc' := 116) rfl rfl rfl rfl rfl (Nat.le_of_ble_eq_true rfl) rfl (CV_mono h ?_)
    intro I18 D19 h
    refine R_aload_n (pc' := 117) rfl rfl rfl ?_
    refine R_aload_n (pc' := 118) rfl rfl rfl ?_
    refine K_getR (pc' := 121) rfl rfl rfl rfl (st_at he rfl rfl (by decide)) ?_
    refine R_iload_n (pc' := 122) rfl rfl rfl ?_
    have g20 := h.1
    replace h := h.2
    refine K_iald (pc' := 123) rfl rfl rfl g20.1 g20.2 rfl ?_
    refine R_aload_n (pc' := 124) rfl rfl rfl ?_
    refine K_getR (pc' := 127) rfl rfl rfl rfl (st_at he rfl rfl (by decide)) ?_
    refine R_iload_n (pc' := 128) rfl rfl rfl ?_
    have g21 := h.1
    replace h := h.2
    refine K_iald (pc' := 129) rfl rfl rfl g21.1 g21.2 rfl ?_
    have g22 := h.1
    replace h := h.2
    refine R_isub (pc' := 130) rfl rfl g22 ?_
    refine KV_iv (as := [vI ((I18 322 (x1.toNat)) - (I18 321 (x1.toNat)))]) (rest := []) (pc' := 133) rfl rfl rfl rfl rfl (Nat.le_of_ble_eq_true rfl) rfl (CV_mono h ?_)
    intro I24 D25 h
    refine R_aload_n (pc' := 134) rfl rfl rfl ?_
    refine R_bipush (pc' := 136) rfl rfl ?_
    refine KV_iv (as := [vI 32]) (rest := []) (pc' := 139) rfl rfl rfl rfl rfl (Nat.le_of_ble_eq_true rfl) rfl (CV_mono h ?_)
    intro I27 D28 h
    refine R_aload_n (pc' := 140) rfl rfl rfl ?_
    refine R_aload_n (pc' := 141) rfl rfl rfl ?_
    refine K_getI (pc' := 144) rfl rfl (by decide) rfl rfl ?_
    refine R_aload_n (pc' := 145) rfl rfl rfl ?_
    refine K_getI (pc' := 148) rfl rfl (by decide) rfl rfl ?_
    refine R_iconst (pc' := 149) rfl rfl ?_
    refine KV_iv (as := [vI (I27 312 36), vI (I27 312 37), vI 1]) (rest := []) (pc' := 152) rfl rfl rfl rfl rfl (Nat.le_of_ble_eq_true rfl) rfl (CV_mono h ?_)
    intro I30 D31 h
    refine R_aload_n (pc' := 153) rfl rfl rfl ?_
    refine R_ldc2 (pc' := 156) rfl rfl ?_
    refine KV_iv (as := [vL 30787860801286944]) (rest := []) (pc' := 159) rfl rfl rfl rfl rfl (Nat.le_of_ble_eq_true rfl) rfl (CV_mono h ?_)
    intro I33 D34 h
    refine R_aload_n (pc' := 160) rfl rfl rfl ?_
    refine R_bipush (pc' := 162) rfl rfl ?_
    refine KV_iv (as := [vI 10]) (rest := []) (pc' := 165) rfl rfl rfl rfl rfl (Nat.le_of_ble_eq_true rfl) rfl (CV_mono h ?_)
    intro I36 D37 h
    refine R_aload_n (pc' := 166) rfl rfl rfl ?_
    refine K_getR (pc' := 169) rfl rfl rfl rfl (st_at he rfl rfl (by decide)) ?_
    refine R_iload_n (pc' := 170) rfl rfl rfl ?_
    have g38 := h.1
    replace h := h.2
    refine K_iald (pc' := 171) rfl rfl rfl g38.1 g38.2 rfl ?_
    refine R_istore_n (ls' := [vR (some 312), vI x1, vI (I36 321 (x1.toNat)), vJ]) (pc' := 172) rfl rfl rfl ?_
    exact h
  · replace h := h.2 hc
    refine R_aload_n (pc' := 35) rfl rfl rfl ?_
    refine K_getR (pc' := 38) rfl rfl rfl rfl (st_at he rfl rfl (by decide)) ?_
    refine R_iload_n (pc' := 39) rfl rfl rfl ?_
    have g39 := h.1
    replace h := h.2
    refine K_iald (pc' := 40) rfl rfl rfl g39.1 g39.2 rfl ?_
    refine R_istore_n (ls' := [vR (some 312), vI x1, vI (I11 318 (x1.toNat)), vJ]) (pc' := 41) rfl rfl rfl ?_
    refine R_aload_n (pc' := 42) rfl rfl rfl ?_
    refine K_getR (pc' := 45) rfl rfl rfl rfl (st_at he rfl rfl (by decide)) ?_
    refine R_iload_n (pc' := 46) rfl rfl rfl ?_
    have g40 := h.1
    replace h := h.2
    refine K_iald (pc' := 47) rfl rfl rfl g40.1 g40.2 rfl ?_
    refine R_istore_n (ls' := [vR (some 312), vI x1, vI (I11 318 (x1.toNat)), vI (I11 319 (x1.toNat))]) (pc' := 48) rfl rfl rfl ?_
    exact R_forget (ls' := [vR (some 312), vJ, vI (I11 318 (x1.toNat)), vI (I11 319 (x1.toNat))]) ⟨Or.inl rfl, Or.inr rfl, Or.inl rfl, Or.inl rfl, trivial⟩ h
theorem S134_48 {e : En} {I : HI} {D : HD} {Q : HI → HD → Prop} {x2 : Int} {x3 : Int} (he : HS e)
    (h : ((x3 ≤ x2 → RV 134 69 [vR (some 312), vJ, vI x2, vI x3] [] e I D Q) ∧ (¬ (x3 ≤ x2) → CI 88 [vR (some 312), vI x2] e I D (fun z1 I2 D3 => (((32 : Int) < z1 → RV 134 69 [vR (some 312), vJ, vI x2, vI x3] [] e I2 D3 Q) ∧ (¬ ((32 : Int) < z1) → (-2147483648 ≤ (x2 + 1) ∧ (x2 + 1) < 2147483648) ∧ RV 134 48 [vR (some 312), vJ, vI (x2 + 1), vI x3] [] e I2 D3 Q)))))) :
    RV 134 48 [vR (some 312), vJ, vI x2, vI x3] [] e I D Q := by
  show Run 134 48 [vR (some 312), vJ, vI x2, vI x3] [] (mk e I D) (pV e Q)
  refine R_iload_n (pc' := 49) rfl rfl rfl ?_
  refine R_iload_n (pc' := 50) rfl rfl rfl ?_
  refine R_icge (pc' := 53) rfl rfl (fun hc => ?_) (fun hc => ?_)
  · replace h := h.1 hc
    exact h
  · replace h := h.2 hc
    refine R_aload_n (pc' := 54) rfl rfl rfl ?_
    refine R_iload_n (pc' := 55) rfl rfl rfl ?_
    refine KI_iv (as := [vI x2]) (rest := []) (pc' := 58) rfl rfl rfl rfl rfl (Nat.le_of_ble_eq_true rfl) rfl (CI_mono h ?_)
    intro z1 I2 D3 h
    refine R_bipush (pc' := 60) rfl rfl ?_
    refine R_icgt (pc' := 63) rfl rfl (fun hc => ?_) (fun hc => ?_)
    · replace h := h.1 hc
      exact h
    · replace h := h.2 hc
      have g4 := h.1
      replace h := h.2
      refine R_iinc (ls' := [vR (some 312), vJ, vI (x2 + 1), vI x3]) (pc' := 66) rfl rfl rfl g4 rfl ?_
      refine R_goto rfl ?_
      exact h
theorem S134_69 {e : En} {I : HI} {D : HD} {Q : HI → HD → Prop} {x2 : Int} {x3 : Int} (he : HS e)
    (h : ((x3 ≤ x2 → RV 134 92 [vR (some 312), vJ, vI x2, vI x3] [] e I D Q) ∧ (¬ (x3 ≤ x2) → (-2147483648 ≤ (x3 - 1) ∧ (x3 - 1) < 2147483648) ∧ CI 88 [vR (some 312), vI (x3 - 1)] e I D (fun z2 I3 D4 => (((32 : Int) < z2 → RV 134 92 [vR (some 312), vJ, vI x2, vI x3] [] e I3 D4 Q) ∧ (¬ ((32 : Int) < z2) → (-2147483648 ≤ (x3 + (-1)) ∧ (x3 + (-1)) < 2147483648) ∧ RV 134 69 [vR (some 312), vJ, vI x2, vI (x3 + (-1))] [] e I3 D4 Q)))))) :
    RV 134 69 [vR (some 312), vJ, vI x2, vI x3] [] e I D Q := by
  show Run 134 69 [vR (some 312), vJ, vI x2, vI x3] [] (mk e I D) (pV e Q)
  refine R_iload_n (pc' := 70) rfl rfl rfl ?_
  refine R_iload_n (pc' := 71) rfl rfl rfl ?_
  refine R_icle (pc' := 74) rfl rfl (fun hc => ?_) (fun hc => ?_)
  · replace h := h.1 hc
    exact h
  · replace h := h.2 hc
    refine R_aload_n (pc' := 75) rfl rfl rfl ?_
    refine R_iload_n (pc' := 76) rfl rfl rfl ?_
    refine R_iconst (pc' := 77) rfl rfl ?_
    have g1 := h.1
    replace h := h.2
    refine R_isub (pc' := 78) rfl rfl g1 ?_
    refine KI_iv (as := [vI (x3 - 1)]) (rest := []) (pc' := 81) rfl rfl rfl rfl rfl (Nat.le_of_ble_eq_true rfl) rfl (CI_mono h ?_)
    intro z2 I3 D4 h
    refine R_bipush (pc' := 83) rfl rfl ?_
    refine R_icgt (pc' := 86) rfl rfl (fun hc => ?_) (fun hc => ?_)
    · replace h := h.1 hc
      exact h
    · replace h := h.2 hc
      have g5 := h.1
      replace h := h.2
      refine R_iinc (ls' := [vR (some 312), vJ, vI x2, vI (x3 + (-1))]) (pc' := 89) rfl rfl rfl g5 rfl ?_
      refine R_goto rfl ?_
      exact h
theorem S134_92 {e : En} {I : HI} {D : HD} {Q : HI → HD → Prop} {x2 : Int} {x3 : Int} (he : HS e)
    (h : CV 133 [vR (some 312), vI x2, vI x3, vI 0] e I D (fun I2 D3 => RV 134 217 [vR (some 312), vJ, vJ, vJ] [] e I2 D3 Q)) :
    RV 134 92 [vR (some 312), vJ, vI x2, vI x3] [] e I D Q := by
  show Run 134 92 [vR (some 312), vJ, vI x2, vI x3] [] (mk e I D) (pV e Q)
  refine R_aload_n (pc' := 93) rfl rfl rfl ?_
  refine R_iload_n (pc' := 94) rfl rfl rfl ?_
  refine R_iload_n (pc' := 95) rfl rfl rfl ?_
  refine R_iconst (pc' := 96) rfl rfl ?_
  refine KV_iv (as := [vI x2, vI x3, vI 0]) (rest := []) (pc' := 99) rfl rfl rfl rfl rfl (Nat.le_of_ble_eq_true rfl) rfl (CV_mono h ?_)
  intro I2 D3 h
  refine R_goto rfl ?_
  exact R_forget (ls' := [vR (some 312), vJ, vJ, vJ]) ⟨Or.inl rfl, Or.inl rfl, Or.inr rfl, Or.inr rfl, trivial⟩ h
theorem S134_172 {e : En} {I : HI} {D : HD} {Q : HI → HD → Prop} {x1 : Int} {x2 : Int} (he : HS e)
    (h : (0 ≤ x1 ∧ x1 < 122) ∧ (((I 322 (x1.toNat)) ≤ x2 → CV 130 [vR (some 312), vI 10] e I D (fun I3 D4 => CV 131 [vR (some 312), vL 500152168037] e I3 D4 (fun I6 D7 => CV 131 [vR (some 312), vL 1835099506] e I6 D7 (fun I9 D10 => RV 134 217 [vR (some 312), vJ, vJ, vJ] [] e I9 D10 Q)))) ∧ (¬ ((I 322 (x1.toNat)) ≤ x2) → CI 88 [vR (some 312), vI x2] e I D (fun z11 I12 D13 => CV 130 [vR (some 312), vI z11] e I12 D13 (fun I15 D16 => (-2147483648 ≤ (x2 + 1) ∧ (x2 + 1) < 2147483648) ∧ RV 134 172 [vR (some 312), vI x1, vI (x2 + 1), vJ] [] e I15 D16 Q))))) :
    RV 134 172 [vR (some 312), vI x1, vI x2, vJ] [] e I D Q := by
  show Run 134 172 [vR (some 312), vI x1, vI x2, vJ] [] (mk e I D) (pV e Q)
  refine R_iload_n (pc' := 173) rfl rfl rfl ?_
  refine R_aload_n (pc' := 174) rfl rfl rfl ?_
  refine K_getR (pc' := 177) rfl rfl rfl rfl (st_at he rfl rfl (by decide)) ?_
  refine R_iload_n (pc' := 178) rfl rfl rfl ?_
  have g1 := h.1
  replace h := h.2
  refine K_iald (pc' := 179) rfl rfl rfl g1.1 g1.2 rfl ?_
  refine R_icge (pc' := 182) rfl rfl (fun hc => ?_) (fun hc => ?_)
  · replace h := h.1 hc
    refine R_aload_n (pc' := 198) rfl rfl rfl ?_
    refine R_bipush (pc' := 200) rfl rfl ?_
    refine KV_iv (as := [vI 10]) (rest := []) (pc' := 203) rfl rfl rfl rfl rfl (Nat.le_of_ble_eq_true rfl) rfl (CV_mono h ?_)
    intro I3 D4 h
    refine R_aload_n (pc' := 204) rfl rfl rfl ?_
    refine R_ldc2 (pc' := 207) rfl rfl ?_
    refine KV_iv (as := [vL 500152168037]) (rest := []) (pc' := 210) rfl rfl rfl rfl rfl (Nat.le_of_ble_eq_true rfl) rfl (CV_mono h ?_)
    intro I6 D7 h
    refine R_aload_n (pc' := 211) rfl rfl rfl ?_
    refine R_ldc2 (pc' := 214) rfl rfl ?_
    refine KV_iv (as := [vL 1835099506]) (rest := []) (pc' := 217) rfl rfl rfl rfl rfl (Nat.le_of_ble_eq_true rfl) rfl (CV_mono h ?_)
    intro I9 D10 h
    exact R_forget (ls' := [vR (some 312), vJ, vJ, vJ]) ⟨Or.inl rfl, Or.inr rfl, Or.inr rfl, Or.inl rfl, trivial⟩ h
  · replace h := h.2 hc
    refine R_aload_n (pc' := 183) rfl rfl rfl ?_
    refine R_aload_n (pc' := 184) rfl rfl rfl ?_
    refine R_iload_n (pc' := 185) rfl rfl rfl ?_
    refine KI_iv (as := [vI x2]) (rest := [vR (some 312)]) (pc' := 188) rfl rfl rfl rfl rfl (Nat.le_of_ble_eq_true rfl) rfl (CI_mono h ?_)
    intro z11 I12 D13 h
    refine KV_iv (as := [vI z11]) (rest := []) (pc' := 191) rfl rfl rfl rfl rfl (Nat.le_of_ble_eq_true rfl) rfl (CV_mono h ?_)
    intro I15 D16 h
    have g17 := h.1
    replace h := h.2
    refine R_iinc (ls' := [vR (some 312), vI x1, vI (x2 + 1), vJ]) (pc' := 194) rfl rfl rfl g17 rfl ?_
    refine R_goto rfl ?_
    exact h
theorem S134_217 {e : En} {I : HI} {D : HD} {Q : HI → HD → Prop} (he : HS e)
    (h : CV 130 [vR (some 312), vI 10] e I D (fun I2 D3 => CV 131 [vR (some 312), vL 116971008192101] e I2 D3 (fun I5 D6 => CV 130 [vR (some 312), vI 10] e I5 D6 (fun I8 D9 => Q I8 D9)))) :
    RV 134 217 [vR (some 312), vJ, vJ, vJ] [] e I D Q := by
  show Run 134 217 [vR (some 312), vJ, vJ, vJ] [] (mk e I D) (pV e Q)
  refine R_aload_n (pc' := 218) rfl rfl rfl ?_
  refine R_bipush (pc' := 220) rfl rfl ?_
  refine KV_iv (as := [vI 10]) (rest := []) (pc' := 223) rfl rfl rfl rfl rfl (Nat.le_of_ble_eq_true rfl) rfl (CV_mono h ?_)
  intro I2 D3 h
  refine R_aload_n (pc' := 224) rfl rfl rfl ?_
  refine R_ldc2 (pc' := 227) rfl rfl ?_
  refine KV_iv (as := [vL 116971008192101]) (rest := []) (pc' := 230) rfl rfl rfl rfl rfl (Nat.le_of_ble_eq_true rfl) rfl (CV_mono h ?_)
  intro I5 D6 h
  refine R_aload_n (pc' := 231) rfl rfl rfl ?_
  refine R_bipush (pc' := 233) rfl rfl ?_
  refine KV_iv (as := [vI 10]) (rest := []) (pc' := 236) rfl rfl rfl rfl rfl (Nat.le_of_ble_eq_true rfl) rfl (CV_mono h ?_)
  intro I8 D9 h
  exact R_vret rfl rfl ⟨_, _, rfl, rfl, h⟩
/-! 135 X9_again -/
theorem S135 {e : En} {I : HI} {D : HD} {Q : Int → HI → HD → Prop} (he : HS e)
    (h : ((¬ (I 312 3) = 0 → CV 131 [vR (some 312), vL 675877] e (uI (uI (uI I 312 0 0) 312 4 0) 312 54 0) D (fun I2 D3 => RI 135 33 [vR (some 312), vI 1] [] e I2 D3 Q)) ∧ (¬ (¬ (I 312 3) = 0) → Q 0 (uI (uI (uI I 312 0 0) 312 4 0) 312 54 0) D))) :
    CI 135 [vR (some 312)] e I D Q := by
  refine Call_run (ls := [vR (some 312), vJ]) rfl rfl ?_
  refine R_aload_n (pc' := 1) rfl rfl rfl ?_
  refine R_iconst (pc' := 2) rfl rfl ?_
  refine K_putI (pc' := 5) rfl rfl (by decide) (fun h => absurd h (by decide)) rfl ?_
  refine R_aload_n (pc' := 6) rfl rfl rfl ?_
  refine R_iconst (pc' := 7) rfl rfl ?_
  refine K_putI (pc' := 10) rfl rfl (by decide) (fun h => absurd h (by decide)) rfl ?_
  refine R_aload_n (pc' := 11) rfl rfl rfl ?_
  refine R_iconst (pc' := 12) rfl rfl ?_
  refine K_putI (pc' := 15) rfl rfl (by decide) (fun h => absurd h (by decide)) rfl ?_
  refine R_aload_n (pc' := 16) rfl rfl rfl ?_
  refine K_getI (pc' := 19) rfl rfl (by decide) rfl rfl ?_
  refine R_ifne (pc' := 22) rfl rfl (fun hc => ?_) (fun hc => ?_)
  · replace h := h.1 hc
    refine R_aload_n (pc' := 25) rfl rfl rfl ?_
    refine R_ldc2 (pc' := 28) rfl rfl ?_
    refine KV_iv (as := [vL 675877]) (rest := []) (pc' := 31) rfl rfl rfl rfl rfl (Nat.le_of_ble_eq_true rfl) rfl (CV_mono h ?_)
    intro I2 D3 h
    refine R_iconst (pc' := 32) rfl rfl ?_
    refine R_istore_n (ls' := [vR (some 312), vI 1]) (pc' := 33) rfl rfl rfl ?_
    exact h
  · replace h := h.2 hc
    refine R_iconst (pc' := 23) rfl rfl ?_
    exact R_iret rfl rfl ⟨_, _, _, rfl, rfl, h⟩
theorem S135_33 {e : En} {I : HI} {D : HD} {Q : Int → HI → HD → Prop} {x1 : Int} (he : HS e)
    (h : (((61 : Int) ≤ x1 → (((I 330 0) ≤ 0 → RI 135 112 [vR (some 312), vJ] [] e I D Q) ∧ (¬ ((I 330 0) ≤ 0) → CV 131 [vR (some 312), vL 111516298867316] e I D (fun I2 D3 => CV 131 [vR (some 312), vL 51815496032370] e I2 D3 (fun I5 D6 => CV 131 [vR (some 312), vL 139392413522] e I5 D6 (fun I8 D9 => CV 132 [vR (some 312), vI (I8 330 0)] e I8 D9 (fun I11 D12 => CV 131 [vR (some 312), vL 17519757093777440] e I11 D12 (fun I14 D15 => CV 130 [vR (some 312), vI 10] e I14 D15 (fun I17 D18 => RI 135 112 [vR (some 312), vJ] [] e I17 D18 Q))))))))) ∧ (¬ ((61 : Int) ≤ x1) → (0 ≤ x1 ∧ x1 < 122) ∧ (((I 316 (x1.toNat)) = 0 → RI 135 53 [vR (some 312), vI x1] [] e I D Q) ∧ (¬ ((I 316 (x1.toNat)) = 0) → CV 134 [vR (some 312), vI x1] e I D (fun I21 D22 => RI 135 53 [vR (some 312), vI x1] [] e I21 D22 Q)))))) :
    RI 135 33 [vR (some 312), vI x1] [] e I D Q := by
  show Run 135 33 [vR (some 312), vI x1] [] (mk e I D) (pI e Q)
  refine R_iload_n (pc' := 34) rfl rfl rfl ?_
  refine R_bipush (pc' := 36) rfl rfl ?_
  refine R_icge (pc' := 39) rfl rfl (fun hc => ?_) (fun hc => ?_)
  · replace h := h.1 hc
    refine R_aload_n (pc' := 60) rfl rfl rfl ?_
    refine K_getR (pc' := 63) rfl rfl rfl rfl (st_at he rfl rfl (by decide)) ?_
    refine R_iconst (pc' := 64) rfl rfl ?_
    refine K_iald (pc' := 65) rfl rfl rfl (by decide) (by decide) rfl ?_
    refine R_ifle (pc' := 68) rfl rfl (fun hc => ?_) (fun hc => ?_)
    · replace h := h.1 hc
      exact R_forget (ls' := [vR (some 312), vJ]) ⟨Or.inl rfl, Or.inr rfl, trivial⟩ h
    · replace h := h.2 hc
      refine R_aload_n (pc' := 69) rfl rfl rfl ?_
      refine R_ldc2 (pc' := 72) rfl rfl ?_
      refine KV_iv (as := [vL 111516298867316]) (rest := []) (pc' := 75) rfl rfl rfl rfl rfl (Nat.le_of_ble_eq_true rfl) rfl (CV_mono h ?_)
      intro I2 D3 h
      refine R_aload_n (pc' := 76) rfl rfl rfl ?_
      refine R_ldc2 (pc' := 79) rfl rfl ?_
      refine KV_iv (as := [vL 51815496032370]) (rest := []) (pc' := 82) rfl rfl rfl rfl rfl (Nat.le_of_ble_eq_true rfl) rfl (CV_mono h ?_)
      intro I5 D6 h
      refine R_aload_n (pc' := 83) rfl rfl rfl ?_
      refine R_ldc2 (pc' := 86) rfl rfl ?_
      refine KV_iv (as := [vL 139392413522]) (rest := []) (pc' := 89) rfl rfl rfl rfl rfl (Nat.le_of_ble_eq_true rfl) rfl (CV_mono h ?_)
      intro I8 D9 h
      refine R_aload_n (pc' := 90) rfl rfl rfl ?_
      refine R_aload_n (pc' := 91) rfl rfl rfl ?_
      refine K_getR (pc' := 94) rfl rfl rfl rfl (st_at he rfl rfl (by decide)) ?_
      refine R_iconst (pc' := 95) rfl rfl ?_
      refine K_iald (pc' := 96) rfl rfl rfl (by decide) (by decide) rfl ?_
      refine KV_iv (as := [vI (I8 330 0)]) (rest := []) (pc' := 99) rfl rfl rfl rfl rfl (Nat.le_of_ble_eq_true rfl) rfl (CV_mono h ?_)
      intro I11 D12 h
      refine R_aload_n (pc' := 100) rfl rfl rfl ?_
      refine R_ldc2 (pc' := 103) rfl rfl ?_
      refine KV_iv (as := [vL 17519757093777440]) (rest := []) (pc' := 106) rfl rfl rfl rfl rfl (Nat.le_of_ble_eq_true rfl) rfl (CV_mono h ?_)
      intro I14 D15 h
      refine R_aload_n (pc' := 107) rfl rfl rfl ?_
      refine R_bipush (pc' := 109) rfl rfl ?_
      refine KV_iv (as := [vI 10]) (rest := []) (pc' := 112) rfl rfl rfl rfl rfl (Nat.le_of_ble_eq_true rfl) rfl (CV_mono h ?_)
      intro I17 D18 h
      exact R_forget (ls' := [vR (some 312), vJ]) ⟨Or.inl rfl, Or.inr rfl, trivial⟩ h
  · replace h := h.2 hc
    refine R_aload_n (pc' := 40) rfl rfl rfl ?_
    refine K_getR (pc' := 43) rfl rfl rfl rfl (st_at he rfl rfl (by decide)) ?_
    refine R_iload_n (pc' := 44) rfl rfl rfl ?_
    have g19 := h.1
    replace h := h.2
    refine K_zald (pc' := 45) rfl rfl rfl g19.1 g19.2 rfl ?_
    refine R_ifeq (pc' := 48) rfl rfl (fun hc => ?_) (fun hc => ?_)
    · replace h := h.1 hc
      exact h
    · replace h := h.2 hc
      refine R_aload_n (pc' := 49) rfl rfl rfl ?_
      refine R_iload_n (pc' := 50) rfl rfl rfl ?_
      refine KV_iv (as := [vI x1]) (rest := []) (pc' := 53) rfl rfl rfl rfl rfl (Nat.le_of_ble_eq_true rfl) rfl (CV_mono h ?_)
      intro I21 D22 h
      exact h
theorem S135_53 {e : En} {I : HI} {D : HD} {Q : Int → HI → HD → Prop} {x1 : Int} (he : HS e)
    (h : (-2147483648 ≤ (x1 + 1) ∧ (x1 + 1) < 2147483648) ∧ RI 135 33 [vR (some 312), vI (x1 + 1)] [] e I D Q) :
    RI 135 53 [vR (some 312), vI x1] [] e I D Q := by
  show Run 135 53 [vR (some 312), vI x1] [] (mk e I D) (pI e Q)
  have g1 := h.1
  replace h := h.2
  refine R_iinc (ls' := [vR (some 312), vI (x1 + 1)]) (pc' := 56) rfl rfl rfl g1 rfl ?_
  refine R_goto rfl ?_
  exact h
theorem S135_112 {e : En} {I : HI} {D : HD} {Q : Int → HI → HD → Prop} (he : HS e)
    (h : RI 135 129 [vR (some 312), vI 0] [] e (uI (uI I 312 4 1) 314 1 (I 312 54)) D Q) :
    RI 135 112 [vR (some 312), vJ] [] e I D Q := by
  show Run 135 112 [vR (some 312), vJ] [] (mk e I D) (pI e Q)
  refine R_aload_n (pc' := 113) rfl rfl rfl ?_
  refine R_iconst (pc' := 114) rfl rfl ?_
  refine K_putI (pc' := 117) rfl rfl (by decide) (fun h => absurd h (by decide)) rfl ?_
  refine R_aload_n (pc' := 118) rfl rfl rfl ?_
  refine K_getR (pc' := 121) rfl rfl rfl rfl (st_at he rfl rfl (by decide)) ?_
  refine R_iconst (pc' := 122) rfl rfl ?_
  refine R_aload_n (pc' := 123) rfl rfl rfl ?_
  refine K_getI (pc' := 126) rfl rfl (by decide) rfl rfl ?_
  refine K_iast (pc' := 127) rfl rfl rfl (by decide) (by decide) ?_
  refine R_iconst (pc' := 128) rfl rfl ?_
  refine R_istore_n (ls' := [vR (some 312), vI 0]) (pc' := 129) rfl rfl rfl ?_
  exact h
theorem S135_129 {e : En} {I : HI} {D : HD} {Q : Int → HI → HD → Prop} {x1 : Int} (he : HS e)
    (h : (((I 312 54) ≤ x1 → CV 117 [vR (some 312)] e I D (fun I2 D3 => Q (I2 323 1) I2 D3)) ∧ (¬ ((I 312 54) ≤ x1) → (-2147483648 ≤ (3000 + x1) ∧ (3000 + x1) < 2147483648) ∧ (0 ≤ x1 ∧ x1 < 3000) ∧ (0 ≤ (3000 + x1) ∧ (3000 + x1) < 6000) ∧ (-2147483648 ≤ (x1 + 1) ∧ (x1 + 1) < 2147483648) ∧ RI 135 129 [vR (some 312), vI (x1 + 1)] [] e (uI I 315 (((3000 + x1) : Int).toNat) (I 340 (x1.toNat))) D Q))) :
    RI 135 129 [vR (some 312), vI x1] [] e I D Q := by
  show Run 135 129 [vR (some 312), vI x1] [] (mk e I D) (pI e Q)
  refine R_iload_n (pc' := 130) rfl rfl rfl ?_
  refine R_aload_n (pc' := 131) rfl rfl rfl ?_
  refine K_getI (pc' := 134) rfl rfl (by decide) rfl rfl ?_
  refine R_icge (pc' := 137) rfl rfl (fun hc => ?_) (fun hc => ?_)
  · replace h := h.1 hc
    refine R_aload_n (pc' := 160) rfl rfl rfl ?_
    refine KV_iv (as := []) (rest := []) (pc' := 163) rfl rfl rfl rfl rfl (Nat.le_of_ble_eq_true rfl) rfl (CV_mono h ?_)
    intro I2 D3 h
    refine R_aload_n (pc' := 164) rfl rfl rfl ?_
    refine K_getR (pc' := 167) rfl rfl rfl rfl (st_at he rfl rfl (by decide)) ?_
    refine R_iconst (pc' := 168) rfl rfl ?_
    refine K_iald (pc' := 169) rfl rfl rfl (by decide) (by decide) rfl ?_
    exact R_iret rfl rfl ⟨_, _, _, rfl, rfl, h⟩
  · replace h := h.2 hc
    refine R_aload_n (pc' := 138) rfl rfl rfl ?_
    refine K_getR (pc' := 141) rfl rfl rfl rfl (st_at he rfl rfl (by decide)) ?_
    refine R_sipush (pc' := 144) rfl rfl ?_
    refine R_iload_n (pc' := 145) rfl rfl rfl ?_
    have g4 := h.1
    replace h := h.2
    refine R_iadd (pc' := 146) rfl rfl g4 ?_
    refine R_aload_n (pc' := 147) rfl rfl rfl ?_
    refine K_getR (pc' := 150) rfl rfl rfl rfl (st_at he rfl rfl (by decide)) ?_
    refine R_iload_n (pc' := 151) rfl rfl rfl ?_
    have g5 := h.1
    replace h := h.2
    refine K_iald (pc' := 152) rfl rfl rfl g5.1 g5.2 rfl ?_
    have g6 := h.1
    replace h := h.2
    refine K_iast (pc' := 153) rfl rfl rfl g6.1 g6.2 ?_
    have g7 := h.1
    replace h := h.2
    refine R_iinc (ls' := [vR (some 312), vI (x1 + 1)]) (pc' := 156) rfl rfl rfl g7 rfl ?_
    refine R_goto rfl ?_
    exact h
/-! 136 X9_written -/
theorem S136 {e : En} {I : HI} {D : HD} {Q : Int → HI → HD → Prop} {x1 : Int} (he : HS e)
    (h : ((x1 < (-1) → RI 136 14 [vR (some 312), vI x1] [vR (some 312)] e I D Q) ∧ (¬ (x1 < (-1)) → ((x1 < (I 312 54) → RI 136 19 [vR (some 312), vI x1] [vI 0, vR (some 312)] e I D Q) ∧ (¬ (x1 < (I 312 54)) → RI 136 14 [vR (some 312), vI x1] [vR (some 312)] e I D Q))))) :
    CI 136 [vR (some 312), vI x1] e I D Q := by
  refine Call_run (ls := [vR (some 312), vI x1]) rfl rfl ?_
  refine R_aload_n (pc' := 1) rfl rfl rfl ?_
  refine R_iload_n (pc' := 2) rfl rfl rfl ?_
  refine R_iconst (pc' := 3) rfl rfl ?_
  refine R_iclt (pc' := 6) rfl rfl (fun hc => ?_) (fun hc => ?_)
  · replace h := h.1 hc
    exact h
  · replace h := h.2 hc
    refine R_iload_n (pc' := 7) rfl rfl rfl ?_
    refine R_aload_n (pc' := 8) rfl rfl rfl ?_
    refine K_getI (pc' := 11) rfl rfl (by decide) rfl rfl ?_
    refine R_iclt (pc' := 14) rfl rfl (fun hc => ?_) (fun hc => ?_)
    · replace h := h.1 hc
      refine R_iconst (pc' := 19) rfl rfl ?_
      exact h
    · replace h := h.2 hc
      exact h
theorem S136_14 {e : En} {I : HI} {D : HD} {Q : Int → HI → HD → Prop} {x1 : Int} (he : HS e)
    (h : RI 136 19 [vR (some 312), vI x1] [vI 1, vR (some 312)] e I D Q) :
    RI 136 14 [vR (some 312), vI x1] [vR (some 312)] e I D Q := by
  show Run 136 14 [vR (some 312), vI x1] [vR (some 312)] (mk e I D) (pI e Q)
  refine R_iconst (pc' := 15) rfl rfl ?_
  refine R_goto rfl ?_
  exact h
theorem S136_19 {e : En} {I : HI} {D : HD} {Q : Int → HI → HD → Prop} {x1 : Int} {y1 : Int} (he : HS e)
    (h : ((y1 ≤ 0 → ((¬ x1 = (-1) → (0 ≤ x1 ∧ x1 < 3000) ∧ Q (I 340 (x1.toNat)) (uI I 312 0 y1) D) ∧ (¬ (¬ x1 = (-1)) → Q (I 312 54) (uI I 312 0 y1) D))) ∧ (¬ (y1 ≤ 0) → Q 0 (uI I 312 0 y1) D))) :
    RI 136 19 [vR (some 312), vI x1] [vI y1, vR (some 312)] e I D Q := by
  show Run 136 19 [vR (some 312), vI x1] [vI y1, vR (some 312)] (mk e I D) (pI e Q)
  refine K_putI (pc' := 22) rfl rfl (by decide) (fun h => absurd h (by decide)) rfl ?_
  refine R_aload_n (pc' := 23) rfl rfl rfl ?_
  refine K_getI (pc' := 26) rfl rfl (by decide) rfl rfl ?_
  refine R_ifle (pc' := 29) rfl rfl (fun hc => ?_) (fun hc => ?_)
  · replace h := h.1 hc
    refine R_iload_n (pc' := 34) rfl rfl rfl ?_
    refine R_iconst (pc' := 35) rfl rfl ?_
    refine R_icne (pc' := 38) rfl rfl (fun hc => ?_) (fun hc => ?_)
    · replace h := h.1 hc
      refine R_aload_n (pc' := 46) rfl rfl rfl ?_
      refine K_getR (pc' := 49) rfl rfl rfl rfl (st_at he rfl rfl (by decide)) ?_
      refine R_iload_n (pc' := 50) rfl rfl rfl ?_
      have g1 := h.1
      replace h := h.2
      refine K_iald (pc' := 51) rfl rfl rfl g1.1 g1.2 rfl ?_
      exact R_iret rfl rfl ⟨_, _, _, rfl, rfl, h⟩
    · replace h := h.2 hc
      refine R_aload_n (pc' := 39) rfl rfl rfl ?_
      refine K_getI (pc' := 42) rfl rfl (by decide) rfl rfl ?_
      refine R_goto rfl ?_
      exact R_iret rfl rfl ⟨_, _, _, rfl, rfl, h⟩
  · replace h := h.2 hc
    refine R_iconst (pc' := 30) rfl rfl ?_
    refine R_goto rfl ?_
    exact R_iret rfl rfl ⟨_, _, _, rfl, rfl, h⟩
