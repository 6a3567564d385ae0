/-! what the code of each method does: printed by wip/whole/gen/decomp.py -/
/-! 86 X9_thrown -/
theorem S86 {e : En} {I : HI} {D : HD} {Q : Int → HI → HD → Prop} (he : HS e)
    (h : Q (I 312 0) I D) :
    CI 86 [vR (some 312)] e I D Q := by
  refine Call_run (ls := [vR (some 312)]) rfl rfl ?_
  refine R_aload_n (pc' := 1) rfl rfl rfl ?_
  refine K_getI (pc' := 4) rfl rfl (by decide) rfl rfl ?_
  exact R_iret rfl rfl ⟨_, _, _, rfl, rfl, h⟩
/-! 87 X9_add -/
theorem S87 {e : En} {I : HI} {D : HD} {Q : HI → HD → Prop} {x1 : Int} (he : HS e)
    (h : ((¬ (I 312 1) = 1500 → RV 87 16 [vR (some 312), vI x1] [vI 0, vR (some 312)] e I D Q) ∧ (¬ (¬ (I 312 1) = 1500) → RV 87 16 [vR (some 312), vI x1] [vI 1, vR (some 312)] e I D Q))) :
    CV 87 [vR (some 312), vI x1] e I D Q := by
  refine Call_run (ls := [vR (some 312), vI x1]) rfl rfl ?_
  refine R_aload_n (pc' := 1) rfl rfl rfl ?_
  refine R_aload_n (pc' := 2) rfl rfl rfl ?_
  refine K_getI (pc' := 5) rfl rfl (by decide) rfl rfl ?_
  refine R_sipush (pc' := 8) rfl rfl ?_
  refine R_icne (pc' := 11) rfl rfl (fun hc => ?_) (fun hc => ?_)
  · replace h := h.1 hc
    refine R_iconst (pc' := 16) rfl rfl ?_
    exact h
  · replace h := h.2 hc
    refine R_iconst (pc' := 12) rfl rfl ?_
    refine R_goto rfl ?_
    exact h
theorem S87_16 {e : En} {I : HI} {D : HD} {Q : HI → HD → Prop} {x1 : Int} {y1 : Int} (he : HS e)
    (h : ((¬ y1 = 0 → Q (uI I 312 0 y1) D) ∧ (¬ (¬ y1 = 0) → (0 ≤ (I 312 1) ∧ (I 312 1) < 1500) ∧ (-2147483648 ≤ ((I 312 1) + 1) ∧ ((I 312 1) + 1) < 2147483648) ∧ Q (uI (uI (uI I 312 0 y1) 313 (((I 312 1) : Int).toNat) (x1 % 256)) 312 1 ((I 312 1) + 1)) D))) :
    RV 87 16 [vR (some 312), vI x1] [vI y1, vR (some 312)] e I D Q := by
  show Run 87 16 [vR (some 312), vI x1] [vI y1, vR (some 312)] (mk e I D) (pV e Q)
  refine K_putI (pc' := 19) rfl rfl (by decide) (fun h => absurd h (by decide)) rfl ?_
  refine R_aload_n (pc' := 20) rfl rfl rfl ?_
  refine K_getI (pc' := 23) rfl rfl (by decide) rfl rfl ?_
  refine R_ifne (pc' := 26) rfl rfl (fun hc => ?_) (fun hc => ?_)
  · replace h := h.1 hc
    exact R_vret rfl rfl ⟨_, _, rfl, rfl, h⟩
  · replace h := h.2 hc
    refine R_aload_n (pc' := 27) rfl rfl rfl ?_
    refine K_getR (pc' := 30) rfl rfl rfl rfl (st_at he rfl rfl (by decide)) ?_
    refine R_aload_n (pc' := 31) rfl rfl rfl ?_
    refine K_getI (pc' := 34) rfl rfl (by decide) rfl rfl ?_
    refine R_iload_n (pc' := 35) rfl rfl rfl ?_
    refine R_sipush (pc' := 38) rfl rfl ?_
    refine R_iand255 (pc' := 39) rfl rfl ?_
    have g1 := h.1
    replace h := h.2
    refine K_iast (pc' := 40) rfl rfl rfl g1.1 g1.2 ?_
    refine R_aload_n (pc' := 41) rfl rfl rfl ?_
    refine R_dup (pc' := 42) rfl rfl rfl ?_
    refine K_getI (pc' := 45) rfl rfl (by decide) rfl rfl ?_
    refine R_iconst (pc' := 46) rfl rfl ?_
    have g2 := h.1
    replace h := h.2
    refine R_iadd (pc' := 47) rfl rfl g2 ?_
    refine K_putI (pc' := 50) rfl rfl (by decide) (fun h => absurd h (by decide)) rfl ?_
    exact R_vret rfl rfl ⟨_, _, rfl, rfl, h⟩
/-! 88 X9_byteAt -/
theorem S88 {e : En} {I : HI} {D : HD} {Q : Int → HI → HD → Prop} {x1 : Int} (he : HS e)
    (h : (-2147483648 ≤ (3000 * (I 312 4)) ∧ (3000 * (I 312 4)) < 2147483648) ∧ (-2147483648 ≤ ((3000 * (I 312 4)) + x1) ∧ ((3000 * (I 312 4)) + x1) < 2147483648) ∧ (0 ≤ ((3000 * (I 312 4)) + x1) ∧ ((3000 * (I 312 4)) + x1) < 6000) ∧ Q (I 315 ((((3000 * (I 312 4)) + x1) : Int).toNat)) I D) :
    CI 88 [vR (some 312), vI x1] e I D Q := by
  refine Call_run (ls := [vR (some 312), vI x1]) rfl rfl ?_
  refine R_aload_n (pc' := 1) rfl rfl rfl ?_
  refine K_getR (pc' := 4) rfl rfl rfl rfl (st_at he rfl rfl (by decide)) ?_
  refine R_sipush (pc' := 7) rfl rfl ?_
  refine R_aload_n (pc' := 8) rfl rfl rfl ?_
  refine K_getI (pc' := 11) rfl rfl (by decide) rfl rfl ?_
  have g1 := h.1
  replace h := h.2
  refine R_imul (pc' := 12) rfl rfl g1 ?_
  refine R_iload_n (pc' := 13) rfl rfl rfl ?_
  have g2 := h.1
  replace h := h.2
  refine R_iadd (pc' := 14) rfl rfl g2 ?_
  have g3 := h.1
  replace h := h.2
  refine K_iald (pc' := 15) rfl rfl rfl g3.1 g3.2 rfl ?_
  exact R_iret rfl rfl ⟨_, _, _, rfl, rfl, h⟩
/-! 89 X9_isRegular -/
theorem S89 {e : En} {I : HI} {D : HD} {Q : Int → HI → HD → Prop} {x0 : Int} (he : HS e)
    (h : ((x0 = 40 → RI 89 60 [vI x0, vJ] [] e I D Q) ∧ (¬ (x0 = 40) → ((x0 = 41 → RI 89 60 [vI x0, vJ] [] e I D Q) ∧ (¬ (x0 = 41) → ((x0 = 60 → RI 89 60 [vI x0, vJ] [] e I D Q) ∧ (¬ (x0 = 60) → ((x0 = 62 → RI 89 60 [vI x0, vJ] [] e I D Q) ∧ (¬ (x0 = 62) → ((x0 = 91 → RI 89 60 [vI x0, vJ] [] e I D Q) ∧ (¬ (x0 = 91) → ((x0 = 93 → RI 89 60 [vI x0, vJ] [] e I D Q) ∧ (¬ (x0 = 93) → ((x0 = 123 → RI 89 60 [vI x0, vJ] [] e I D Q) ∧ (¬ (x0 = 123) → ((x0 = 125 → RI 89 60 [vI x0, vJ] [] e I D Q) ∧ (¬ (x0 = 125) → ((x0 = 47 → RI 89 60 [vI x0, vJ] [] e I D Q) ∧ (¬ (x0 = 47) → ((¬ x0 = 37 → RI 89 65 [vI x0, vJ] [vI 0] e I D Q) ∧ (¬ (¬ x0 = 37) → RI 89 60 [vI x0, vJ] [] e I D Q))))))))))))))))))))) :
    CI 89 [vI x0] e I D Q := by
  refine Call_run (ls := [vI x0, vJ]) rfl rfl ?_
  refine R_iload_n (pc' := 1) rfl rfl rfl ?_
  refine R_bipush (pc' := 3) rfl rfl ?_
  refine R_iceq (pc' := 6) rfl rfl (fun hc => ?_) (fun hc => ?_)
  · replace h := h.1 hc
    exact h
  · replace h := h.2 hc
    refine R_iload_n (pc' := 7) rfl rfl rfl ?_
    refine R_bipush (pc' := 9) rfl rfl ?_
    refine R_iceq (pc' := 12) rfl rfl (fun hc => ?_) (fun hc => ?_)
    · replace h := h.1 hc
      exact h
    · replace h := h.2 hc
      refine R_iload_n (pc' := 13) rfl rfl rfl ?_
      refine R_bipush (pc' := 15) rfl rfl ?_
      refine R_iceq (pc' := 18) rfl rfl (fun hc => ?_) (fun hc => ?_)
      · replace h := h.1 hc
        exact h
      · replace h := h.2 hc
        refine R_iload_n (pc' := 19) rfl rfl rfl ?_
        refine R_bipush (pc' := 21) rfl rfl ?_
        refine R_iceq (pc' := 24) rfl rfl (fun hc => ?_) (fun hc => ?_)
        · replace h := h.1 hc
          exact h
        · replace h := h.2 hc
          refine R_iload_n (pc' := 25) rfl rfl rfl ?_
          refine R_bipush (pc' := 27) rfl rfl ?_
          refine R_iceq (pc' := 30) rfl rfl (fun hc => ?_) (fun hc => ?_)
          · replace h := h.1 hc
            exact h
          · replace h := h.2 hc
            refine R_iload_n (pc' := 31) rfl rfl rfl ?_
            refine R_bipush (pc' := 33) rfl rfl ?_
            refine R_iceq (pc' := 36) rfl rfl (fun hc => ?_) (fun hc => ?_)
            · replace h := h.1 hc
              exact h
            · replace h := h.2 hc
              refine R_iload_n (pc' := 37) rfl rfl rfl ?_
              refine R_bipush (pc' := 39) rfl rfl ?_
              refine R_iceq (pc' := 42) rfl rfl (fun hc => ?_) (fun hc => ?_)
              · replace h := h.1 hc
                exact h
              · replace h := h.2 hc
                refine R_iload_n (pc' := 43) rfl rfl rfl ?_
                refine R_bipush (pc' := 45) rfl rfl ?_
                refine R_iceq (pc' := 48) rfl rfl (fun hc => ?_) (fun hc => ?_)
                · replace h := h.1 hc
                  exact h
                · replace h := h.2 hc
                  refine R_iload_n (pc' := 49) rfl rfl rfl ?_
                  refine R_bipush (pc' := 51) rfl rfl ?_
                  refine R_iceq (pc' := 54) rfl rfl (fun hc => ?_) (fun hc => ?_)
                  · replace h := h.1 hc
                    exact h
                  · replace h := h.2 hc
                    refine R_iload_n (pc' := 55) rfl rfl rfl ?_
                    refine R_bipush (pc' := 57) rfl rfl ?_
                    refine R_icne (pc' := 60) rfl rfl (fun hc => ?_) (fun hc => ?_)
                    · replace h := h.1 hc
                      refine R_iconst (pc' := 65) rfl rfl ?_
                      exact h
                    · replace h := h.2 hc
                      exact h
theorem S89_60 {e : En} {I : HI} {D : HD} {Q : Int → HI → HD → Prop} {x0 : Int} (he : HS e)
    (h : RI 89 65 [vI x0, vJ] [vI 1] e I D Q) :
    RI 89 60 [vI x0, vJ] [] e I D Q := by
  show Run 89 60 [vI x0, vJ] [] (mk e I D) (pI e Q)
  refine R_iconst (pc' := 61) rfl rfl ?_
  refine R_goto rfl ?_
  exact h
theorem S89_65 {e : En} {I : HI} {D : HD} {Q : Int → HI → HD → Prop} {x0 : Int} {y0 : Int} (he : HS e)
    (h : ((x0 ≤ 32 → Q 0 I D) ∧ (¬ (x0 ≤ 32) → ((¬ y0 = 0 → Q 0 I D) ∧ (¬ (¬ y0 = 0) → Q 1 I D))))) :
    RI 89 65 [vI x0, vJ] [vI y0] e I D Q := by
  show Run 89 65 [vI x0, vJ] [vI y0] (mk e I D) (pI e Q)
  refine R_istore_n (ls' := [vI x0, vI y0]) (pc' := 66) rfl rfl rfl ?_
  refine R_iload_n (pc' := 67) rfl rfl rfl ?_
  refine R_bipush (pc' := 69) rfl rfl ?_
  refine R_icle (pc' := 72) rfl rfl (fun hc => ?_) (fun hc => ?_)
  · replace h := h.1 hc
    refine R_iconst (pc' := 81) rfl rfl ?_
    exact R_zret rfl rfl (Or.inl rfl) ⟨_, _, _, rfl, rfl, h⟩
  · replace h := h.2 hc
    refine R_iload_n (pc' := 73) rfl rfl rfl ?_
    refine R_ifne (pc' := 76) rfl rfl (fun hc => ?_) (fun hc => ?_)
    · replace h := h.1 hc
      refine R_iconst (pc' := 81) rfl rfl ?_
      exact R_zret rfl rfl (Or.inl rfl) ⟨_, _, _, rfl, rfl, h⟩
    · replace h := h.2 hc
      refine R_iconst (pc' := 77) rfl rfl ?_
      refine R_goto rfl ?_
      exact R_zret rfl rfl (Or.inr rfl) ⟨_, _, _, rfl, rfl, h⟩
/-! 90 X9_passBlanks -/
theorem S90 {e : En} {I : HI} {D : HD} {Q : HI → HD → Prop} (he : HS e)
    (h : RV 90 2 [vR (some 312), vI 1] [] e I D Q) :
    CV 90 [vR (some 312)] e I D Q := by
  refine Call_run (ls := [vR (some 312), vJ]) rfl rfl ?_
  refine R_iconst (pc' := 1) rfl rfl ?_
  refine R_istore_n (ls' := [vR (some 312), vI 1]) (pc' := 2) rfl rfl rfl ?_
  exact h
theorem S90_2 {e : En} {I : HI} {D : HD} {Q : HI → HD → Prop} {x1 : Int} (he : HS e)
    (h : ((x1 = 0 → Q I D) ∧ (¬ (x1 = 0) → (((I 312 32) ≤ (I 312 31) → Q I D) ∧ (¬ ((I 312 32) ≤ (I 312 31)) → CI 88 [vR (some 312), vI (I 312 31)] e I D (fun z1 I2 D3 => ((¬ z1 = 37 → CI 88 [vR (some 312), vI (I2 312 31)] e I2 D3 (fun z4 I5 D6 => (((32 : Int) < z4 → RV 90 2 [vR (some 312), vI 0] [] e I5 D6 Q) ∧ (¬ ((32 : Int) < z4) → (-2147483648 ≤ ((I5 312 31) + 1) ∧ ((I5 312 31) + 1) < 2147483648) ∧ RV 90 2 [vR (some 312), vI x1] [] e (uI I5 312 31 ((I5 312 31) + 1)) D6 Q)))) ∧ (¬ (¬ z1 = 37) → RV 90 30 [vR (some 312), vI x1] [] e I2 D3 Q)))))))) :
    RV 90 2 [vR (some 312), vI x1] [] e I D Q := by
  show Run 90 2 [vR (some 312), vI x1] [] (mk e I D) (pV e Q)
  refine R_iload_n (pc' := 3) rfl rfl rfl ?_
  refine R_ifeq (pc' := 6) rfl rfl (fun hc => ?_) (fun hc => ?_)
  · replace h := h.1 hc
    exact R_vret rfl rfl ⟨_, _, rfl, rfl, h⟩
  · replace h := h.2 hc
    refine R_aload_n (pc' := 7) rfl rfl rfl ?_
    refine K_getI (pc' := 10) rfl rfl (by decide) rfl rfl ?_
    refine R_aload_n (pc' := 11) rfl rfl rfl ?_
    refine K_getI (pc' := 14) rfl rfl (by decide) rfl rfl ?_
    refine R_icge (pc' := 17) rfl rfl (fun hc => ?_) (fun hc => ?_)
    · replace h := h.1 hc
      exact R_vret rfl rfl ⟨_, _, rfl, rfl, h⟩
    · replace h := h.2 hc
      refine R_aload_n (pc' := 18) rfl rfl rfl ?_
      refine R_aload_n (pc' := 19) rfl rfl rfl ?_
      refine K_getI (pc' := 22) rfl rfl (by decide) rfl rfl ?_
      refine KI_iv (as := [vI (I 312 31)]) (rest := []) (pc' := 25) rfl rfl rfl rfl rfl (Nat.le_of_ble_eq_true rfl) rfl (CI_mono h ?_)
      intro z1 I2 D3 h
      refine R_bipush (pc' := 27) rfl rfl ?_
      refine R_icne (pc' := 30) rfl rfl (fun hc => ?_) (fun hc => ?_)
      · replace h := h.1 hc
        refine R_aload_n (pc' := 68) rfl rfl rfl ?_
        refine R_aload_n (pc' := 69) rfl rfl rfl ?_
        refine K_getI (pc' := 72) rfl rfl (by decide) rfl rfl ?_
        refine KI_iv (as := [vI (I2 312 31)]) (rest := []) (pc' := 75) rfl rfl rfl rfl rfl (Nat.le_of_ble_eq_true rfl) rfl (CI_mono h ?_)
        intro z4 I5 D6 h
        refine R_bipush (pc' := 77) rfl rfl ?_
        refine R_icgt (pc' := 80) rfl rfl (fun hc => ?_) (fun hc => ?_)
        · replace h := h.1 hc
          refine R_iconst (pc' := 94) rfl rfl ?_
          refine R_istore_n (ls' := [vR (some 312), vI 0]) (pc' := 95) rfl rfl rfl ?_
          refine R_goto rfl ?_
          exact h
        · replace h := h.2 hc
          refine R_aload_n (pc' := 81) rfl rfl rfl ?_
          refine R_dup (pc' := 82) rfl rfl rfl ?_
          refine K_getI (pc' := 85) rfl rfl (by decide) rfl rfl ?_
          refine R_iconst (pc' := 86) rfl rfl ?_
          have g7 := h.1
          replace h := h.2
          refine R_iadd (pc' := 87) rfl rfl g7 ?_
          refine K_putI (pc' := 90) rfl rfl (by decide) (fun h => absurd h (by decide)) rfl ?_
          refine R_goto rfl ?_
          exact h
      · replace h := h.2 hc
        exact h
theorem S90_30 {e : En} {I : HI} {D : HD} {Q : HI → HD → Prop} {x1 : Int} (he : HS e)
    (h : (((I 312 32) ≤ (I 312 31) → RV 90 2 [vR (some 312), vI x1] [] e I D Q) ∧ (¬ ((I 312 32) ≤ (I 312 31)) → CI 88 [vR (some 312), vI (I 312 31)] e I D (fun z1 I2 D3 => ((z1 = 10 → RV 90 2 [vR (some 312), vI x1] [] e I2 D3 Q) ∧ (¬ (z1 = 10) → (-2147483648 ≤ ((I2 312 31) + 1) ∧ ((I2 312 31) + 1) < 2147483648) ∧ RV 90 30 [vR (some 312), vI x1] [] e (uI I2 312 31 ((I2 312 31) + 1)) D3 Q)))))) :
    RV 90 30 [vR (some 312), vI x1] [] e I D Q := by
  show Run 90 30 [vR (some 312), vI x1] [] (mk e I D) (pV e Q)
  refine R_aload_n (pc' := 31) rfl rfl rfl ?_
  refine K_getI (pc' := 34) rfl rfl (by decide) rfl rfl ?_
  refine R_aload_n (pc' := 35) rfl rfl rfl ?_
  refine K_getI (pc' := 38) rfl rfl (by decide) rfl rfl ?_
  refine R_icge (pc' := 41) rfl rfl (fun hc => ?_) (fun hc => ?_)
  · replace h := h.1 hc
    exact h
  · replace h := h.2 hc
    refine R_aload_n (pc' := 42) rfl rfl rfl ?_
    refine R_aload_n (pc' := 43) rfl rfl rfl ?_
    refine K_getI (pc' := 46) rfl rfl (by decide) rfl rfl ?_
    refine KI_iv (as := [vI (I 312 31)]) (rest := []) (pc' := 49) rfl rfl rfl rfl rfl (Nat.le_of_ble_eq_true rfl) rfl (CI_mono h ?_)
    intro z1 I2 D3 h
    refine R_bipush (pc' := 51) rfl rfl ?_
    refine R_iceq (pc' := 54) rfl rfl (fun hc => ?_) (fun hc => ?_)
    · replace h := h.1 hc
      exact h
    · replace h := h.2 hc
      refine R_aload_n (pc' := 55) rfl rfl rfl ?_
      refine R_dup (pc' := 56) rfl rfl rfl ?_
      refine K_getI (pc' := 59) rfl rfl (by decide) rfl rfl ?_
      refine R_iconst (pc' := 60) rfl rfl ?_
      have g4 := h.1
      replace h := h.2
      refine R_iadd (pc' := 61) rfl rfl g4 ?_
      refine K_putI (pc' := 64) rfl rfl (by decide) (fun h => absurd h (by decide)) rfl ?_
      refine R_goto rfl ?_
      exact h
/-! 91 X9_next -/
theorem S91 {e : En} {I : HI} {D : HD} {Q : Int → HI → HD → Prop} (he : HS e)
    (h : CV 90 [vR (some 312)] e I D (fun I2 D3 => (((I2 312 31) < (I2 312 32) → CI 88 [vR (some 312), vI (I2 312 31)] e (uI I2 312 33 (I2 312 31)) D3 (fun z4 I5 D6 => (-2147483648 ≤ ((I5 312 31) + 1) ∧ ((I5 312 31) + 1) < 2147483648) ∧ ((¬ z4 = 40 → ((z4 = 60 → RI 91 130 [vR (some 312), vI z4] [] e (uI I5 312 31 ((I5 312 31) + 1)) D6 Q) ∧ (¬ (z4 = 60) → ((¬ z4 = 62 → ((z4 = 47 → RI 91 186 [vR (some 312), vJ] [] e (uI I5 312 31 ((I5 312 31) + 1)) D6 Q) ∧ (¬ (z4 = 47) → CI 89 [vI z4] e (uI I5 312 31 ((I5 312 31) + 1)) D6 (fun z8 I9 D10 => ((z8 = 0 → RI 91 224 [vR (some 312), vJ] [] e I9 D10 Q) ∧ (¬ (z8 = 0) → RI 91 186 [vR (some 312), vJ] [] e I9 D10 Q)))))) ∧ (¬ (¬ z4 = 62) → RI 91 130 [vR (some 312), vI z4] [] e (uI I5 312 31 ((I5 312 31) + 1)) D6 Q))))) ∧ (¬ (¬ z4 = 40) → RI 91 50 [vR (some 312), vJ] [] e (uI I5 312 31 ((I5 312 31) + 1)) D6 Q)))) ∧ (¬ ((I2 312 31) < (I2 312 32)) → Q 0 I2 D3)))) :
    CI 91 [vR (some 312)] e I D Q := by
  refine Call_run (ls := [vR (some 312), vJ]) rfl rfl ?_
  refine R_aload_n (pc' := 1) rfl rfl rfl ?_
  refine KV_iv (as := []) (rest := []) (pc' := 4) rfl rfl rfl rfl rfl (Nat.le_of_ble_eq_true rfl) rfl (CV_mono h ?_)
  intro I2 D3 h
  refine R_aload_n (pc' := 5) rfl rfl rfl ?_
  refine K_getI (pc' := 8) rfl rfl (by decide) rfl rfl ?_
  refine R_aload_n (pc' := 9) rfl rfl rfl ?_
  refine K_getI (pc' := 12) rfl rfl (by decide) rfl rfl ?_
  refine R_iclt (pc' := 15) rfl rfl (fun hc => ?_) (fun hc => ?_)
  · replace h := h.1 hc
    refine R_aload_n (pc' := 18) rfl rfl rfl ?_
    refine R_aload_n (pc' := 19) rfl rfl rfl ?_
    refine K_getI (pc' := 22) rfl rfl (by decide) rfl rfl ?_
    refine K_putI (pc' := 25) rfl rfl (by decide) (fun h => absurd h (by decide)) rfl ?_
    refine R_aload_n (pc' := 26) rfl rfl rfl ?_
    refine R_aload_n (pc' := 27) rfl rfl rfl ?_
    refine K_getI (pc' := 30) rfl rfl (by decide) rfl rfl ?_
    refine KI_iv (as := [vI (I2 312 31)]) (rest := []) (pc' := 33) rfl rfl rfl rfl rfl (Nat.le_of_ble_eq_true rfl) rfl (CI_mono h ?_)
    intro z4 I5 D6 h
    refine R_istore_n (ls' := [vR (some 312), vI z4]) (pc' := 34) rfl rfl rfl ?_
    refine R_aload_n (pc' := 35) rfl rfl rfl ?_
    refine R_dup (pc' := 36) rfl rfl rfl ?_
    refine K_getI (pc' := 39) rfl rfl (by decide) rfl rfl ?_
    refine R_iconst (pc' := 40) rfl rfl ?_
    have g7 := h.1
    replace h := h.2
    refine R_iadd (pc' := 41) rfl rfl g7 ?_
    refine K_putI (pc' := 44) rfl rfl (by decide) (fun h => absurd h (by decide)) rfl ?_
    refine R_iload_n (pc' := 45) rfl rfl rfl ?_
    refine R_bipush (pc' := 47) rfl rfl ?_
    refine R_icne (pc' := 50) rfl rfl (fun hc => ?_) (fun hc => ?_)
    · replace h := h.1 hc
      refine R_iload_n (pc' := 119) rfl rfl rfl ?_
      refine R_bipush (pc' := 121) rfl rfl ?_
      refine R_iceq (pc' := 124) rfl rfl (fun hc => ?_) (fun hc => ?_)
      · replace h := h.1 hc
        exact h
      · replace h := h.2 hc
        refine R_iload_n (pc' := 125) rfl rfl rfl ?_
        refine R_bipush (pc' := 127) rfl rfl ?_
        refine R_icne (pc' := 130) rfl rfl (fun hc => ?_) (fun hc => ?_)
        · replace h := h.1 hc
          refine R_iload_n (pc' := 174) rfl rfl rfl ?_
          refine R_bipush (pc' := 176) rfl rfl ?_
          refine R_iceq (pc' := 179) rfl rfl (fun hc => ?_) (fun hc => ?_)
          · replace h := h.1 hc
            exact R_forget (ls' := [vR (some 312), vJ]) ⟨Or.inl rfl, Or.inr rfl, trivial⟩ h
          · replace h := h.2 hc
            refine R_iload_n (pc' := 180) rfl rfl rfl ?_
            refine KI_st (as := [vI z4]) (rest := []) (pc' := 183) rfl rfl rfl (Nat.le_of_ble_eq_true rfl) rfl (CI_mono h ?_)
            intro z8 I9 D10 h
            refine R_ifeq (pc' := 186) rfl rfl (fun hc => ?_) (fun hc => ?_)
            · replace h := h.1 hc
              exact R_forget (ls' := [vR (some 312), vJ]) ⟨Or.inl rfl, Or.inr rfl, trivial⟩ h
            · replace h := h.2 hc
              exact R_forget (ls' := [vR (some 312), vJ]) ⟨Or.inl rfl, Or.inr rfl, trivial⟩ h
        · replace h := h.2 hc
          exact h
    · replace h := h.2 hc
      exact R_forget (ls' := [vR (some 312), vJ]) ⟨Or.inl rfl, Or.inr rfl, trivial⟩ h
  · replace h := h.2 hc
    refine R_iconst (pc' := 16) rfl rfl ?_
    exact R_zret rfl rfl (Or.inl rfl) ⟨_, _, _, rfl, rfl, h⟩
theorem S91_50 {e : En} {I : HI} {D : HD} {Q : Int → HI → HD → Prop} (he : HS e)
    (h : (((I 312 32) ≤ (I 312 31) → RI 91 87 [vR (some 312), vJ] [] e I D Q) ∧ (¬ ((I 312 32) ≤ (I 312 31)) → CI 88 [vR (some 312), vI (I 312 31)] e I D (fun z1 I2 D3 => ((z1 = 41 → RI 91 87 [vR (some 312), vJ] [] e I2 D3 Q) ∧ (¬ (z1 = 41) → (-2147483648 ≤ ((I2 312 31) + 1) ∧ ((I2 312 31) + 1) < 2147483648) ∧ RI 91 50 [vR (some 312), vJ] [] e (uI I2 312 31 ((I2 312 31) + 1)) D3 Q)))))) :
    RI 91 50 [vR (some 312), vJ] [] e I D Q := by
  show Run 91 50 [vR (some 312), vJ] [] (mk e I D) (pI e Q)
  refine R_aload_n (pc' := 51) rfl rfl rfl ?_
  refine K_getI (pc' := 54) rfl rfl (by decide) rfl rfl ?_
  refine R_aload_n (pc' := 55) rfl rfl rfl ?_
  refine K_getI (pc' := 58) rfl rfl (by decide) rfl rfl ?_
  refine R_icge (pc' := 61) rfl rfl (fun hc => ?_) (fun hc => ?_)
  · replace h := h.1 hc
    exact h
  · replace h := h.2 hc
    refine R_aload_n (pc' := 62) rfl rfl rfl ?_
    refine R_aload_n (pc' := 63) rfl rfl rfl ?_
    refine K_getI (pc' := 66) rfl rfl (by decide) rfl rfl ?_
    refine KI_iv (as := [vI (I 312 31)]) (rest := []) (pc' := 69) rfl rfl rfl rfl rfl (Nat.le_of_ble_eq_true rfl) rfl (CI_mono h ?_)
    intro z1 I2 D3 h
    refine R_bipush (pc' := 71) rfl rfl ?_
    refine R_iceq (pc' := 74) rfl rfl (fun hc => ?_) (fun hc => ?_)
    · replace h := h.1 hc
      exact h
    · replace h := h.2 hc
      refine R_aload_n (pc' := 75) rfl rfl rfl ?_
      refine R_dup (pc' := 76) rfl rfl rfl ?_
      refine K_getI (pc' := 79) rfl rfl (by decide) rfl rfl ?_
      refine R_iconst (pc' := 80) rfl rfl ?_
      have g4 := h.1
      replace h := h.2
      refine R_iadd (pc' := 81) rfl rfl g4 ?_
      refine K_putI (pc' := 84) rfl rfl (by decide) (fun h => absurd h (by decide)) rfl ?_
      refine R_goto rfl ?_
      exact h
theorem S91_87 {e : En} {I : HI} {D : HD} {Q : Int → HI → HD → Prop} (he : HS e)
    (h : (((I 312 32) ≤ (I 312 31) → RI 91 112 [vR (some 312), vJ] [vI (I 312 31), vR (some 312)] e I D Q) ∧ (¬ ((I 312 32) ≤ (I 312 31)) → (-2147483648 ≤ ((I 312 31) + 1) ∧ ((I 312 31) + 1) < 2147483648) ∧ RI 91 112 [vR (some 312), vJ] [vI ((I 312 31) + 1), vR (some 312)] e I D Q))) :
    RI 91 87 [vR (some 312), vJ] [] e I D Q := by
  show Run 91 87 [vR (some 312), vJ] [] (mk e I D) (pI e Q)
  refine R_aload_n (pc' := 88) rfl rfl rfl ?_
  refine R_aload_n (pc' := 89) rfl rfl rfl ?_
  refine K_getI (pc' := 92) rfl rfl (by decide) rfl rfl ?_
  refine R_aload_n (pc' := 93) rfl rfl rfl ?_
  refine K_getI (pc' := 96) rfl rfl (by decide) rfl rfl ?_
  refine R_icge (pc' := 99) rfl rfl (fun hc => ?_) (fun hc => ?_)
  · replace h := h.1 hc
    refine R_aload_n (pc' := 109) rfl rfl rfl ?_
    refine K_getI (pc' := 112) rfl rfl (by decide) rfl rfl ?_
    exact h
  · replace h := h.2 hc
    refine R_aload_n (pc' := 100) rfl rfl rfl ?_
    refine K_getI (pc' := 103) rfl rfl (by decide) rfl rfl ?_
    refine R_iconst (pc' := 104) rfl rfl ?_
    have g1 := h.1
    replace h := h.2
    refine R_iadd (pc' := 105) rfl rfl g1 ?_
    refine R_goto rfl ?_
    exact h
theorem S91_112 {e : En} {I : HI} {D : HD} {Q : Int → HI → HD → Prop} {y1 : Int} (he : HS e)
    (h : RI 91 224 [vR (some 312), vJ] [] e (uI I 312 31 y1) D Q) :
    RI 91 112 [vR (some 312), vJ] [vI y1, vR (some 312)] e I D Q := by
  show Run 91 112 [vR (some 312), vJ] [vI y1, vR (some 312)] (mk e I D) (pI e Q)
  refine K_putI (pc' := 115) rfl rfl (by decide) (fun h => absurd h (by decide)) rfl ?_
  refine R_goto rfl ?_
  exact h
theorem S91_130 {e : En} {I : HI} {D : HD} {Q : Int → HI → HD → Prop} {x1 : Int} (he : HS e)
    (h : (((I 312 32) ≤ (I 312 31) → RI 91 163 [vR (some 312), vJ] [vR (some 312)] e I D Q) ∧ (¬ ((I 312 32) ≤ (I 312 31)) → CI 88 [vR (some 312), vI (I 312 31)] e I D (fun z1 I2 D3 => ((¬ z1 = x1 → RI 91 163 [vR (some 312), vJ] [vR (some 312)] e I2 D3 Q) ∧ (¬ (¬ z1 = x1) → (-2147483648 ≤ ((I2 312 31) + 1) ∧ ((I2 312 31) + 1) < 2147483648) ∧ RI 91 167 [vR (some 312), vJ] [vI ((I2 312 31) + 1), vR (some 312)] e I2 D3 Q)))))) :
    RI 91 130 [vR (some 312), vI x1] [] e I D Q := by
  show Run 91 130 [vR (some 312), vI x1] [] (mk e I D) (pI e Q)
  refine R_aload_n (pc' := 131) rfl rfl rfl ?_
  refine R_aload_n (pc' := 132) rfl rfl rfl ?_
  refine K_getI (pc' := 135) rfl rfl (by decide) rfl rfl ?_
  refine R_aload_n (pc' := 136) rfl rfl rfl ?_
  refine K_getI (pc' := 139) rfl rfl (by decide) rfl rfl ?_
  refine R_icge (pc' := 142) rfl rfl (fun hc => ?_) (fun hc => ?_)
  · replace h := h.1 hc
    exact R_forget (ls' := [vR (some 312), vJ]) ⟨Or.inl rfl, Or.inr rfl, trivial⟩ h
  · replace h := h.2 hc
    refine R_aload_n (pc' := 143) rfl rfl rfl ?_
    refine R_aload_n (pc' := 144) rfl rfl rfl ?_
    refine K_getI (pc' := 147) rfl rfl (by decide) rfl rfl ?_
    refine KI_iv (as := [vI (I 312 31)]) (rest := [vR (some 312)]) (pc' := 150) rfl rfl rfl rfl rfl (Nat.le_of_ble_eq_true rfl) rfl (CI_mono h ?_)
    intro z1 I2 D3 h
    refine R_iload_n (pc' := 151) rfl rfl rfl ?_
    refine R_icne (pc' := 154) rfl rfl (fun hc => ?_) (fun hc => ?_)
    · replace h := h.1 hc
      exact R_forget (ls' := [vR (some 312), vJ]) ⟨Or.inl rfl, Or.inr rfl, trivial⟩ h
    · replace h := h.2 hc
      refine R_aload_n (pc' := 155) rfl rfl rfl ?_
      refine K_getI (pc' := 158) rfl rfl (by decide) rfl rfl ?_
      refine R_iconst (pc' := 159) rfl rfl ?_
      have g4 := h.1
      replace h := h.2
      refine R_iadd (pc' := 160) rfl rfl g4 ?_
      refine R_goto rfl ?_
      exact R_forget (ls' := [vR (some 312), vJ]) ⟨Or.inl rfl, Or.inr rfl, trivial⟩ h
theorem S91_163 {e : En} {I : HI} {D : HD} {Q : Int → HI → HD → Prop} (he : HS e)
    (h : RI 91 167 [vR (some 312), vJ] [vI (I 312 31), vR (some 312)] e I D Q) :
    RI 91 163 [vR (some 312), vJ] [vR (some 312)] e I D Q := by
  show Run 91 163 [vR (some 312), vJ] [vR (some 312)] (mk e I D) (pI e Q)
  refine R_aload_n (pc' := 164) rfl rfl rfl ?_
  refine K_getI (pc' := 167) rfl rfl (by decide) rfl rfl ?_
  exact h
theorem S91_167 {e : En} {I : HI} {D : HD} {Q : Int → HI → HD → Prop} {y1 : Int} (he : HS e)
    (h : RI 91 224 [vR (some 312), vJ] [] e (uI I 312 31 y1) D Q) :
    RI 91 167 [vR (some 312), vJ] [vI y1, vR (some 312)] e I D Q := by
  show Run 91 167 [vR (some 312), vJ] [vI y1, vR (some 312)] (mk e I D) (pI e Q)
  refine K_putI (pc' := 170) rfl rfl (by decide) (fun h => absurd h (by decide)) rfl ?_
  refine R_goto rfl ?_
  exact h
theorem S91_186 {e : En} {I : HI} {D : HD} {Q : Int → HI → HD → Prop} (he : HS e)
    (h : (((I 312 32) ≤ (I 312 31) → RI 91 224 [vR (some 312), vJ] [] e I D Q) ∧ (¬ ((I 312 32) ≤ (I 312 31)) → CI 88 [vR (some 312), vI (I 312 31)] e I D (fun z1 I2 D3 => CI 89 [vI z1] e I2 D3 (fun z4 I5 D6 => ((z4 = 0 → RI 91 224 [vR (some 312), vJ] [] e I5 D6 Q) ∧ (¬ (z4 = 0) → (-2147483648 ≤ ((I5 312 31) + 1) ∧ ((I5 312 31) + 1) < 2147483648) ∧ RI 91 186 [vR (some 312), vJ] [] e (uI I5 312 31 ((I5 312 31) + 1)) D6 Q))))))) :
    RI 91 186 [vR (some 312), vJ] [] e I D Q := by
  show Run 91 186 [vR (some 312), vJ] [] (mk e I D) (pI e Q)
  refine R_aload_n (pc' := 187) rfl rfl rfl ?_
  refine K_getI (pc' := 190) rfl rfl (by decide) rfl rfl ?_
  refine R_aload_n (pc' := 191) rfl rfl rfl ?_
  refine K_getI (pc' := 194) rfl rfl (by decide) rfl rfl ?_
  refine R_icge (pc' := 197) rfl rfl (fun hc => ?_) (fun hc => ?_)
  · replace h := h.1 hc
    exact h
  · replace h := h.2 hc
    refine R_aload_n (pc' := 198) rfl rfl rfl ?_
    refine R_aload_n (pc' := 199) rfl rfl rfl ?_
    refine K_getI (pc' := 202) rfl rfl (by decide) rfl rfl ?_
    refine KI_iv (as := [vI (I 312 31)]) (rest := []) (pc' := 205) rfl rfl rfl rfl rfl (Nat.le_of_ble_eq_true rfl) rfl (CI_mono h ?_)
    intro z1 I2 D3 h
    refine KI_st (as := [vI z1]) (rest := []) (pc' := 208) rfl rfl rfl (Nat.le_of_ble_eq_true rfl) rfl (CI_mono h ?_)
    intro z4 I5 D6 h
    refine R_ifeq (pc' := 211) rfl rfl (fun hc => ?_) (fun hc => ?_)
    · replace h := h.1 hc
      exact h
    · replace h := h.2 hc
      refine R_aload_n (pc' := 212) rfl rfl rfl ?_
      refine R_dup (pc' := 213) rfl rfl rfl ?_
      refine K_getI (pc' := 216) rfl rfl (by decide) rfl rfl ?_
      refine R_iconst (pc' := 217) rfl rfl ?_
      have g7 := h.1
      replace h := h.2
      refine R_iadd (pc' := 218) rfl rfl g7 ?_
      refine K_putI (pc' := 221) rfl rfl (by decide) (fun h => absurd h (by decide)) rfl ?_
      refine R_goto rfl ?_
      exact h
theorem S91_224 {e : En} {I : HI} {D : HD} {Q : Int → HI → HD → Prop} (he : HS e)
    (h : Q 1 (uI I 312 34 (I 312 31)) D) :
    RI 91 224 [vR (some 312), vJ] [] e I D Q := by
  show Run 91 224 [vR (some 312), vJ] [] (mk e I D) (pI e Q)
  refine R_aload_n (pc' := 225) rfl rfl rfl ?_
  refine R_aload_n (pc' := 226) rfl rfl rfl ?_
  refine K_getI (pc' := 229) rfl rfl (by decide) rfl rfl ?_
  refine K_putI (pc' := 232) rfl rfl (by decide) (fun h => absurd h (by decide)) rfl ?_
  refine R_iconst (pc' := 233) rfl rfl ?_
  exact R_zret rfl rfl (Or.inr rfl) ⟨_, _, _, rfl, rfl, h⟩
/-! 92 X9_stands -/
theorem S92 {e : En} {I : HI} {D : HD} {Q : Int → HI → HD → Prop} {x1 : Int} {w2 : Int} {x4 : Int} (he : HS e)
    (h : (-2147483648 ≤ (x1 + x4) ∧ (x1 + x4) < 2147483648) ∧ (0 ≤ (I 312 4) ∧ (I 312 4) < 2) ∧ (((x1 + x4) ≤ (I 314 (((I 312 4) : Int).toNat)) → RI 92 21 [vR (some 312), vI x1, vL w2, vJ, vI x4, vI 0] [] e I D Q) ∧ (¬ ((x1 + x4) ≤ (I 314 (((I 312 4) : Int).toNat))) → Q 0 I D))) :
    CI 92 [vR (some 312), vI x1, vL w2, vI x4] e I D Q := by
  refine Call_run (ls := [vR (some 312), vI x1, vL w2, vJ, vI x4, vJ]) rfl rfl ?_
  refine R_iload_n (pc' := 1) rfl rfl rfl ?_
  refine R_iload (pc' := 3) rfl rfl rfl ?_
  have g1 := h.1
  replace h := h.2
  refine R_iadd (pc' := 4) rfl rfl g1 ?_
  refine R_aload_n (pc' := 5) rfl rfl rfl ?_
  refine K_getR (pc' := 8) rfl rfl rfl rfl (st_at he rfl rfl (by decide)) ?_
  refine R_aload_n (pc' := 9) rfl rfl rfl ?_
  refine K_getI (pc' := 12) rfl rfl (by decide) rfl rfl ?_
  have g2 := h.1
  replace h := h.2
  refine K_iald (pc' := 13) rfl rfl rfl g2.1 g2.2 rfl ?_
  refine R_icle (pc' := 16) rfl rfl (fun hc => ?_) (fun hc => ?_)
  · replace h := h.1 hc
    refine R_iconst (pc' := 19) rfl rfl ?_
    refine R_istore (ls' := [vR (some 312), vI x1, vL w2, vJ, vI x4, vI 0]) (pc' := 21) rfl rfl rfl ?_
    exact h
  · replace h := h.2 hc
    refine R_iconst (pc' := 17) rfl rfl ?_
    exact R_zret rfl rfl (Or.inl rfl) ⟨_, _, _, rfl, rfl, h⟩
theorem S92_21 {e : En} {I : HI} {D : HD} {Q : Int → HI → HD → Prop} {x1 : Int} {w2 : Int} {x4 : Int} {x5 : Int} (he : HS e)
    (h : ((x4 ≤ x5 → Q 1 I D) ∧ (¬ (x4 ≤ x5) → (-2147483648 ≤ (x1 + x5) ∧ (x1 + x5) < 2147483648) ∧ CI 88 [vR (some 312), vI (x1 + x5)] e I D (fun z2 I3 D4 => (-2147483648 ≤ (8 * x5) ∧ (8 * x5) < 2147483648) ∧ (0 ≤ (8 * x5) ∧ (8 * x5) < 64) ∧ (-9223372036854775808 ≤ (w2 >>> (8 * x5).toNat) ∧ (w2 >>> (8 * x5).toNat) < 9223372036854775808) ∧ (-2147483648 ≤ ((w2 >>> (8 * x5).toNat) % 256) ∧ ((w2 >>> (8 * x5).toNat) % 256) < 2147483648) ∧ ((z2 = ((w2 >>> (8 * x5).toNat) % 256) → (-2147483648 ≤ (x5 + 1) ∧ (x5 + 1) < 2147483648) ∧ RI 92 21 [vR (some 312), vI x1, vL w2, vJ, vI x4, vI (x5 + 1)] [] e I3 D4 Q) ∧ (¬ (z2 = ((w2 >>> (8 * x5).toNat) % 256)) → Q 0 I3 D4)))))) :
    RI 92 21 [vR (some 312), vI x1, vL w2, vJ, vI x4, vI x5] [] e I D Q := by
  show Run 92 21 [vR (some 312), vI x1, vL w2, vJ, vI x4, vI x5] [] (mk e I D) (pI e Q)
  refine R_iload (pc' := 23) rfl rfl rfl ?_
  refine R_iload (pc' := 25) rfl rfl rfl ?_
  refine R_icge (pc' := 28) rfl rfl (fun hc => ?_) (fun hc => ?_)
  · replace h := h.1 hc
    refine R_iconst (pc' := 60) rfl rfl ?_
    exact R_zret rfl rfl (Or.inr rfl) ⟨_, _, _, rfl, rfl, h⟩
  · replace h := h.2 hc
    refine R_aload_n (pc' := 29) rfl rfl rfl ?_
    refine R_iload_n (pc' := 30) rfl rfl rfl ?_
    refine R_iload (pc' := 32) rfl rfl rfl ?_
    have g1 := h.1
    replace h := h.2
    refine R_iadd (pc' := 33) rfl rfl g1 ?_
    refine KI_iv (as := [vI (x1 + x5)]) (rest := []) (pc' := 36) rfl rfl rfl rfl rfl (Nat.le_of_ble_eq_true rfl) rfl (CI_mono h ?_)
    intro z2 I3 D4 h
    refine R_lload_n (pc' := 37) rfl rfl rfl ?_
    refine R_bipush (pc' := 39) rfl rfl ?_
    refine R_iload (pc' := 41) rfl rfl rfl ?_
    have g5 := h.1
    replace h := h.2
    refine R_imul (pc' := 42) rfl rfl g5 ?_
    have g6 := h.1
    replace h := h.2
    have g7 := h.1
    replace h := h.2
    refine R_lshr (pc' := 43) rfl rfl g6 g7 ?_
    refine R_ldc2 (pc' := 46) rfl rfl ?_
    refine R_land255 (pc' := 47) rfl rfl ?_
    have g8 := h.1
    replace h := h.2
    refine R_l2i (pc' := 48) rfl rfl g8 ?_
    refine R_iceq (pc' := 51) rfl rfl (fun hc => ?_) (fun hc => ?_)
    · replace h := h.1 hc
      have g9 := h.1
      replace h := h.2
      refine R_iinc (ls' := [vR (some 312), vI x1, vL w2, vJ, vI x4, vI (x5 + 1)]) (pc' := 56) rfl rfl rfl g9 rfl ?_
      refine R_goto rfl ?_
      exact h
    · replace h := h.2 hc
      refine R_iconst (pc' := 52) rfl rfl ?_
      exact R_zret rfl rfl (Or.inl rfl) ⟨_, _, _, rfl, rfl, h⟩
/-! 93 X9_standsEnd -/
theorem S93 {e : En} {I : HI} {D : HD} {Q : Int → HI → HD → Prop} {x1 : Int} (he : HS e)
    (h : CI 92 [vR (some 312), vI x1, vL 7018141438804520549, vI 8] e I D (fun z1 I2 D3 => ((z1 = 0 → Q 0 I2 D3) ∧ (¬ (z1 = 0) → (-2147483648 ≤ (x1 + 9) ∧ (x1 + 9) < 2147483648) ∧ (0 ≤ (I2 312 4) ∧ (I2 312 4) < 2) ∧ (((I2 314 (((I2 312 4) : Int).toNat)) < (x1 + 9) → Q 0 I2 D3) ∧ (¬ ((I2 314 (((I2 312 4) : Int).toNat)) < (x1 + 9)) → (-2147483648 ≤ (x1 + 8) ∧ (x1 + 8) < 2147483648) ∧ CI 88 [vR (some 312), vI (x1 + 8)] e I2 D3 (fun z7 I8 D9 => ((¬ z7 = 109 → Q 0 I8 D9) ∧ (¬ (¬ z7 = 109) → Q 1 I8 D9))))))))) :
    CI 93 [vR (some 312), vI x1] e I D Q := by
  refine Call_run (ls := [vR (some 312), vI x1]) rfl rfl ?_
  refine R_aload_n (pc' := 1) rfl rfl rfl ?_
  refine R_iload_n (pc' := 2) rfl rfl rfl ?_
  refine R_ldc2 (pc' := 5) rfl rfl ?_
  refine R_bipush (pc' := 7) rfl rfl ?_
  refine KI_iv (as := [vI x1, vL 7018141438804520549, vI 8]) (rest := []) (pc' := 10) rfl rfl rfl rfl rfl (Nat.le_of_ble_eq_true rfl) rfl (CI_mono h ?_)
  intro z1 I2 D3 h
  refine R_ifeq (pc' := 13) rfl rfl (fun hc => ?_) (fun hc => ?_)
  · replace h := h.1 hc
    refine R_iconst (pc' := 47) rfl rfl ?_
    exact R_zret rfl rfl (Or.inl rfl) ⟨_, _, _, rfl, rfl, h⟩
  · replace h := h.2 hc
    refine R_iload_n (pc' := 14) rfl rfl rfl ?_
    refine R_bipush (pc' := 16) rfl rfl ?_
    have g4 := h.1
    replace h := h.2
    refine R_iadd (pc' := 17) rfl rfl g4 ?_
    refine R_aload_n (pc' := 18) rfl rfl rfl ?_
    refine K_getR (pc' := 21) rfl rfl rfl rfl (st_at he rfl rfl (by decide)) ?_
    refine R_aload_n (pc' := 22) rfl rfl rfl ?_
    refine K_getI (pc' := 25) rfl rfl (by decide) rfl rfl ?_
    have g5 := h.1
    replace h := h.2
    refine K_iald (pc' := 26) rfl rfl rfl g5.1 g5.2 rfl ?_
    refine R_icgt (pc' := 29) rfl rfl (fun hc => ?_) (fun hc => ?_)
    · replace h := h.1 hc
      refine R_iconst (pc' := 47) rfl rfl ?_
      exact R_zret rfl rfl (Or.inl rfl) ⟨_, _, _, rfl, rfl, h⟩
    · replace h := h.2 hc
      refine R_aload_n (pc' := 30) rfl rfl rfl ?_
      refine R_iload_n (pc' := 31) rfl rfl rfl ?_
      refine R_bipush (pc' := 33) rfl rfl ?_
      have g6 := h.1
      replace h := h.2
      refine R_iadd (pc' := 34) rfl rfl g6 ?_
      refine KI_iv (as := [vI (x1 + 8)]) (rest := []) (pc' := 37) rfl rfl rfl rfl rfl (Nat.le_of_ble_eq_true rfl) rfl (CI_mono h ?_)
      intro z7 I8 D9 h
      refine R_bipush (pc' := 39) rfl rfl ?_
      refine R_icne (pc' := 42) rfl rfl (fun hc => ?_) (fun hc => ?_)
      · replace h := h.1 hc
        refine R_iconst (pc' := 47) rfl rfl ?_
        exact R_zret rfl rfl (Or.inl rfl) ⟨_, _, _, rfl, rfl, h⟩
      · replace h := h.2 hc
        refine R_iconst (pc' := 43) rfl rfl ?_
        refine R_goto rfl ?_
        exact R_zret rfl rfl (Or.inr rfl) ⟨_, _, _, rfl, rfl, h⟩
/-! 94 X9_is -/
theorem S94 {e : En} {I : HI} {D : HD} {Q : Int → HI → HD → Prop} {x1 : Int} {x2 : Int} {w3 : Int} {x5 : Int} (he : HS e)
    (h : (-2147483648 ≤ (x2 - x1) ∧ (x2 - x1) < 2147483648) ∧ ((¬ (x2 - x1) = x5 → Q 0 I D) ∧ (¬ (¬ (x2 - x1) = x5) → CI 92 [vR (some 312), vI x1, vL w3, vI x5] e I D (fun z2 I3 D4 => ((z2 = 0 → Q 0 I3 D4) ∧ (¬ (z2 = 0) → Q 1 I3 D4)))))) :
    CI 94 [vR (some 312), vI x1, vI x2, vL w3, vI x5] e I D Q := by
  refine Call_run (ls := [vR (some 312), vI x1, vI x2, vL w3, vJ, vI x5]) rfl rfl ?_
  refine R_iload_n (pc' := 1) rfl rfl rfl ?_
  refine R_iload_n (pc' := 2) rfl rfl rfl ?_
  have g1 := h.1
  replace h := h.2
  refine R_isub (pc' := 3) rfl rfl g1 ?_
  refine R_iload (pc' := 5) rfl rfl rfl ?_
  refine R_icne (pc' := 8) rfl rfl (fun hc => ?_) (fun hc => ?_)
  · replace h := h.1 hc
    refine R_iconst (pc' := 24) rfl rfl ?_
    exact R_zret rfl rfl (Or.inl rfl) ⟨_, _, _, rfl, rfl, h⟩
  · replace h := h.2 hc
    refine R_aload_n (pc' := 9) rfl rfl rfl ?_
    refine R_iload_n (pc' := 10) rfl rfl rfl ?_
    refine R_lload_n (pc' := 11) rfl rfl rfl ?_
    refine R_iload (pc' := 13) rfl rfl rfl ?_
    refine KI_iv (as := [vI x1, vL w3, vI x5]) (rest := []) (pc' := 16) rfl rfl rfl rfl rfl (Nat.le_of_ble_eq_true rfl) rfl (CI_mono h ?_)
    intro z2 I3 D4 h
    refine R_ifeq (pc' := 19) rfl rfl (fun hc => ?_) (fun hc => ?_)
    · replace h := h.1 hc
      refine R_iconst (pc' := 24) rfl rfl ?_
      exact R_zret rfl rfl (Or.inl rfl) ⟨_, _, _, rfl, rfl, h⟩
    · replace h := h.2 hc
      refine R_iconst (pc' := 20) rfl rfl ?_
      refine R_goto rfl ?_
      exact R_zret rfl rfl (Or.inr rfl) ⟨_, _, _, rfl, rfl, h⟩
/-! 95 X9_numberOf -/
theorem S95 {e : En} {I : HI} {D : HD} {Q : Int → HI → HD → Prop} {x1 : Int} {x2 : Int} (he : HS e)
    (h : (-2147483648 ≤ (x2 - x1) ∧ (x2 - x1) < 2147483648) ∧ (((x2 - x1) ≤ 6 → RI 95 15 [vR (some 312), vJ, vI x2, vI 0, vI x1, vJ] [] e I D Q) ∧ (¬ ((x2 - x1) ≤ 6) → Q (-1) I D))) :
    CI 95 [vR (some 312), vI x1, vI x2] e I D Q := by
  refine Call_run (ls := [vR (some 312), vI x1, vI x2, vJ, vJ, vJ]) rfl rfl ?_
  refine R_iload_n (pc' := 1) rfl rfl rfl ?_
  refine R_iload_n (pc' := 2) rfl rfl rfl ?_
  have g1 := h.1
  replace h := h.2
  refine R_isub (pc' := 3) rfl rfl g1 ?_
  refine R_bipush (pc' := 5) rfl rfl ?_
  refine R_icle (pc' := 8) rfl rfl (fun hc => ?_) (fun hc => ?_)
  · replace h := h.1 hc
    refine R_iconst (pc' := 11) rfl rfl ?_
    refine R_istore_n (ls' := [vR (some 312), vI x1, vI x2, vI 0, vJ, vJ]) (pc' := 12) rfl rfl rfl ?_
    refine R_iload_n (pc' := 13) rfl rfl rfl ?_
    refine R_istore (ls' := [vR (some 312), vI x1, vI x2, vI 0, vI x1, vJ]) (pc' := 15) rfl rfl rfl ?_
    exact R_forget (ls' := [vR (some 312), vJ, vI x2, vI 0, vI x1, vJ]) ⟨Or.inl rfl, Or.inr rfl, Or.inl rfl, Or.inl rfl, Or.inl rfl, Or.inl rfl, trivial⟩ h
  · replace h := h.2 hc
    refine R_iconst (pc' := 9) rfl rfl ?_
    exact R_iret rfl rfl ⟨_, _, _, rfl, rfl, h⟩
theorem S95_15 {e : En} {I : HI} {D : HD} {Q : Int → HI → HD → Prop} {x2 : Int} {x3 : Int} {x4 : Int} (he : HS e)
    (h : ((x2 ≤ x4 → Q x3 I D) ∧ (¬ (x2 ≤ x4) → CI 88 [vR (some 312), vI x4] e I D (fun z1 I2 D3 => ((z1 < 48 → Q (-1) I2 D3) ∧ (¬ (z1 < 48) → ((z1 ≤ 57 → (-2147483648 ≤ (10 * x3) ∧ (10 * x3) < 2147483648) ∧ (-2147483648 ≤ ((10 * x3) + z1) ∧ ((10 * x3) + z1) < 2147483648) ∧ (-2147483648 ≤ (((10 * x3) + z1) - 48) ∧ (((10 * x3) + z1) - 48) < 2147483648) ∧ (-2147483648 ≤ (x4 + 1) ∧ (x4 + 1) < 2147483648) ∧ RI 95 15 [vR (some 312), vJ, vI x2, vI (((10 * x3) + z1) - 48), vI (x4 + 1), vJ] [] e I2 D3 Q) ∧ (¬ (z1 ≤ 57) → Q (-1) I2 D3)))))))) :
    RI 95 15 [vR (some 312), vJ, vI x2, vI x3, vI x4, vJ] [] e I D Q := by
  show Run 95 15 [vR (some 312), vJ, vI x2, vI x3, vI x4, vJ] [] (mk e I D) (pI e Q)
  refine R_iload (pc' := 17) rfl rfl rfl ?_
  refine R_iload_n (pc' := 18) rfl rfl rfl ?_
  refine R_icge (pc' := 21) rfl rfl (fun hc => ?_) (fun hc => ?_)
  · replace h := h.1 hc
    refine R_iload_n (pc' := 63) rfl rfl rfl ?_
    exact R_iret rfl rfl ⟨_, _, _, rfl, rfl, h⟩
  · replace h := h.2 hc
    refine R_aload_n (pc' := 22) rfl rfl rfl ?_
    refine R_iload (pc' := 24) rfl rfl rfl ?_
    refine KI_iv (as := [vI x4]) (rest := []) (pc' := 27) rfl rfl rfl rfl rfl (Nat.le_of_ble_eq_true rfl) rfl (CI_mono h ?_)
    intro z1 I2 D3 h
    refine R_istore (ls' := [vR (some 312), vJ, vI x2, vI x3, vI x4, vI z1]) (pc' := 29) rfl rfl rfl ?_
    refine R_iload (pc' := 31) rfl rfl rfl ?_
    refine R_bipush (pc' := 33) rfl rfl ?_
    refine R_iclt (pc' := 36) rfl rfl (fun hc => ?_) (fun hc => ?_)
    · replace h := h.1 hc
      refine R_iconst (pc' := 44) rfl rfl ?_
      exact R_iret rfl rfl ⟨_, _, _, rfl, rfl, h⟩
    · replace h := h.2 hc
      refine R_iload (pc' := 38) rfl rfl rfl ?_
      refine R_bipush (pc' := 40) rfl rfl ?_
      refine R_icle (pc' := 43) rfl rfl (fun hc => ?_) (fun hc => ?_)
      · replace h := h.1 hc
        refine R_bipush (pc' := 47) rfl rfl ?_
        refine R_iload_n (pc' := 48) rfl rfl rfl ?_
        have g4 := h.1
        replace h := h.2
        refine R_imul (pc' := 49) rfl rfl g4 ?_
        refine R_iload (pc' := 51) rfl rfl rfl ?_
        have g5 := h.1
        replace h := h.2
        refine R_iadd (pc' := 52) rfl rfl g5 ?_
        refine R_bipush (pc' := 54) rfl rfl ?_
        have g6 := h.1
        replace h := h.2
        refine R_isub (pc' := 55) rfl rfl g6 ?_
        refine R_istore_n (ls' := [vR (some 312), vJ, vI x2, vI (((10 * x3) + z1) - 48), vI x4, vI z1]) (pc' := 56) rfl rfl rfl ?_
        have g7 := h.1
        replace h := h.2
        refine R_iinc (ls' := [vR (some 312), vJ, vI x2, vI (((10 * x3) + z1) - 48), vI (x4 + 1), vI z1]) (pc' := 59) rfl rfl rfl g7 rfl ?_
        refine R_goto rfl ?_
        exact R_forget (ls' := [vR (some 312), vJ, vI x2, vI (((10 * x3) + z1) - 48), vI (x4 + 1), vJ]) ⟨Or.inl rfl, Or.inl rfl, Or.inl rfl, Or.inl rfl, Or.inl rfl, Or.inr rfl, trivial⟩ h
      · replace h := h.2 hc
        refine R_iconst (pc' := 44) rfl rfl ?_
        exact R_iret rfl rfl ⟨_, _, _, rfl, rfl, h⟩
/-! 96 X9_passReference -/
theorem S96 {e : En} {I : HI} {D : HD} {Q : Int → HI → HD → Prop} {x1 : Int} {x2 : Int} (he : HS e)
    (h : CI 95 [vR (some 312), vI x1, vI x2] e I D (fun z1 I2 D3 => (((0 : Int) ≤ z1 → CI 91 [vR (some 312)] e I2 D3 (fun z4 I5 D6 => ((z4 = 0 → RI 96 42 [vR (some 312), vJ, vJ, vI (I2 312 31), vJ, vJ] [] e I5 D6 Q) ∧ (¬ (z4 = 0) → CI 95 [vR (some 312), vI (I5 312 33), vI (I5 312 34)] e I5 D6 (fun z7 I8 D9 => ((z7 < 0 → RI 96 42 [vR (some 312), vJ, vJ, vI (I2 312 31), vJ, vJ] [] e I8 D9 Q) ∧ (¬ (z7 < 0) → RI 96 43 [vR (some 312), vJ, vJ, vI (I2 312 31), vJ, vJ] [vI 1] e I8 D9 Q))))))) ∧ (¬ ((0 : Int) ≤ z1) → Q 0 I2 D3)))) :
    CI 96 [vR (some 312), vI x1, vI x2] e I D Q := by
  refine Call_run (ls := [vR (some 312), vI x1, vI x2, vJ, vJ, vJ]) rfl rfl ?_
  refine R_aload_n (pc' := 1) rfl rfl rfl ?_
  refine R_iload_n (pc' := 2) rfl rfl rfl ?_
  refine R_iload_n (pc' := 3) rfl rfl rfl ?_
  refine KI_iv (as := [vI x1, vI x2]) (rest := []) (pc' := 6) rfl rfl rfl rfl rfl (Nat.le_of_ble_eq_true rfl) rfl (CI_mono h ?_)
  intro z1 I2 D3 h
  refine R_ifge (pc' := 9) rfl rfl (fun hc => ?_) (fun hc => ?_)
  · replace h := h.1 hc
    refine R_aload_n (pc' := 12) rfl rfl rfl ?_
    refine K_getI (pc' := 15) rfl rfl (by decide) rfl rfl ?_
    refine R_istore_n (ls' := [vR (some 312), vI x1, vI x2, vI (I2 312 31), vJ, vJ]) (pc' := 16) rfl rfl rfl ?_
    refine R_aload_n (pc' := 17) rfl rfl rfl ?_
    refine KI_iv (as := []) (rest := []) (pc' := 20) rfl rfl rfl rfl rfl (Nat.le_of_ble_eq_true rfl) rfl (CI_mono h ?_)
    intro z4 I5 D6 h
    refine R_ifeq (pc' := 23) rfl rfl (fun hc => ?_) (fun hc => ?_)
    · replace h := h.1 hc
      exact R_forget (ls' := [vR (some 312), vJ, vJ, vI (I2 312 31), vJ, vJ]) ⟨Or.inl rfl, Or.inr rfl, Or.inr rfl, Or.inl rfl, Or.inl rfl, Or.inl rfl, trivial⟩ h
    · replace h := h.2 hc
      refine R_aload_n (pc' := 24) rfl rfl rfl ?_
      refine R_aload_n (pc' := 25) rfl rfl rfl ?_
      refine K_getI (pc' := 28) rfl rfl (by decide) rfl rfl ?_
      refine R_aload_n (pc' := 29) rfl rfl rfl ?_
      refine K_getI (pc' := 32) rfl rfl (by decide) rfl rfl ?_
      refine KI_iv (as := [vI (I5 312 33), vI (I5 312 34)]) (rest := []) (pc' := 35) rfl rfl rfl rfl rfl (Nat.le_of_ble_eq_true rfl) rfl (CI_mono h ?_)
      intro z7 I8 D9 h
      refine R_iflt (pc' := 38) rfl rfl (fun hc => ?_) (fun hc => ?_)
      · replace h := h.1 hc
        exact R_forget (ls' := [vR (some 312), vJ, vJ, vI (I2 312 31), vJ, vJ]) ⟨Or.inl rfl, Or.inr rfl, Or.inr rfl, Or.inl rfl, Or.inl rfl, Or.inl rfl, trivial⟩ h
      · replace h := h.2 hc
        refine R_iconst (pc' := 39) rfl rfl ?_
        refine R_goto rfl ?_
        exact R_forget (ls' := [vR (some 312), vJ, vJ, vI (I2 312 31), vJ, vJ]) ⟨Or.inl rfl, Or.inr rfl, Or.inr rfl, Or.inl rfl, Or.inl rfl, Or.inl rfl, trivial⟩ h
  · replace h := h.2 hc
    refine R_iconst (pc' := 10) rfl rfl ?_
    exact R_zret rfl rfl (Or.inl rfl) ⟨_, _, _, rfl, rfl, h⟩
theorem S96_42 {e : En} {I : HI} {D : HD} {Q : Int → HI → HD → Prop} {x3 : Int} (he : HS e)
    (h : RI 96 43 [vR (some 312), vJ, vJ, vI x3, vJ, vJ] [vI 0] e I D Q) :
    RI 96 42 [vR (some 312), vJ, vJ, vI x3, vJ, vJ] [] e I D Q := by
  show Run 96 42 [vR (some 312), vJ, vJ, vI x3, vJ, vJ] [] (mk e I D) (pI e Q)
  refine R_iconst (pc' := 43) rfl rfl ?_
  exact h
theorem S96_43 {e : En} {I : HI} {D : HD} {Q : Int → HI → HD → Prop} {x3 : Int} {y0 : Int} (he : HS e)
    (h : ((y0 = 0 → RI 96 80 [vR (some 312), vJ, vJ, vI x3, vJ, vJ] [] e I D Q) ∧ (¬ (y0 = 0) → CI 91 [vR (some 312)] e I D (fun z1 I2 D3 => ((z1 = 0 → RI 96 80 [vR (some 312), vJ, vJ, vI x3, vJ, vJ] [] e I2 D3 Q) ∧ (¬ (z1 = 0) → CI 94 [vR (some 312), vI (I2 312 33), vI (I2 312 34), vL 82, vI 1] e I2 D3 (fun z4 I5 D6 => ((z4 = 0 → RI 96 80 [vR (some 312), vJ, vJ, vI x3, vJ, vJ] [] e I5 D6 Q) ∧ (¬ (z4 = 0) → RI 96 81 [vR (some 312), vJ, vJ, vI x3, vJ, vJ] [vI 1] e I5 D6 Q))))))))) :
    RI 96 43 [vR (some 312), vJ, vJ, vI x3, vJ, vJ] [vI y0] e I D Q := by
  show Run 96 43 [vR (some 312), vJ, vJ, vI x3, vJ, vJ] [vI y0] (mk e I D) (pI e Q)
  refine R_istore (ls' := [vR (some 312), vJ, vJ, vI x3, vI y0, vJ]) (pc' := 45) rfl rfl rfl ?_
  refine R_iload (pc' := 47) rfl rfl rfl ?_
  refine R_ifeq (pc' := 50) rfl rfl (fun hc => ?_) (fun hc => ?_)
  · replace h := h.1 hc
    exact R_forget (ls' := [vR (some 312), vJ, vJ, vI x3, vJ, vJ]) ⟨Or.inl rfl, Or.inl rfl, Or.inl rfl, Or.inl rfl, Or.inr rfl, Or.inl rfl, trivial⟩ h
  · replace h := h.2 hc
    refine R_aload_n (pc' := 51) rfl rfl rfl ?_
    refine KI_iv (as := []) (rest := []) (pc' := 54) rfl rfl rfl rfl rfl (Nat.le_of_ble_eq_true rfl) rfl (CI_mono h ?_)
    intro z1 I2 D3 h
    refine R_ifeq (pc' := 57) rfl rfl (fun hc => ?_) (fun hc => ?_)
    · replace h := h.1 hc
      exact R_forget (ls' := [vR (some 312), vJ, vJ, vI x3, vJ, vJ]) ⟨Or.inl rfl, Or.inl rfl, Or.inl rfl, Or.inl rfl, Or.inr rfl, Or.inl rfl, trivial⟩ h
    · replace h := h.2 hc
      refine R_aload_n (pc' := 58) rfl rfl rfl ?_
      refine R_aload_n (pc' := 59) rfl rfl rfl ?_
      refine K_getI (pc' := 62) rfl rfl (by decide) rfl rfl ?_
      refine R_aload_n (pc' := 63) rfl rfl rfl ?_
      refine K_getI (pc' := 66) rfl rfl (by decide) rfl rfl ?_
      refine R_ldc2 (pc' := 69) rfl rfl ?_
      refine R_iconst (pc' := 70) rfl rfl ?_
      refine KI_iv (as := [vI (I2 312 33), vI (I2 312 34), vL 82, vI 1]) (rest := []) (pc' := 73) rfl rfl rfl rfl rfl (Nat.le_of_ble_eq_true rfl) rfl (CI_mono h ?_)
      intro z4 I5 D6 h
      refine R_ifeq (pc' := 76) rfl rfl (fun hc => ?_) (fun hc => ?_)
      · replace h := h.1 hc
        exact R_forget (ls' := [vR (some 312), vJ, vJ, vI x3, vJ, vJ]) ⟨Or.inl rfl, Or.inl rfl, Or.inl rfl, Or.inl rfl, Or.inr rfl, Or.inl rfl, trivial⟩ h
      · replace h := h.2 hc
        refine R_iconst (pc' := 77) rfl rfl ?_
        refine R_goto rfl ?_
        exact R_forget (ls' := [vR (some 312), vJ, vJ, vI x3, vJ, vJ]) ⟨Or.inl rfl, Or.inl rfl, Or.inl rfl, Or.inl rfl, Or.inr rfl, Or.inl rfl, trivial⟩ h
theorem S96_80 {e : En} {I : HI} {D : HD} {Q : Int → HI → HD → Prop} {x3 : Int} (he : HS e)
    (h : RI 96 81 [vR (some 312), vJ, vJ, vI x3, vJ, vJ] [vI 0] e I D Q) :
    RI 96 80 [vR (some 312), vJ, vJ, vI x3, vJ, vJ] [] e I D Q := by
  show Run 96 80 [vR (some 312), vJ, vJ, vI x3, vJ, vJ] [] (mk e I D) (pI e Q)
  refine R_iconst (pc' := 81) rfl rfl ?_
  exact h
theorem S96_81 {e : En} {I : HI} {D : HD} {Q : Int → HI → HD → Prop} {x3 : Int} {y0 : Int} (he : HS e)
    (h : ((y0 = 0 → (y0 = 0 ∨ y0 = 1) ∧ Q y0 (uI I 312 31 x3) D) ∧ (¬ (y0 = 0) → (y0 = 0 ∨ y0 = 1) ∧ Q y0 (uI I 312 31 (I 312 31)) D))) :
    RI 96 81 [vR (some 312), vJ, vJ, vI x3, vJ, vJ] [vI y0] e I D Q := by
  show Run 96 81 [vR (some 312), vJ, vJ, vI x3, vJ, vJ] [vI y0] (mk e I D) (pI e Q)
  refine R_istore (ls' := [vR (some 312), vJ, vJ, vI x3, vJ, vI y0]) (pc' := 83) rfl rfl rfl ?_
  refine R_aload_n (pc' := 84) rfl rfl rfl ?_
  refine R_iload (pc' := 86) rfl rfl rfl ?_
  refine R_ifeq (pc' := 89) rfl rfl (fun hc => ?_) (fun hc => ?_)
  · replace h := h.1 hc
    refine R_iload_n (pc' := 97) rfl rfl rfl ?_
    refine K_putI (pc' := 100) rfl rfl (by decide) (fun h => absurd h (by decide)) rfl ?_
    refine R_iload (pc' := 102) rfl rfl rfl ?_
    have g1 := h.1
    replace h := h.2
    exact R_zret rfl rfl g1 ⟨_, _, _, rfl, rfl, h⟩
  · replace h := h.2 hc
    refine R_aload_n (pc' := 90) rfl rfl rfl ?_
    refine K_getI (pc' := 93) rfl rfl (by decide) rfl rfl ?_
    refine R_goto rfl ?_
    refine K_putI (pc' := 100) rfl rfl (by decide) (fun h => absurd h (by decide)) rfl ?_
    refine R_iload (pc' := 102) rfl rfl rfl ?_
    have g2 := h.1
    replace h := h.2
    exact R_zret rfl rfl g2 ⟨_, _, _, rfl, rfl, h⟩
/-! 97 X9_keepReference -/
theorem S97 {e : En} {I : HI} {D : HD} {Q : HI → HD → Prop} {x1 : Int} {x2 : Int} (he : HS e)
    (h : (0 ≤ (I 312 38) ∧ (I 312 38) < 700) ∧ (0 ≤ (I 312 38) ∧ (I 312 38) < 700) ∧ (0 ≤ (I 312 38) ∧ (I 312 38) < 700) ∧ (-2147483648 ≤ ((I 312 38) + 1) ∧ ((I 312 38) + 1) < 2147483648) ∧ Q (uI (uI (uI (uI I 333 (((I 312 38) : Int).toNat) x1) 334 (((I 312 38) : Int).toNat) (I 312 31)) 335 (((I 312 38) : Int).toNat) x2) 312 38 ((I 312 38) + 1)) D) :
    CV 97 [vR (some 312), vI x1, vI x2] e I D Q := by
  refine Call_run (ls := [vR (some 312), vI x1, vI x2]) rfl rfl ?_
  refine R_aload_n (pc' := 1) rfl rfl rfl ?_
  refine K_getR (pc' := 4) rfl rfl rfl rfl (st_at he rfl rfl (by decide)) ?_
  refine R_aload_n (pc' := 5) rfl rfl rfl ?_
  refine K_getI (pc' := 8) rfl rfl (by decide) rfl rfl ?_
  refine R_iload_n (pc' := 9) rfl rfl rfl ?_
  have g1 := h.1
  replace h := h.2
  refine K_iast (pc' := 10) rfl rfl rfl g1.1 g1.2 ?_
  refine R_aload_n (pc' := 11) rfl rfl rfl ?_
  refine K_getR (pc' := 14) rfl rfl rfl rfl (st_at he rfl rfl (by decide)) ?_
  refine R_aload_n (pc' := 15) rfl rfl rfl ?_
  refine K_getI (pc' := 18) rfl rfl (by decide) rfl rfl ?_
  refine R_aload_n (pc' := 19) rfl rfl rfl ?_
  refine K_getI (pc' := 22) rfl rfl (by decide) rfl rfl ?_
  have g2 := h.1
  replace h := h.2
  refine K_iast (pc' := 23) rfl rfl rfl g2.1 g2.2 ?_
  refine R_aload_n (pc' := 24) rfl rfl rfl ?_
  refine K_getR (pc' := 27) rfl rfl rfl rfl (st_at he rfl rfl (by decide)) ?_
  refine R_aload_n (pc' := 28) rfl rfl rfl ?_
  refine K_getI (pc' := 31) rfl rfl (by decide) rfl rfl ?_
  refine R_iload_n (pc' := 32) rfl rfl rfl ?_
  have g3 := h.1
  replace h := h.2
  refine K_iast (pc' := 33) rfl rfl rfl g3.1 g3.2 ?_
  refine R_aload_n (pc' := 34) rfl rfl rfl ?_
  refine R_dup (pc' := 35) rfl rfl rfl ?_
  refine K_getI (pc' := 38) rfl rfl (by decide) rfl rfl ?_
  refine R_iconst (pc' := 39) rfl rfl ?_
  have g4 := h.1
  replace h := h.2
  refine R_iadd (pc' := 40) rfl rfl g4 ?_
  refine K_putI (pc' := 43) rfl rfl (by decide) (fun h => absurd h (by decide)) rfl ?_
  exact R_vret rfl rfl ⟨_, _, rfl, rfl, h⟩
/-! 98 X9_read -/
theorem S98 {e : En} {I : HI} {D : HD} {Q : HI → HD → Prop} {x1 : Int} {x2 : Int} {w3 : Int} {x5 : Int} (he : HS e)
    (h : CI 91 [vR (some 312)] e (uI (uI (uI (uI (uI (uI I 312 31 x1) 312 32 x2) 312 38 0) 312 42 0) 312 45 0) 312 37 (-1)) D (fun z1 I2 D3 => ((z1 = 0 → RV 98 61 [vR (some 312), vJ, vJ, vL w3, vJ, vI x5, vJ] [vR (some 312)] e I2 D3 Q) ∧ (¬ (z1 = 0) → CI 94 [vR (some 312), vI (I2 312 33), vI (I2 312 34), vL 15420, vI 2] e I2 D3 (fun z4 I5 D6 => ((z4 = 0 → RV 98 61 [vR (some 312), vJ, vJ, vL w3, vJ, vI x5, vJ] [vR (some 312)] e I5 D6 Q) ∧ (¬ (z4 = 0) → RV 98 62 [vR (some 312), vJ, vJ, vL w3, vJ, vI x5, vJ] [vI 1, vR (some 312)] e I5 D6 Q))))))) :
    CV 98 [vR (some 312), vI x1, vI x2, vL w3, vI x5] e I D Q := by
  refine Call_run (ls := [vR (some 312), vI x1, vI x2, vL w3, vJ, vI x5, vJ]) rfl rfl ?_
  refine R_aload_n (pc' := 1) rfl rfl rfl ?_
  refine R_iload_n (pc' := 2) rfl rfl rfl ?_
  refine K_putI (pc' := 5) rfl rfl (by decide) (fun h => absurd h (by decide)) rfl ?_
  refine R_aload_n (pc' := 6) rfl rfl rfl ?_
  refine R_iload_n (pc' := 7) rfl rfl rfl ?_
  refine K_putI (pc' := 10) rfl rfl (by decide) (fun h => absurd h (by decide)) rfl ?_
  refine R_aload_n (pc' := 11) rfl rfl rfl ?_
  refine R_iconst (pc' := 12) rfl rfl ?_
  refine K_putI (pc' := 15) rfl rfl (by decide) (fun h => absurd h (by decide)) rfl ?_
  refine R_aload_n (pc' := 16) rfl rfl rfl ?_
  refine R_iconst (pc' := 17) rfl rfl ?_
  refine K_putI (pc' := 20) rfl rfl (by decide) (fun h => absurd h (by decide)) rfl ?_
  refine R_aload_n (pc' := 21) rfl rfl rfl ?_
  refine R_iconst (pc' := 22) rfl rfl ?_
  refine K_putI (pc' := 25) rfl rfl (by decide) (fun _ => Or.inl rfl) rfl ?_
  refine R_aload_n (pc' := 26) rfl rfl rfl ?_
  refine R_iconst (pc' := 27) rfl rfl ?_
  refine K_putI (pc' := 30) rfl rfl (by decide) (fun h => absurd h (by decide)) rfl ?_
  refine R_aload_n (pc' := 31) rfl rfl rfl ?_
  refine R_aload_n (pc' := 32) rfl rfl rfl ?_
  refine KI_iv (as := []) (rest := [vR (some 312)]) (pc' := 35) rfl rfl rfl rfl rfl (Nat.le_of_ble_eq_true rfl) rfl (CI_mono h ?_)
  intro z1 I2 D3 h
  refine R_ifeq (pc' := 38) rfl rfl (fun hc => ?_) (fun hc => ?_)
  · replace h := h.1 hc
    exact R_forget (ls' := [vR (some 312), vJ, vJ, vL w3, vJ, vI x5, vJ]) ⟨Or.inl rfl, Or.inr rfl, Or.inr rfl, Or.inl rfl, Or.inl rfl, Or.inl rfl, Or.inl rfl, trivial⟩ h
  · replace h := h.2 hc
    refine R_aload_n (pc' := 39) rfl rfl rfl ?_
    refine R_aload_n (pc' := 40) rfl rfl rfl ?_
    refine K_getI (pc' := 43) rfl rfl (by decide) rfl rfl ?_
    refine R_aload_n (pc' := 44) rfl rfl rfl ?_
    refine K_getI (pc' := 47) rfl rfl (by decide) rfl rfl ?_
    refine R_ldc2 (pc' := 50) rfl rfl ?_
    refine R_iconst (pc' := 51) rfl rfl ?_
    refine KI_iv (as := [vI (I2 312 33), vI (I2 312 34), vL 15420, vI 2]) (rest := [vR (some 312)]) (pc' := 54) rfl rfl rfl rfl rfl (Nat.le_of_ble_eq_true rfl) rfl (CI_mono h ?_)
    intro z4 I5 D6 h
    refine R_ifeq (pc' := 57) rfl rfl (fun hc => ?_) (fun hc => ?_)
    · replace h := h.1 hc
      exact R_forget (ls' := [vR (some 312), vJ, vJ, vL w3, vJ, vI x5, vJ]) ⟨Or.inl rfl, Or.inr rfl, Or.inr rfl, Or.inl rfl, Or.inl rfl, Or.inl rfl, Or.inl rfl, trivial⟩ h
    · replace h := h.2 hc
      refine R_iconst (pc' := 58) rfl rfl ?_
      refine R_goto rfl ?_
      exact R_forget (ls' := [vR (some 312), vJ, vJ, vL w3, vJ, vI x5, vJ]) ⟨Or.inl rfl, Or.inr rfl, Or.inr rfl, Or.inl rfl, Or.inl rfl, Or.inl rfl, Or.inl rfl, trivial⟩ h
theorem S98_61 {e : En} {I : HI} {D : HD} {Q : HI → HD → Prop} {w3 : Int} {x5 : Int} (he : HS e)
    (h : RV 98 62 [vR (some 312), vJ, vJ, vL w3, vJ, vI x5, vJ] [vI 0, vR (some 312)] e I D Q) :
    RV 98 61 [vR (some 312), vJ, vJ, vL w3, vJ, vI x5, vJ] [vR (some 312)] e I D Q := by
  show Run 98 61 [vR (some 312), vJ, vJ, vL w3, vJ, vI x5, vJ] [vR (some 312)] (mk e I D) (pV e Q)
  refine R_iconst (pc' := 62) rfl rfl ?_
  exact h
theorem S98_62 {e : En} {I : HI} {D : HD} {Q : HI → HD → Prop} {w3 : Int} {x5 : Int} {y1 : Int} (he : HS e)
    (h : (y1 = 0 ∨ y1 = 1) ∧ ((¬ y1 = 0 → RV 98 84 [vR (some 312), vJ, vJ, vL w3, vJ, vI x5, vI 1] [] e (uI (uI I 312 35 y1) 312 36 (I 312 34)) D Q) ∧ (¬ (¬ y1 = 0) → Q (uI I 312 35 y1) D))) :
    RV 98 62 [vR (some 312), vJ, vJ, vL w3, vJ, vI x5, vJ] [vI y1, vR (some 312)] e I D Q := by
  show Run 98 62 [vR (some 312), vJ, vJ, vL w3, vJ, vI x5, vJ] [vI y1, vR (some 312)] (mk e I D) (pV e Q)
  have g1 := h.1
  replace h := h.2
  refine K_putI (pc' := 65) rfl rfl (by decide) (fun _ => g1) rfl ?_
  refine R_aload_n (pc' := 66) rfl rfl rfl ?_
  refine K_getI (pc' := 69) rfl rfl (by decide) rfl rfl ?_
  refine R_ifne (pc' := 72) rfl rfl (fun hc => ?_) (fun hc => ?_)
  · replace h := h.1 hc
    refine R_aload_n (pc' := 74) rfl rfl rfl ?_
    refine R_aload_n (pc' := 75) rfl rfl rfl ?_
    refine K_getI (pc' := 78) rfl rfl (by decide) rfl rfl ?_
    refine K_putI (pc' := 81) rfl rfl (by decide) (fun h => absurd h (by decide)) rfl ?_
    refine R_iconst (pc' := 82) rfl rfl ?_
    refine R_istore (ls' := [vR (some 312), vJ, vJ, vL w3, vJ, vI x5, vI 1]) (pc' := 84) rfl rfl rfl ?_
    exact h
  · replace h := h.2 hc
    exact R_vret rfl rfl ⟨_, _, rfl, rfl, h⟩
theorem S98_84 {e : En} {I : HI} {D : HD} {Q : HI → HD → Prop} {w3 : Int} {x5 : Int} {x6 : Int} (he : HS e)
    (h : ((x6 = 0 → Q I D) ∧ (¬ (x6 = 0) → CI 91 [vR (some 312)] e I D (fun z1 I2 D3 => ((z1 = 0 → Q I2 D3) ∧ (¬ (z1 = 0) → CI 94 [vR (some 312), vI (I2 312 33), vI (I2 312 34), vL 15934, vI 2] e I2 D3 (fun z4 I5 D6 => ((z4 = 0 → CI 88 [vR (some 312), vI (I5 312 33)] e I5 D6 (fun z7 I8 D9 => ((¬ z7 = 47 → RV 98 84 [vR (some 312), vJ, vJ, vL w3, vJ, vI x5, vI x6] [] e I8 D9 Q) ∧ (¬ (¬ z7 = 47) → CV 99 [vR (some 312), vL w3, vI x5] e I8 D9 (fun I11 D12 => RV 98 84 [vR (some 312), vJ, vJ, vL w3, vJ, vI x5, vI x6] [] e I11 D12 Q))))) ∧ (¬ (z4 = 0) → RV 98 84 [vR (some 312), vJ, vJ, vL w3, vJ, vI x5, vI 0] [] e (uI I5 312 37 (I5 312 34)) D6 Q))))))))) :
    RV 98 84 [vR (some 312), vJ, vJ, vL w3, vJ, vI x5, vI x6] [] e I D Q := by
  show Run 98 84 [vR (some 312), vJ, vJ, vL w3, vJ, vI x5, vI x6] [] (mk e I D) (pV e Q)
  refine R_iload (pc' := 86) rfl rfl rfl ?_
  refine R_ifeq (pc' := 89) rfl rfl (fun hc => ?_) (fun hc => ?_)
  · replace h := h.1 hc
    exact R_vret rfl rfl ⟨_, _, rfl, rfl, h⟩
  · replace h := h.2 hc
    refine R_aload_n (pc' := 90) rfl rfl rfl ?_
    refine KI_iv (as := []) (rest := []) (pc' := 93) rfl rfl rfl rfl rfl (Nat.le_of_ble_eq_true rfl) rfl (CI_mono h ?_)
    intro z1 I2 D3 h
    refine R_ifeq (pc' := 96) rfl rfl (fun hc => ?_) (fun hc => ?_)
    · replace h := h.1 hc
      exact R_vret rfl rfl ⟨_, _, rfl, rfl, h⟩
    · replace h := h.2 hc
      refine R_aload_n (pc' := 97) rfl rfl rfl ?_
      refine R_aload_n (pc' := 98) rfl rfl rfl ?_
      refine K_getI (pc' := 101) rfl rfl (by decide) rfl rfl ?_
      refine R_aload_n (pc' := 102) rfl rfl rfl ?_
      refine K_getI (pc' := 105) rfl rfl (by decide) rfl rfl ?_
      refine R_ldc2 (pc' := 108) rfl rfl ?_
      refine R_iconst (pc' := 109) rfl rfl ?_
      refine KI_iv (as := [vI (I2 312 33), vI (I2 312 34), vL 15934, vI 2]) (rest := []) (pc' := 112) rfl rfl rfl rfl rfl (Nat.le_of_ble_eq_true rfl) rfl (CI_mono h ?_)
      intro z4 I5 D6 h
      refine R_ifeq (pc' := 115) rfl rfl (fun hc => ?_) (fun hc => ?_)
      · replace h := h.1 hc
        refine R_aload_n (pc' := 130) rfl rfl rfl ?_
        refine R_aload_n (pc' := 131) rfl rfl rfl ?_
        refine K_getI (pc' := 134) rfl rfl (by decide) rfl rfl ?_
        refine KI_iv (as := [vI (I5 312 33)]) (rest := []) (pc' := 137) rfl rfl rfl rfl rfl (Nat.le_of_ble_eq_true rfl) rfl (CI_mono h ?_)
        intro z7 I8 D9 h
        refine R_bipush (pc' := 139) rfl rfl ?_
        refine R_icne (pc' := 142) rfl rfl (fun hc => ?_) (fun hc => ?_)
        · replace h := h.1 hc
          exact h
        · replace h := h.2 hc
          refine R_aload_n (pc' := 143) rfl rfl rfl ?_
          refine R_lload_n (pc' := 144) rfl rfl rfl ?_
          refine R_iload (pc' := 146) rfl rfl rfl ?_
          refine KV_iv (as := [vL w3, vI x5]) (rest := []) (pc' := 149) rfl rfl rfl rfl rfl (Nat.le_of_ble_eq_true rfl) rfl (CV_mono h ?_)
          intro I11 D12 h
          refine R_goto rfl ?_
          exact h
      · replace h := h.2 hc
        refine R_aload_n (pc' := 116) rfl rfl rfl ?_
        refine R_aload_n (pc' := 117) rfl rfl rfl ?_
        refine K_getI (pc' := 120) rfl rfl (by decide) rfl rfl ?_
        refine K_putI (pc' := 123) rfl rfl (by decide) (fun h => absurd h (by decide)) rfl ?_
        refine R_iconst (pc' := 124) rfl rfl ?_
        refine R_istore (ls' := [vR (some 312), vJ, vJ, vL w3, vJ, vI x5, vI 0]) (pc' := 126) rfl rfl rfl ?_
        refine R_goto rfl ?_
        exact h
/-! 99 X9_readPair -/
theorem S99 {e : En} {I : HI} {D : HD} {Q : HI → HD → Prop} {w1 : Int} {x3 : Int} (he : HS e)
    (h : CI 94 [vR (some 312), vI (I 312 33), vI (I 312 34), vL w1, vI x3] e I D (fun z1 I2 D3 => CI 94 [vR (some 312), vI (I2 312 33), vI (I2 312 34), vL 29401385160494127, vI 7] e I2 D3 (fun z4 I5 D6 => CI 91 [vR (some 312)] e I5 D6 (fun z7 I8 D9 => ((¬ z7 = 0 → CI 94 [vR (some 312), vI (I8 312 33), vI (I8 312 34), vL 15934, vI 2] e I8 D9 (fun z10 I11 D12 => ((z10 = 0 → CI 94 [vR (some 312), vI (I11 312 33), vI (I11 312 34), vL 91, vI 1] e I11 D12 (fun z13 I14 D15 => ((¬ z13 = 0 → RV 99 133 [vR (some 312), vJ, vJ, vJ, vI (I 312 33), vI z1, vI z4, vJ, vI (I11 312 33), vI (I11 312 34), vI (I11 312 38), vI z13, vJ, vJ] [] e I14 D15 Q) ∧ (¬ (¬ z13 = 0) → CI 94 [vR (some 312), vI (I11 312 33), vI (I11 312 34), vL 15420, vI 2] e I14 D15 (fun z16 I17 D18 => ((z16 = 0 → RV 99 138 [vR (some 312), vJ, vJ, vJ, vI (I 312 33), vI z1, vI z4, vJ, vI (I11 312 33), vI (I11 312 34), vI (I11 312 38), vI z13, vJ, vJ] [vI 0] e I17 D18 Q) ∧ (¬ (z16 = 0) → RV 99 133 [vR (some 312), vJ, vJ, vJ, vI (I 312 33), vI z1, vI z4, vJ, vI (I11 312 33), vI (I11 312 34), vI (I11 312 38), vI z13, vJ, vJ] [] e I17 D18 Q))))))) ∧ (¬ (z10 = 0) → Q (uI I11 312 31 (I5 312 31)) D12)))) ∧ (¬ (¬ z7 = 0) → Q I8 D9)))))) :
    CV 99 [vR (some 312), vL w1, vI x3] e I D Q := by
  refine Call_run (ls := [vR (some 312), vL w1, vJ, vI x3, vJ, vJ, vJ, vJ, vJ, vJ, vJ, vJ, vJ, vJ]) rfl rfl ?_
  refine R_aload_n (pc' := 1) rfl rfl rfl ?_
  refine K_getI (pc' := 4) rfl rfl (by decide) rfl rfl ?_
  refine R_istore (ls' := [vR (some 312), vL w1, vJ, vI x3, vI (I 312 33), vJ, vJ, vJ, vJ, vJ, vJ, vJ, vJ, vJ]) (pc' := 6) rfl rfl rfl ?_
  refine R_aload_n (pc' := 7) rfl rfl rfl ?_
  refine R_aload_n (pc' := 8) rfl rfl rfl ?_
  refine K_getI (pc' := 11) rfl rfl (by decide) rfl rfl ?_
  refine R_aload_n (pc' := 12) rfl rfl rfl ?_
  refine K_getI (pc' := 15) rfl rfl (by decide) rfl rfl ?_
  refine R_lload_n (pc' := 16) rfl rfl rfl ?_
  refine R_iload_n (pc' := 17) rfl rfl rfl ?_
  refine KI_iv (as := [vI (I 312 33), vI (I 312 34), vL w1, vI x3]) (rest := []) (pc' := 20) rfl rfl rfl rfl rfl (Nat.le_of_ble_eq_true rfl) rfl (CI_mono h ?_)
  intro z1 I2 D3 h
  refine R_istore (ls' := [vR (some 312), vL w1, vJ, vI x3, vI (I 312 33), vI z1, vJ, vJ, vJ, vJ, vJ, vJ, vJ, vJ]) (pc' := 22) rfl rfl rfl ?_
  refine R_aload_n (pc' := 23) rfl rfl rfl ?_
  refine R_aload_n (pc' := 24) rfl rfl rfl ?_
  refine K_getI (pc' := 27) rfl rfl (by decide) rfl rfl ?_
  refine R_aload_n (pc' := 28) rfl rfl rfl ?_
  refine K_getI (pc' := 31) rfl rfl (by decide) rfl rfl ?_
  refine R_ldc2 (pc' := 34) rfl rfl ?_
  refine R_bipush (pc' := 36) rfl rfl ?_
  refine KI_iv (as := [vI (I2 312 33), vI (I2 312 34), vL 29401385160494127, vI 7]) (rest := []) (pc' := 39) rfl rfl rfl rfl rfl (Nat.le_of_ble_eq_true rfl) rfl (CI_mono h ?_)
  intro z4 I5 D6 h
  refine R_istore (ls' := [vR (some 312), vL w1, vJ, vI x3, vI (I 312 33), vI z1, vI z4, vJ, vJ, vJ, vJ, vJ, vJ, vJ]) (pc' := 41) rfl rfl rfl ?_
  refine R_aload_n (pc' := 42) rfl rfl rfl ?_
  refine K_getI (pc' := 45) rfl rfl (by decide) rfl rfl ?_
  refine R_istore (ls' := [vR (some 312), vL w1, vJ, vI x3, vI (I 312 33), vI z1, vI z4, vI (I5 312 31), vJ, vJ, vJ, vJ, vJ, vJ]) (pc' := 47) rfl rfl rfl ?_
  refine R_aload_n (pc' := 48) rfl rfl rfl ?_
  refine KI_iv (as := []) (rest := []) (pc' := 51) rfl rfl rfl rfl rfl (Nat.le_of_ble_eq_true rfl) rfl (CI_mono h ?_)
  intro z7 I8 D9 h
  refine R_ifne (pc' := 54) rfl rfl (fun hc => ?_) (fun hc => ?_)
  · replace h := h.1 hc
    refine R_aload_n (pc' := 56) rfl rfl rfl ?_
    refine R_aload_n (pc' := 57) rfl rfl rfl ?_
    refine K_getI (pc' := 60) rfl rfl (by decide) rfl rfl ?_
    refine R_aload_n (pc' := 61) rfl rfl rfl ?_
    refine K_getI (pc' := 64) rfl rfl (by decide) rfl rfl ?_
    refine R_ldc2 (pc' := 67) rfl rfl ?_
    refine R_iconst (pc' := 68) rfl rfl ?_
    refine KI_iv (as := [vI (I8 312 33), vI (I8 312 34), vL 15934, vI 2]) (rest := []) (pc' := 71) rfl rfl rfl rfl rfl (Nat.le_of_ble_eq_true rfl) rfl (CI_mono h ?_)
    intro z10 I11 D12 h
    refine R_ifeq (pc' := 74) rfl rfl (fun hc => ?_) (fun hc => ?_)
    · replace h := h.1 hc
      refine R_aload_n (pc' := 82) rfl rfl rfl ?_
      refine K_getI (pc' := 85) rfl rfl (by decide) rfl rfl ?_
      refine R_istore (ls' := [vR (some 312), vL w1, vJ, vI x3, vI (I 312 33), vI z1, vI z4, vI (I5 312 31), vI (I11 312 33), vJ, vJ, vJ, vJ, vJ]) (pc' := 87) rfl rfl rfl ?_
      refine R_aload_n (pc' := 88) rfl rfl rfl ?_
      refine K_getI (pc' := 91) rfl rfl (by decide) rfl rfl ?_
      refine R_istore (ls' := [vR (some 312), vL w1, vJ, vI x3, vI (I 312 33), vI z1, vI z4, vI (I5 312 31), vI (I11 312 33), vI (I11 312 34), vJ, vJ, vJ, vJ]) (pc' := 93) rfl rfl rfl ?_
      refine R_aload_n (pc' := 94) rfl rfl rfl ?_
      refine K_getI (pc' := 97) rfl rfl (by decide) rfl rfl ?_
      refine R_istore (ls' := [vR (some 312), vL w1, vJ, vI x3, vI (I 312 33), vI z1, vI z4, vI (I5 312 31), vI (I11 312 33), vI (I11 312 34), vI (I11 312 38), vJ, vJ, vJ]) (pc' := 99) rfl rfl rfl ?_
      refine R_aload_n (pc' := 100) rfl rfl rfl ?_
      refine R_iload (pc' := 102) rfl rfl rfl ?_
      refine R_iload (pc' := 104) rfl rfl rfl ?_
      refine R_ldc2 (pc' := 107) rfl rfl ?_
      refine R_iconst (pc' := 108) rfl rfl ?_
      refine KI_iv (as := [vI (I11 312 33), vI (I11 312 34), vL 91, vI 1]) (rest := []) (pc' := 111) rfl rfl rfl rfl rfl (Nat.le_of_ble_eq_true rfl) rfl (CI_mono h ?_)
      intro z13 I14 D15 h
      refine R_istore (ls' := [vR (some 312), vL w1, vJ, vI x3, vI (I 312 33), vI z1, vI z4, vI (I5 312 31), vI (I11 312 33), vI (I11 312 34), vI (I11 312 38), vI z13, vJ, vJ]) (pc' := 113) rfl rfl rfl ?_
      refine R_iload (pc' := 115) rfl rfl rfl ?_
      refine R_ifne (pc' := 118) rfl rfl (fun hc => ?_) (fun hc => ?_)
      · replace h := h.1 hc
        exact R_forget (ls' := [vR (some 312), vJ, vJ, vJ, vI (I 312 33), vI z1, vI z4, vJ, vI (I11 312 33), vI (I11 312 34), vI (I11 312 38), vI z13, vJ, vJ]) ⟨Or.inl rfl, Or.inr rfl, Or.inl rfl, Or.inr rfl, Or.inl rfl, Or.inl rfl, Or.inl rfl, Or.inr rfl, Or.inl rfl, Or.inl rfl, Or.inl rfl, Or.inl rfl, Or.inl rfl, Or.inl rfl, trivial⟩ h
      · replace h := h.2 hc
        refine R_aload_n (pc' := 119) rfl rfl rfl ?_
        refine R_iload (pc' := 121) rfl rfl rfl ?_
        refine R_iload (pc' := 123) rfl rfl rfl ?_
        refine R_ldc2 (pc' := 126) rfl rfl ?_
        refine R_iconst (pc' := 127) rfl rfl ?_
        refine KI_iv (as := [vI (I11 312 33), vI (I11 312 34), vL 15420, vI 2]) (rest := []) (pc' := 130) rfl rfl rfl rfl rfl (Nat.le_of_ble_eq_true rfl) rfl (CI_mono h ?_)
        intro z16 I17 D18 h
        refine R_ifeq (pc' := 133) rfl rfl (fun hc => ?_) (fun hc => ?_)
        · replace h := h.1 hc
          refine R_iconst (pc' := 138) rfl rfl ?_
          exact R_forget (ls' := [vR (some 312), vJ, vJ, vJ, vI (I 312 33), vI z1, vI z4, vJ, vI (I11 312 33), vI (I11 312 34), vI (I11 312 38), vI z13, vJ, vJ]) ⟨Or.inl rfl, Or.inr rfl, Or.inl rfl, Or.inr rfl, Or.inl rfl, Or.inl rfl, Or.inl rfl, Or.inr rfl, Or.inl rfl, Or.inl rfl, Or.inl rfl, Or.inl rfl, Or.inl rfl, Or.inl rfl, trivial⟩ h
        · replace h := h.2 hc
          exact R_forget (ls' := [vR (some 312), vJ, vJ, vJ, vI (I 312 33), vI z1, vI z4, vJ, vI (I11 312 33), vI (I11 312 34), vI (I11 312 38), vI z13, vJ, vJ]) ⟨Or.inl rfl, Or.inr rfl, Or.inl rfl, Or.inr rfl, Or.inl rfl, Or.inl rfl, Or.inl rfl, Or.inr rfl, Or.inl rfl, Or.inl rfl, Or.inl rfl, Or.inl rfl, Or.inl rfl, Or.inl rfl, trivial⟩ h
    · replace h := h.2 hc
      refine R_aload_n (pc' := 75) rfl rfl rfl ?_
      refine R_iload (pc' := 77) rfl rfl rfl ?_
      refine K_putI (pc' := 80) rfl rfl (by decide) (fun h => absurd h (by decide)) rfl ?_
      exact R_vret rfl rfl ⟨_, _, rfl, rfl, h⟩
  · replace h := h.2 hc
    exact R_vret rfl rfl ⟨_, _, rfl, rfl, h⟩
theorem S99_133 {e : En} {I : HI} {D : HD} {Q : HI → HD → Prop} {x4 : Int} {x5 : Int} {x6 : Int} {x8 : Int} {x9 : Int} {x10 : Int} {x11 : Int} (he : HS e)
    (h : RV 99 138 [vR (some 312), vJ, vJ, vJ, vI x4, vI x5, vI x6, vJ, vI x8, vI x9, vI x10, vI x11, vJ, vJ] [vI 1] e I D Q) :
    RV 99 133 [vR (some 312), vJ, vJ, vJ, vI x4, vI x5, vI x6, vJ, vI x8, vI x9, vI x10, vI x11, vJ, vJ] [] e I D Q := by
  show Run 99 133 [vR (some 312), vJ, vJ, vJ, vI x4, vI x5, vI x6, vJ, vI x8, vI x9, vI x10, vI x11, vJ, vJ] [] (mk e I D) (pV e Q)
  refine R_iconst (pc' := 134) rfl rfl ?_
  refine R_goto rfl ?_
  exact h
theorem S99_138 {e : En} {I : HI} {D : HD} {Q : HI → HD → Prop} {x4 : Int} {x5 : Int} {x6 : Int} {x8 : Int} {x9 : Int} {x10 : Int} {x11 : Int} {y0 : Int} (he : HS e)
    (h : ((y0 = 0 → CI 96 [vR (some 312), vI x8, vI x9] e I D (fun z1 I2 D3 => ((z1 = 0 → RV 99 185 [vR (some 312), vJ, vJ, vJ, vI x4, vI x5, vI x6, vJ, vI x8, vI x9, vI x10, vJ, vI y0, vI 0] [] e I2 D3 Q) ∧ (¬ (z1 = 0) → CI 95 [vR (some 312), vI x8, vI x9] e I2 D3 (fun z4 I5 D6 => CV 97 [vR (some 312), vI x8, vI z4] e I5 D6 (fun I8 D9 => RV 99 185 [vR (some 312), vJ, vJ, vJ, vI x4, vI x5, vI x6, vJ, vI x8, vI x9, vI x10, vJ, vI y0, vI 1] [] e I8 D9 Q)))))) ∧ (¬ (y0 = 0) → CV 100 [vR (some 312), vI x11] e I D (fun I11 D12 => RV 99 185 [vR (some 312), vJ, vJ, vJ, vI x4, vI x5, vI x6, vJ, vI x8, vI x9, vI x10, vJ, vI y0, vI 0] [] e I11 D12 Q)))) :
    RV 99 138 [vR (some 312), vJ, vJ, vJ, vI x4, vI x5, vI x6, vJ, vI x8, vI x9, vI x10, vI x11, vJ, vJ] [vI y0] e I D Q := by
  show Run 99 138 [vR (some 312), vJ, vJ, vJ, vI x4, vI x5, vI x6, vJ, vI x8, vI x9, vI x10, vI x11, vJ, vJ] [vI y0] (mk e I D) (pV e Q)
  refine R_istore (ls' := [vR (some 312), vJ, vJ, vJ, vI x4, vI x5, vI x6, vJ, vI x8, vI x9, vI x10, vI x11, vI y0, vJ]) (pc' := 140) rfl rfl rfl ?_
  refine R_iconst (pc' := 141) rfl rfl ?_
  refine R_istore (ls' := [vR (some 312), vJ, vJ, vJ, vI x4, vI x5, vI x6, vJ, vI x8, vI x9, vI x10, vI x11, vI y0, vI 0]) (pc' := 143) rfl rfl rfl ?_
  refine R_iload (pc' := 145) rfl rfl rfl ?_
  refine R_ifeq (pc' := 148) rfl rfl (fun hc => ?_) (fun hc => ?_)
  · replace h := h.1 hc
    refine R_aload_n (pc' := 158) rfl rfl rfl ?_
    refine R_iload (pc' := 160) rfl rfl rfl ?_
    refine R_iload (pc' := 162) rfl rfl rfl ?_
    refine KI_iv (as := [vI x8, vI x9]) (rest := []) (pc' := 165) rfl rfl rfl rfl rfl (Nat.le_of_ble_eq_true rfl) rfl (CI_mono h ?_)
    intro z1 I2 D3 h
    refine R_ifeq (pc' := 168) rfl rfl (fun hc => ?_) (fun hc => ?_)
    · replace h := h.1 hc
      exact R_forget (ls' := [vR (some 312), vJ, vJ, vJ, vI x4, vI x5, vI x6, vJ, vI x8, vI x9, vI x10, vJ, vI y0, vI 0]) ⟨Or.inl rfl, Or.inl rfl, Or.inl rfl, Or.inl rfl, Or.inl rfl, Or.inl rfl, Or.inl rfl, Or.inl rfl, Or.inl rfl, Or.inl rfl, Or.inl rfl, Or.inr rfl, Or.inl rfl, Or.inl rfl, trivial⟩ h
    · replace h := h.2 hc
      refine R_iconst (pc' := 169) rfl rfl ?_
      refine R_istore (ls' := [vR (some 312), vJ, vJ, vJ, vI x4, vI x5, vI x6, vJ, vI x8, vI x9, vI x10, vI x11, vI y0, vI 1]) (pc' := 171) rfl rfl rfl ?_
      refine R_aload_n (pc' := 172) rfl rfl rfl ?_
      refine R_iload (pc' := 174) rfl rfl rfl ?_
      refine R_aload_n (pc' := 175) rfl rfl rfl ?_
      refine R_iload (pc' := 177) rfl rfl rfl ?_
      refine R_iload (pc' := 179) rfl rfl rfl ?_
      refine KI_iv (as := [vI x8, vI x9]) (rest := [vI x8, vR (some 312)]) (pc' := 182) rfl rfl rfl rfl rfl (Nat.le_of_ble_eq_true rfl) rfl (CI_mono h ?_)
      intro z4 I5 D6 h
      refine KV_iv (as := [vI x8, vI z4]) (rest := []) (pc' := 185) rfl rfl rfl rfl rfl (Nat.le_of_ble_eq_true rfl) rfl (CV_mono h ?_)
      intro I8 D9 h
      exact R_forget (ls' := [vR (some 312), vJ, vJ, vJ, vI x4, vI x5, vI x6, vJ, vI x8, vI x9, vI x10, vJ, vI y0, vI 1]) ⟨Or.inl rfl, Or.inl rfl, Or.inl rfl, Or.inl rfl, Or.inl rfl, Or.inl rfl, Or.inl rfl, Or.inl rfl, Or.inl rfl, Or.inl rfl, Or.inl rfl, Or.inr rfl, Or.inl rfl, Or.inl rfl, trivial⟩ h
  · replace h := h.2 hc
    refine R_aload_n (pc' := 149) rfl rfl rfl ?_
    refine R_iload (pc' := 151) rfl rfl rfl ?_
    refine KV_iv (as := [vI x11]) (rest := []) (pc' := 154) rfl rfl rfl rfl rfl (Nat.le_of_ble_eq_true rfl) rfl (CV_mono h ?_)
    intro I11 D12 h
    refine R_goto rfl ?_
    exact R_forget (ls' := [vR (some 312), vJ, vJ, vJ, vI x4, vI x5, vI x6, vJ, vI x8, vI x9, vI x10, vJ, vI y0, vI 0]) ⟨Or.inl rfl, Or.inl rfl, Or.inl rfl, Or.inl rfl, Or.inl rfl, Or.inl rfl, Or.inl rfl, Or.inl rfl, Or.inl rfl, Or.inl rfl, Or.inl rfl, Or.inr rfl, Or.inl rfl, Or.inl rfl, trivial⟩ h
theorem S99_185 {e : En} {I : HI} {D : HD} {Q : HI → HD → Prop} {x4 : Int} {x5 : Int} {x6 : Int} {x8 : Int} {x9 : Int} {x10 : Int} {x12 : Int} {x13 : Int} (he : HS e)
    (h : ((x5 = 0 → RV 99 284 [vR (some 312), vJ, vJ, vJ, vI x4, vJ, vI x6, vJ, vJ, vJ, vJ, vJ, vJ, vJ] [] e I D Q) ∧ (¬ (x5 = 0) → ((¬ x12 = 0 → RV 99 206 [vR (some 312), vJ, vJ, vJ, vI x4, vJ, vI x6, vJ, vI x8, vI x9, vI x10, vJ, vI x12, vI x13] [vR (some 312)] e (uI I 312 45 1) D Q) ∧ (¬ (¬ x12 = 0) → ((x13 = 0 → CI 95 [vR (some 312), vI x8, vI x9] e (uI I 312 45 1) D (fun z1 I2 D3 => RV 99 218 [vR (some 312), vJ, vJ, vJ, vI x4, vJ, vI x6, vJ, vI x8, vI x9, vI x10, vJ, vI x12, vI x13] [vI z1, vR (some 312)] e I2 D3 Q)) ∧ (¬ (x13 = 0) → RV 99 206 [vR (some 312), vJ, vJ, vJ, vI x4, vJ, vI x6, vJ, vI x8, vI x9, vI x10, vJ, vI x12, vI x13] [vR (some 312)] e (uI I 312 45 1) D Q))))))) :
    RV 99 185 [vR (some 312), vJ, vJ, vJ, vI x4, vI x5, vI x6, vJ, vI x8, vI x9, vI x10, vJ, vI x12, vI x13] [] e I D Q := by
  show Run 99 185 [vR (some 312), vJ, vJ, vJ, vI x4, vI x5, vI x6, vJ, vI x8, vI x9, vI x10, vJ, vI x12, vI x13] [] (mk e I D) (pV e Q)
  refine R_iload (pc' := 187) rfl rfl rfl ?_
  refine R_ifeq (pc' := 190) rfl rfl (fun hc => ?_) (fun hc => ?_)
  · replace h := h.1 hc
    exact R_forget (ls' := [vR (some 312), vJ, vJ, vJ, vI x4, vJ, vI x6, vJ, vJ, vJ, vJ, vJ, vJ, vJ]) ⟨Or.inl rfl, Or.inl rfl, Or.inl rfl, Or.inl rfl, Or.inl rfl, Or.inr rfl, Or.inl rfl, Or.inl rfl, Or.inr rfl, Or.inr rfl, Or.inr rfl, Or.inl rfl, Or.inr rfl, Or.inr rfl, trivial⟩ h
  · replace h := h.2 hc
    refine R_aload_n (pc' := 191) rfl rfl rfl ?_
    refine R_iconst (pc' := 192) rfl rfl ?_
    refine K_putI (pc' := 195) rfl rfl (by decide) (fun _ => Or.inr rfl) rfl ?_
    refine R_aload_n (pc' := 196) rfl rfl rfl ?_
    refine R_iload (pc' := 198) rfl rfl rfl ?_
    refine R_ifne (pc' := 201) rfl rfl (fun hc => ?_) (fun hc => ?_)
    · replace h := h.1 hc
      exact R_forget (ls' := [vR (some 312), vJ, vJ, vJ, vI x4, vJ, vI x6, vJ, vI x8, vI x9, vI x10, vJ, vI x12, vI x13]) ⟨Or.inl rfl, Or.inl rfl, Or.inl rfl, Or.inl rfl, Or.inl rfl, Or.inr rfl, Or.inl rfl, Or.inl rfl, Or.inl rfl, Or.inl rfl, Or.inl rfl, Or.inl rfl, Or.inl rfl, Or.inl rfl, trivial⟩ h
    · replace h := h.2 hc
      refine R_iload (pc' := 203) rfl rfl rfl ?_
      refine R_ifeq (pc' := 206) rfl rfl (fun hc => ?_) (fun hc => ?_)
      · replace h := h.1 hc
        refine R_aload_n (pc' := 211) rfl rfl rfl ?_
        refine R_iload (pc' := 213) rfl rfl rfl ?_
        refine R_iload (pc' := 215) rfl rfl rfl ?_
        refine KI_iv (as := [vI x8, vI x9]) (rest := [vR (some 312)]) (pc' := 218) rfl rfl rfl rfl rfl (Nat.le_of_ble_eq_true rfl) rfl (CI_mono h ?_)
        intro z1 I2 D3 h
        exact R_forget (ls' := [vR (some 312), vJ, vJ, vJ, vI x4, vJ, vI x6, vJ, vI x8, vI x9, vI x10, vJ, vI x12, vI x13]) ⟨Or.inl rfl, Or.inl rfl, Or.inl rfl, Or.inl rfl, Or.inl rfl, Or.inr rfl, Or.inl rfl, Or.inl rfl, Or.inl rfl, Or.inl rfl, Or.inl rfl, Or.inl rfl, Or.inl rfl, Or.inl rfl, trivial⟩ h
      · replace h := h.2 hc
        exact R_forget (ls' := [vR (some 312), vJ, vJ, vJ, vI x4, vJ, vI x6, vJ, vI x8, vI x9, vI x10, vJ, vI x12, vI x13]) ⟨Or.inl rfl, Or.inl rfl, Or.inl rfl, Or.inl rfl, Or.inl rfl, Or.inr rfl, Or.inl rfl, Or.inl rfl, Or.inl rfl, Or.inl rfl, Or.inl rfl, Or.inl rfl, Or.inl rfl, Or.inl rfl, trivial⟩ h
theorem S99_206 {e : En} {I : HI} {D : HD} {Q : HI → HD → Prop} {x4 : Int} {x6 : Int} {x8 : Int} {x9 : Int} {x10 : Int} {x12 : Int} {x13 : Int} (he : HS e)
    (h : RV 99 218 [vR (some 312), vJ, vJ, vJ, vI x4, vJ, vI x6, vJ, vI x8, vI x9, vI x10, vJ, vI x12, vI x13] [vI (-1), vR (some 312)] e I D Q) :
    RV 99 206 [vR (some 312), vJ, vJ, vJ, vI x4, vJ, vI x6, vJ, vI x8, vI x9, vI x10, vJ, vI x12, vI x13] [vR (some 312)] e I D Q := by
  show Run 99 206 [vR (some 312), vJ, vJ, vJ, vI x4, vJ, vI x6, vJ, vI x8, vI x9, vI x10, vJ, vI x12, vI x13] [vR (some 312)] (mk e I D) (pV e Q)
  refine R_iconst (pc' := 207) rfl rfl ?_
  refine R_goto rfl ?_
  exact h
theorem S99_218 {e : En} {I : HI} {D : HD} {Q : HI → HD → Prop} {x4 : Int} {x6 : Int} {x8 : Int} {x9 : Int} {x10 : Int} {x12 : Int} {x13 : Int} {y1 : Int} (he : HS e)
    (h : ((¬ x12 = 0 → RV 99 232 [vR (some 312), vJ, vJ, vJ, vI x4, vJ, vI x6, vJ, vJ, vI x9, vI x10, vJ, vI x12, vI x13] [vR (some 312)] e (uI I 312 46 y1) D Q) ∧ (¬ (¬ x12 = 0) → ((x13 = 0 → RV 99 238 [vR (some 312), vJ, vJ, vJ, vI x4, vJ, vI x6, vJ, vJ, vI x9, vI x10, vJ, vI x12, vI x13] [vI x8, vR (some 312)] e (uI I 312 46 y1) D Q) ∧ (¬ (x13 = 0) → RV 99 232 [vR (some 312), vJ, vJ, vJ, vI x4, vJ, vI x6, vJ, vJ, vI x9, vI x10, vJ, vI x12, vI x13] [vR (some 312)] e (uI I 312 46 y1) D Q))))) :
    RV 99 218 [vR (some 312), vJ, vJ, vJ, vI x4, vJ, vI x6, vJ, vI x8, vI x9, vI x10, vJ, vI x12, vI x13] [vI y1, vR (some 312)] e I D Q := by
  show Run 99 218 [vR (some 312), vJ, vJ, vJ, vI x4, vJ, vI x6, vJ, vI x8, vI x9, vI x10, vJ, vI x12, vI x13] [vI y1, vR (some 312)] (mk e I D) (pV e Q)
  refine K_putI (pc' := 221) rfl rfl (by decide) (fun h => absurd h (by decide)) rfl ?_
  refine R_aload_n (pc' := 222) rfl rfl rfl ?_
  refine R_iload (pc' := 224) rfl rfl rfl ?_
  refine R_ifne (pc' := 227) rfl rfl (fun hc => ?_) (fun hc => ?_)
  · replace h := h.1 hc
    exact R_forget (ls' := [vR (some 312), vJ, vJ, vJ, vI x4, vJ, vI x6, vJ, vJ, vI x9, vI x10, vJ, vI x12, vI x13]) ⟨Or.inl rfl, Or.inl rfl, Or.inl rfl, Or.inl rfl, Or.inl rfl, Or.inl rfl, Or.inl rfl, Or.inl rfl, Or.inr rfl, Or.inl rfl, Or.inl rfl, Or.inl rfl, Or.inl rfl, Or.inl rfl, trivial⟩ h
  · replace h := h.2 hc
    refine R_iload (pc' := 229) rfl rfl rfl ?_
    refine R_ifeq (pc' := 232) rfl rfl (fun hc => ?_) (fun hc => ?_)
    · replace h := h.1 hc
      refine R_iload (pc' := 238) rfl rfl rfl ?_
      exact R_forget (ls' := [vR (some 312), vJ, vJ, vJ, vI x4, vJ, vI x6, vJ, vJ, vI x9, vI x10, vJ, vI x12, vI x13]) ⟨Or.inl rfl, Or.inl rfl, Or.inl rfl, Or.inl rfl, Or.inl rfl, Or.inl rfl, Or.inl rfl, Or.inl rfl, Or.inr rfl, Or.inl rfl, Or.inl rfl, Or.inl rfl, Or.inl rfl, Or.inl rfl, trivial⟩ h
    · replace h := h.2 hc
      exact R_forget (ls' := [vR (some 312), vJ, vJ, vJ, vI x4, vJ, vI x6, vJ, vJ, vI x9, vI x10, vJ, vI x12, vI x13]) ⟨Or.inl rfl, Or.inl rfl, Or.inl rfl, Or.inl rfl, Or.inl rfl, Or.inl rfl, Or.inl rfl, Or.inl rfl, Or.inr rfl, Or.inl rfl, Or.inl rfl, Or.inl rfl, Or.inl rfl, Or.inl rfl, trivial⟩ h
theorem S99_232 {e : En} {I : HI} {D : HD} {Q : HI → HD → Prop} {x4 : Int} {x6 : Int} {x9 : Int} {x10 : Int} {x12 : Int} {x13 : Int} (he : HS e)
    (h : RV 99 238 [vR (some 312), vJ, vJ, vJ, vI x4, vJ, vI x6, vJ, vJ, vI x9, vI x10, vJ, vI x12, vI x13] [vI 0, vR (some 312)] e I D Q) :
    RV 99 232 [vR (some 312), vJ, vJ, vJ, vI x4, vJ, vI x6, vJ, vJ, vI x9, vI x10, vJ, vI x12, vI x13] [vR (some 312)] e I D Q := by
  show Run 99 232 [vR (some 312), vJ, vJ, vJ, vI x4, vJ, vI x6, vJ, vJ, vI x9, vI x10, vJ, vI x12, vI x13] [vR (some 312)] (mk e I D) (pV e Q)
  refine R_iconst (pc' := 233) rfl rfl ?_
  refine R_goto rfl ?_
  exact h
theorem S99_238 {e : En} {I : HI} {D : HD} {Q : HI → HD → Prop} {x4 : Int} {x6 : Int} {x9 : Int} {x10 : Int} {x12 : Int} {x13 : Int} {y1 : Int} (he : HS e)
    (h : ((¬ x12 = 0 → RV 99 252 [vR (some 312), vJ, vJ, vJ, vI x4, vJ, vI x6, vJ, vJ, vJ, vI x10, vJ, vJ, vI x13] [vR (some 312)] e (uI I 312 47 y1) D Q) ∧ (¬ (¬ x12 = 0) → ((x13 = 0 → RV 99 258 [vR (some 312), vJ, vJ, vJ, vI x4, vJ, vI x6, vJ, vJ, vJ, vI x10, vJ, vJ, vI x13] [vI x9, vR (some 312)] e (uI I 312 47 y1) D Q) ∧ (¬ (x13 = 0) → RV 99 252 [vR (some 312), vJ, vJ, vJ, vI x4, vJ, vI x6, vJ, vJ, vJ, vI x10, vJ, vJ, vI x13] [vR (some 312)] e (uI I 312 47 y1) D Q))))) :
    RV 99 238 [vR (some 312), vJ, vJ, vJ, vI x4, vJ, vI x6, vJ, vJ, vI x9, vI x10, vJ, vI x12, vI x13] [vI y1, vR (some 312)] e I D Q := by
  show Run 99 238 [vR (some 312), vJ, vJ, vJ, vI x4, vJ, vI x6, vJ, vJ, vI x9, vI x10, vJ, vI x12, vI x13] [vI y1, vR (some 312)] (mk e I D) (pV e Q)
  refine K_putI (pc' := 241) rfl rfl (by decide) (fun h => absurd h (by decide)) rfl ?_
  refine R_aload_n (pc' := 242) rfl rfl rfl ?_
  refine R_iload (pc' := 244) rfl rfl rfl ?_
  refine R_ifne (pc' := 247) rfl rfl (fun hc => ?_) (fun hc => ?_)
  · replace h := h.1 hc
    exact R_forget (ls' := [vR (some 312), vJ, vJ, vJ, vI x4, vJ, vI x6, vJ, vJ, vJ, vI x10, vJ, vJ, vI x13]) ⟨Or.inl rfl, Or.inl rfl, Or.inl rfl, Or.inl rfl, Or.inl rfl, Or.inl rfl, Or.inl rfl, Or.inl rfl, Or.inl rfl, Or.inr rfl, Or.inl rfl, Or.inl rfl, Or.inr rfl, Or.inl rfl, trivial⟩ h
  · replace h := h.2 hc
    refine R_iload (pc' := 249) rfl rfl rfl ?_
    refine R_ifeq (pc' := 252) rfl rfl (fun hc => ?_) (fun hc => ?_)
    · replace h := h.1 hc
      refine R_iload (pc' := 258) rfl rfl rfl ?_
      exact R_forget (ls' := [vR (some 312), vJ, vJ, vJ, vI x4, vJ, vI x6, vJ, vJ, vJ, vI x10, vJ, vJ, vI x13]) ⟨Or.inl rfl, Or.inl rfl, Or.inl rfl, Or.inl rfl, Or.inl rfl, Or.inl rfl, Or.inl rfl, Or.inl rfl, Or.inl rfl, Or.inr rfl, Or.inl rfl, Or.inl rfl, Or.inr rfl, Or.inl rfl, trivial⟩ h
    · replace h := h.2 hc
      exact R_forget (ls' := [vR (some 312), vJ, vJ, vJ, vI x4, vJ, vI x6, vJ, vJ, vJ, vI x10, vJ, vJ, vI x13]) ⟨Or.inl rfl, Or.inl rfl, Or.inl rfl, Or.inl rfl, Or.inl rfl, Or.inl rfl, Or.inl rfl, Or.inl rfl, Or.inl rfl, Or.inr rfl, Or.inl rfl, Or.inl rfl, Or.inr rfl, Or.inl rfl, trivial⟩ h
theorem S99_252 {e : En} {I : HI} {D : HD} {Q : HI → HD → Prop} {x4 : Int} {x6 : Int} {x10 : Int} {x13 : Int} (he : HS e)
    (h : RV 99 258 [vR (some 312), vJ, vJ, vJ, vI x4, vJ, vI x6, vJ, vJ, vJ, vI x10, vJ, vJ, vI x13] [vI 0, vR (some 312)] e I D Q) :
    RV 99 252 [vR (some 312), vJ, vJ, vJ, vI x4, vJ, vI x6, vJ, vJ, vJ, vI x10, vJ, vJ, vI x13] [vR (some 312)] e I D Q := by
  show Run 99 252 [vR (some 312), vJ, vJ, vJ, vI x4, vJ, vI x6, vJ, vJ, vJ, vI x10, vJ, vJ, vI x13] [vR (some 312)] (mk e I D) (pV e Q)
  refine R_iconst (pc' := 253) rfl rfl ?_
  refine R_goto rfl ?_
  exact h
theorem S99_258 {e : En} {I : HI} {D : HD} {Q : HI → HD → Prop} {x4 : Int} {x6 : Int} {x10 : Int} {x13 : Int} {y1 : Int} (he : HS e)
    (h : (x13 = 0 ∨ x13 = 1) ∧ (-2147483648 ≤ ((I 312 38) - x10) ∧ ((I 312 38) - x10) < 2147483648) ∧ RV 99 284 [vR (some 312), vJ, vJ, vJ, vI x4, vJ, vI x6, vJ, vJ, vJ, vJ, vJ, vJ, vJ] [] e (uI (uI (uI (uI I 312 48 y1) 312 49 x13) 312 50 x10) 312 51 ((I 312 38) - x10)) D Q) :
    RV 99 258 [vR (some 312), vJ, vJ, vJ, vI x4, vJ, vI x6, vJ, vJ, vJ, vI x10, vJ, vJ, vI x13] [vI y1, vR (some 312)] e I D Q := by
  show Run 99 258 [vR (some 312), vJ, vJ, vJ, vI x4, vJ, vI x6, vJ, vJ, vJ, vI x10, vJ, vJ, vI x13] [vI y1, vR (some 312)] (mk e I D) (pV e Q)
  refine K_putI (pc' := 261) rfl rfl (by decide) (fun h => absurd h (by decide)) rfl ?_
  refine R_aload_n (pc' := 262) rfl rfl rfl ?_
  refine R_iload (pc' := 264) rfl rfl rfl ?_
  have g1 := h.1
  replace h := h.2
  refine K_putI (pc' := 267) rfl rfl (by decide) (fun _ => g1) rfl ?_
  refine R_aload_n (pc' := 268) rfl rfl rfl ?_
  refine R_iload (pc' := 270) rfl rfl rfl ?_
  refine K_putI (pc' := 273) rfl rfl (by decide) (fun h => absurd h (by decide)) rfl ?_
  refine R_aload_n (pc' := 274) rfl rfl rfl ?_
  refine R_aload_n (pc' := 275) rfl rfl rfl ?_
  refine K_getI (pc' := 278) rfl rfl (by decide) rfl rfl ?_
  refine R_iload (pc' := 280) rfl rfl rfl ?_
  have g2 := h.1
  replace h := h.2
  refine R_isub (pc' := 281) rfl rfl g2 ?_
  refine K_putI (pc' := 284) rfl rfl (by decide) (fun h => absurd h (by decide)) rfl ?_
  exact R_forget (ls' := [vR (some 312), vJ, vJ, vJ, vI x4, vJ, vI x6, vJ, vJ, vJ, vJ, vJ, vJ, vJ]) ⟨Or.inl rfl, Or.inl rfl, Or.inl rfl, Or.inl rfl, Or.inl rfl, Or.inl rfl, Or.inl rfl, Or.inl rfl, Or.inl rfl, Or.inl rfl, Or.inr rfl, Or.inl rfl, Or.inl rfl, Or.inr rfl, trivial⟩ h
theorem S99_284 {e : En} {I : HI} {D : HD} {Q : HI → HD → Prop} {x4 : Int} {x6 : Int} (he : HS e)
    (h : ((x6 = 0 → Q I D) ∧ (¬ (x6 = 0) → (0 ≤ (I 312 42) ∧ (I 312 42) < 700) ∧ (0 ≤ (I 312 42) ∧ (I 312 42) < 700) ∧ (-2147483648 ≤ ((I 312 42) + 1) ∧ ((I 312 42) + 1) < 2147483648) ∧ Q (uI (uI (uI I 336 (((I 312 42) : Int).toNat) x4) 337 (((I 312 42) : Int).toNat) (I 312 31)) 312 42 ((I 312 42) + 1)) D))) :
    RV 99 284 [vR (some 312), vJ, vJ, vJ, vI x4, vJ, vI x6, vJ, vJ, vJ, vJ, vJ, vJ, vJ] [] e I D Q := by
  show Run 99 284 [vR (some 312), vJ, vJ, vJ, vI x4, vJ, vI x6, vJ, vJ, vJ, vJ, vJ, vJ, vJ] [] (mk e I D) (pV e Q)
  refine R_iload (pc' := 286) rfl rfl rfl ?_
  refine R_ifeq (pc' := 289) rfl rfl (fun hc => ?_) (fun hc => ?_)
  · replace h := h.1 hc
    exact R_vret rfl rfl ⟨_, _, rfl, rfl, h⟩
  · replace h := h.2 hc
    refine R_aload_n (pc' := 290) rfl rfl rfl ?_
    refine K_getR (pc' := 293) rfl rfl rfl rfl (st_at he rfl rfl (by decide)) ?_
    refine R_aload_n (pc' := 294) rfl rfl rfl ?_
    refine K_getI (pc' := 297) rfl rfl (by decide) rfl rfl ?_
    refine R_iload (pc' := 299) rfl rfl rfl ?_
    have g1 := h.1
    replace h := h.2
    refine K_iast (pc' := 300) rfl rfl rfl g1.1 g1.2 ?_
    refine R_aload_n (pc' := 301) rfl rfl rfl ?_
    refine K_getR (pc' := 304) rfl rfl rfl rfl (st_at he rfl rfl (by decide)) ?_
    refine R_aload_n (pc' := 305) rfl rfl rfl ?_
    refine K_getI (pc' := 308) rfl rfl (by decide) rfl rfl ?_
    refine R_aload_n (pc' := 309) rfl rfl rfl ?_
    refine K_getI (pc' := 312) rfl rfl (by decide) rfl rfl ?_
    have g2 := h.1
    replace h := h.2
    refine K_iast (pc' := 313) rfl rfl rfl g2.1 g2.2 ?_
    refine R_aload_n (pc' := 314) rfl rfl rfl ?_
    refine R_dup (pc' := 315) rfl rfl rfl ?_
    refine K_getI (pc' := 318) rfl rfl (by decide) rfl rfl ?_
    refine R_iconst (pc' := 319) rfl rfl ?_
    have g3 := h.1
    replace h := h.2
    refine R_iadd (pc' := 320) rfl rfl g3 ?_
    refine K_putI (pc' := 323) rfl rfl (by decide) (fun h => absurd h (by decide)) rfl ?_
    exact R_vret rfl rfl ⟨_, _, rfl, rfl, h⟩
/-! 100 X9_readRow -/
theorem S100 {e : En} {I : HI} {D : HD} {Q : HI → HD → Prop} {x1 : Int} (he : HS e)
    (h : RV 100 2 [vR (some 312), vI x1, vI 1, vJ, vJ] [] e I D Q) :
    CV 100 [vR (some 312), vI x1] e I D Q := by
  refine Call_run (ls := [vR (some 312), vI x1, vJ, vJ, vJ]) rfl rfl ?_
  refine R_iconst (pc' := 1) rfl rfl ?_
  refine R_istore_n (ls' := [vR (some 312), vI x1, vI 1, vJ, vJ]) (pc' := 2) rfl rfl rfl ?_
  exact h
theorem S100_2 {e : En} {I : HI} {D : HD} {Q : HI → HD → Prop} {x1 : Int} {x2 : Int} (he : HS e)
    (h : ((x2 ≤ 0 → Q I D) ∧ (¬ (x2 ≤ 0) → CI 91 [vR (some 312)] e I D (fun z1 I2 D3 => ((z1 = 0 → Q I2 D3) ∧ (¬ (z1 = 0) → ((x1 = 0 → CI 94 [vR (some 312), vI (I2 312 33), vI (I2 312 34), vL 15420, vI 2] e I2 D3 (fun z4 I5 D6 => ((z4 = 0 → RV 100 64 [vR (some 312), vI x1, vI x2, vJ, vJ] [] e I5 D6 Q) ∧ (¬ (z4 = 0) → RV 100 58 [vR (some 312), vI x1, vI x2, vJ, vJ] [] e I5 D6 Q)))) ∧ (¬ (x1 = 0) → CI 94 [vR (some 312), vI (I2 312 33), vI (I2 312 34), vL 91, vI 1] e I2 D3 (fun z7 I8 D9 => ((z7 = 0 → RV 100 64 [vR (some 312), vI x1, vI x2, vJ, vJ] [] e I8 D9 Q) ∧ (¬ (z7 = 0) → RV 100 58 [vR (some 312), vI x1, vI x2, vJ, vJ] [] e I8 D9 Q))))))))))) :
    RV 100 2 [vR (some 312), vI x1, vI x2, vJ, vJ] [] e I D Q := by
  show Run 100 2 [vR (some 312), vI x1, vI x2, vJ, vJ] [] (mk e I D) (pV e Q)
  refine R_iload_n (pc' := 3) rfl rfl rfl ?_
  refine R_ifle (pc' := 6) rfl rfl (fun hc => ?_) (fun hc => ?_)
  · replace h := h.1 hc
    exact R_vret rfl rfl ⟨_, _, rfl, rfl, h⟩
  · replace h := h.2 hc
    refine R_aload_n (pc' := 7) rfl rfl rfl ?_
    refine KI_iv (as := []) (rest := []) (pc' := 10) rfl rfl rfl rfl rfl (Nat.le_of_ble_eq_true rfl) rfl (CI_mono h ?_)
    intro z1 I2 D3 h
    refine R_ifeq (pc' := 13) rfl rfl (fun hc => ?_) (fun hc => ?_)
    · replace h := h.1 hc
      exact R_vret rfl rfl ⟨_, _, rfl, rfl, h⟩
    · replace h := h.2 hc
      refine R_iload_n (pc' := 14) rfl rfl rfl ?_
      refine R_ifeq (pc' := 17) rfl rfl (fun hc => ?_) (fun hc => ?_)
      · replace h := h.1 hc
        refine R_aload_n (pc' := 40) rfl rfl rfl ?_
        refine R_aload_n (pc' := 41) rfl rfl rfl ?_
        refine K_getI (pc' := 44) rfl rfl (by decide) rfl rfl ?_
        refine R_aload_n (pc' := 45) rfl rfl rfl ?_
        refine K_getI (pc' := 48) rfl rfl (by decide) rfl rfl ?_
        refine R_ldc2 (pc' := 51) rfl rfl ?_
        refine R_iconst (pc' := 52) rfl rfl ?_
        refine KI_iv (as := [vI (I2 312 33), vI (I2 312 34), vL 15420, vI 2]) (rest := []) (pc' := 55) rfl rfl rfl rfl rfl (Nat.le_of_ble_eq_true rfl) rfl (CI_mono h ?_)
        intro z4 I5 D6 h
        refine R_ifeq (pc' := 58) rfl rfl (fun hc => ?_) (fun hc => ?_)
        · replace h := h.1 hc
          exact h
        · replace h := h.2 hc
          exact h
      · replace h := h.2 hc
        refine R_aload_n (pc' := 18) rfl rfl rfl ?_
        refine R_aload_n (pc' := 19) rfl rfl rfl ?_
        refine K_getI (pc' := 22) rfl rfl (by decide) rfl rfl ?_
        refine R_aload_n (pc' := 23) rfl rfl rfl ?_
        refine K_getI (pc' := 26) rfl rfl (by decide) rfl rfl ?_
        refine R_ldc2 (pc' := 29) rfl rfl ?_
        refine R_iconst (pc' := 30) rfl rfl ?_
        refine KI_iv (as := [vI (I2 312 33), vI (I2 312 34), vL 91, vI 1]) (rest := []) (pc' := 33) rfl rfl rfl rfl rfl (Nat.le_of_ble_eq_true rfl) rfl (CI_mono h ?_)
        intro z7 I8 D9 h
        refine R_ifeq (pc' := 36) rfl rfl (fun hc => ?_) (fun hc => ?_)
        · replace h := h.1 hc
          exact h
        · replace h := h.2 hc
          refine R_goto rfl ?_
          exact h
theorem S100_58 {e : En} {I : HI} {D : HD} {Q : HI → HD → Prop} {x1 : Int} {x2 : Int} (he : HS e)
    (h : (-2147483648 ≤ (x2 + 1) ∧ (x2 + 1) < 2147483648) ∧ RV 100 2 [vR (some 312), vI x1, vI (x2 + 1), vJ, vJ] [] e I D Q) :
    RV 100 58 [vR (some 312), vI x1, vI x2, vJ, vJ] [] e I D Q := by
  show Run 100 58 [vR (some 312), vI x1, vI x2, vJ, vJ] [] (mk e I D) (pV e Q)
  have g1 := h.1
  replace h := h.2
  refine R_iinc (ls' := [vR (some 312), vI x1, vI (x2 + 1), vJ, vJ]) (pc' := 61) rfl rfl rfl g1 rfl ?_
  refine R_goto rfl ?_
  exact h
theorem S100_64 {e : En} {I : HI} {D : HD} {Q : HI → HD → Prop} {x1 : Int} {x2 : Int} (he : HS e)
    (h : ((x1 = 0 → CI 94 [vR (some 312), vI (I 312 33), vI (I 312 34), vL 15934, vI 2] e I D (fun z1 I2 D3 => ((z1 = 0 → RV 100 115 [vR (some 312), vI x1, vI x2, vJ, vJ] [] e I2 D3 Q) ∧ (¬ (z1 = 0) → RV 100 109 [vR (some 312), vI x1, vI x2, vJ, vJ] [] e I2 D3 Q)))) ∧ (¬ (x1 = 0) → CI 94 [vR (some 312), vI (I 312 33), vI (I 312 34), vL 93, vI 1] e I D (fun z4 I5 D6 => ((z4 = 0 → RV 100 115 [vR (some 312), vI x1, vI x2, vJ, vJ] [] e I5 D6 Q) ∧ (¬ (z4 = 0) → RV 100 109 [vR (some 312), vI x1, vI x2, vJ, vJ] [] e I5 D6 Q)))))) :
    RV 100 64 [vR (some 312), vI x1, vI x2, vJ, vJ] [] e I D Q := by
  show Run 100 64 [vR (some 312), vI x1, vI x2, vJ, vJ] [] (mk e I D) (pV e Q)
  refine R_iload_n (pc' := 65) rfl rfl rfl ?_
  refine R_ifeq (pc' := 68) rfl rfl (fun hc => ?_) (fun hc => ?_)
  · replace h := h.1 hc
    refine R_aload_n (pc' := 91) rfl rfl rfl ?_
    refine R_aload_n (pc' := 92) rfl rfl rfl ?_
    refine K_getI (pc' := 95) rfl rfl (by decide) rfl rfl ?_
    refine R_aload_n (pc' := 96) rfl rfl rfl ?_
    refine K_getI (pc' := 99) rfl rfl (by decide) rfl rfl ?_
    refine R_ldc2 (pc' := 102) rfl rfl ?_
    refine R_iconst (pc' := 103) rfl rfl ?_
    refine KI_iv (as := [vI (I 312 33), vI (I 312 34), vL 15934, vI 2]) (rest := []) (pc' := 106) rfl rfl rfl rfl rfl (Nat.le_of_ble_eq_true rfl) rfl (CI_mono h ?_)
    intro z1 I2 D3 h
    refine R_ifeq (pc' := 109) rfl rfl (fun hc => ?_) (fun hc => ?_)
    · replace h := h.1 hc
      exact h
    · replace h := h.2 hc
      exact h
  · replace h := h.2 hc
    refine R_aload_n (pc' := 69) rfl rfl rfl ?_
    refine R_aload_n (pc' := 70) rfl rfl rfl ?_
    refine K_getI (pc' := 73) rfl rfl (by decide) rfl rfl ?_
    refine R_aload_n (pc' := 74) rfl rfl rfl ?_
    refine K_getI (pc' := 77) rfl rfl (by decide) rfl rfl ?_
    refine R_ldc2 (pc' := 80) rfl rfl ?_
    refine R_iconst (pc' := 81) rfl rfl ?_
    refine KI_iv (as := [vI (I 312 33), vI (I 312 34), vL 93, vI 1]) (rest := []) (pc' := 84) rfl rfl rfl rfl rfl (Nat.le_of_ble_eq_true rfl) rfl (CI_mono h ?_)
    intro z4 I5 D6 h
    refine R_ifeq (pc' := 87) rfl rfl (fun hc => ?_) (fun hc => ?_)
    · replace h := h.1 hc
      exact h
    · replace h := h.2 hc
      refine R_goto rfl ?_
      exact h
theorem S100_109 {e : En} {I : HI} {D : HD} {Q : HI → HD → Prop} {x1 : Int} {x2 : Int} (he : HS e)
    (h : (-2147483648 ≤ (x2 + (-1)) ∧ (x2 + (-1)) < 2147483648) ∧ RV 100 2 [vR (some 312), vI x1, vI (x2 + (-1)), vJ, vJ] [] e I D Q) :
    RV 100 109 [vR (some 312), vI x1, vI x2, vJ, vJ] [] e I D Q := by
  show Run 100 109 [vR (some 312), vI x1, vI x2, vJ, vJ] [] (mk e I D) (pV e Q)
  have g1 := h.1
  replace h := h.2
  refine R_iinc (ls' := [vR (some 312), vI x1, vI (x2 + (-1)), vJ, vJ]) (pc' := 112) rfl rfl rfl g1 rfl ?_
  refine R_goto rfl ?_
  exact h
theorem S100_115 {e : En} {I : HI} {D : HD} {Q : HI → HD → Prop} {x1 : Int} {x2 : Int} (he : HS e)
    (h : CI 96 [vR (some 312), vI (I 312 33), vI (I 312 34)] e I D (fun z1 I2 D3 => ((z1 = 0 → RV 100 148 [vR (some 312), vI x1, vI x2, vJ, vJ] [] e I2 D3 Q) ∧ (¬ (z1 = 0) → CI 95 [vR (some 312), vI (I 312 33), vI (I 312 34)] e I2 D3 (fun z4 I5 D6 => CV 97 [vR (some 312), vI (I 312 33), vI z4] e I5 D6 (fun I8 D9 => RV 100 148 [vR (some 312), vI x1, vI x2, vJ, vJ] [] e I8 D9 Q)))))) :
    RV 100 115 [vR (some 312), vI x1, vI x2, vJ, vJ] [] e I D Q := by
  show Run 100 115 [vR (some 312), vI x1, vI x2, vJ, vJ] [] (mk e I D) (pV e Q)
  refine R_aload_n (pc' := 116) rfl rfl rfl ?_
  refine K_getI (pc' := 119) rfl rfl (by decide) rfl rfl ?_
  refine R_istore_n (ls' := [vR (some 312), vI x1, vI x2, vI (I 312 33), vJ]) (pc' := 120) rfl rfl rfl ?_
  refine R_aload_n (pc' := 121) rfl rfl rfl ?_
  refine K_getI (pc' := 124) rfl rfl (by decide) rfl rfl ?_
  refine R_istore (ls' := [vR (some 312), vI x1, vI x2, vI (I 312 33), vI (I 312 34)]) (pc' := 126) rfl rfl rfl ?_
  refine R_aload_n (pc' := 127) rfl rfl rfl ?_
  refine R_iload_n (pc' := 128) rfl rfl rfl ?_
  refine R_iload (pc' := 130) rfl rfl rfl ?_
  refine KI_iv (as := [vI (I 312 33), vI (I 312 34)]) (rest := []) (pc' := 133) rfl rfl rfl rfl rfl (Nat.le_of_ble_eq_true rfl) rfl (CI_mono h ?_)
  intro z1 I2 D3 h
  refine R_ifeq (pc' := 136) rfl rfl (fun hc => ?_) (fun hc => ?_)
  · replace h := h.1 hc
    exact R_forget (ls' := [vR (some 312), vI x1, vI x2, vJ, vJ]) ⟨Or.inl rfl, Or.inl rfl, Or.inl rfl, Or.inr rfl, Or.inr rfl, trivial⟩ h
  · replace h := h.2 hc
    refine R_aload_n (pc' := 137) rfl rfl rfl ?_
    refine R_iload_n (pc' := 138) rfl rfl rfl ?_
    refine R_aload_n (pc' := 139) rfl rfl rfl ?_
    refine R_iload_n (pc' := 140) rfl rfl rfl ?_
    refine R_iload (pc' := 142) rfl rfl rfl ?_
    refine KI_iv (as := [vI (I 312 33), vI (I 312 34)]) (rest := [vI (I 312 33), vR (some 312)]) (pc' := 145) rfl rfl rfl rfl rfl (Nat.le_of_ble_eq_true rfl) rfl (CI_mono h ?_)
    intro z4 I5 D6 h
    refine KV_iv (as := [vI (I 312 33), vI z4]) (rest := []) (pc' := 148) rfl rfl rfl rfl rfl (Nat.le_of_ble_eq_true rfl) rfl (CV_mono h ?_)
    intro I8 D9 h
    exact R_forget (ls' := [vR (some 312), vI x1, vI x2, vJ, vJ]) ⟨Or.inl rfl, Or.inl rfl, Or.inl rfl, Or.inr rfl, Or.inr rfl, trivial⟩ h
theorem S100_148 {e : En} {I : HI} {D : HD} {Q : HI → HD → Prop} {x1 : Int} {x2 : Int} (he : HS e)
    (h : RV 100 2 [vR (some 312), vI x1, vI x2, vJ, vJ] [] e I D Q) :
    RV 100 148 [vR (some 312), vI x1, vI x2, vJ, vJ] [] e I D Q := by
  show Run 100 148 [vR (some 312), vI x1, vI x2, vJ, vJ] [] (mk e I D) (pV e Q)
  refine R_goto rfl ?_
  exact h
/-! 101 X9_keyReference -/
theorem S101 {e : En} {I : HI} {D : HD} {Q : Int → HI → HD → Prop} (he : HS e)
    (h : (((I 312 45) = 0 → Q 0 I D) ∧ (¬ ((I 312 45) = 0) → (((I 312 49) = 0 → Q 0 I D) ∧ (¬ ((I 312 49) = 0) → (0 ≤ (I 312 50) ∧ (I 312 50) < 700) ∧ Q (I 335 (((I 312 50) : Int).toNat)) I D))))) :
    CI 101 [vR (some 312)] e I D Q := by
  refine Call_run (ls := [vR (some 312)]) rfl rfl ?_
  refine R_aload_n (pc' := 1) rfl rfl rfl ?_
  refine K_getI (pc' := 4) rfl rfl (by decide) rfl rfl ?_
  refine R_ifeq (pc' := 7) rfl rfl (fun hc => ?_) (fun hc => ?_)
  · replace h := h.1 hc
    refine R_iconst (pc' := 27) rfl rfl ?_
    exact R_iret rfl rfl ⟨_, _, _, rfl, rfl, h⟩
  · replace h := h.2 hc
    refine R_aload_n (pc' := 8) rfl rfl rfl ?_
    refine K_getI (pc' := 11) rfl rfl (by decide) rfl rfl ?_
    refine R_ifeq (pc' := 14) rfl rfl (fun hc => ?_) (fun hc => ?_)
    · replace h := h.1 hc
      refine R_iconst (pc' := 27) rfl rfl ?_
      exact R_iret rfl rfl ⟨_, _, _, rfl, rfl, h⟩
    · replace h := h.2 hc
      refine R_aload_n (pc' := 15) rfl rfl rfl ?_
      refine K_getR (pc' := 18) rfl rfl rfl rfl (st_at he rfl rfl (by decide)) ?_
      refine R_aload_n (pc' := 19) rfl rfl rfl ?_
      refine K_getI (pc' := 22) rfl rfl (by decide) rfl rfl ?_
      have g1 := h.1
      replace h := h.2
      refine K_iald (pc' := 23) rfl rfl rfl g1.1 g1.2 rfl ?_
      refine R_goto rfl ?_
      exact R_iret rfl rfl ⟨_, _, _, rfl, rfl, h⟩
/-! 102 X9_place -/
theorem S102 {e : En} {I : HI} {D : HD} {Q : Int → HI → HD → Prop} {x1 : Int} (he : HS e)
    (h : (-2147483648 ≤ (61 * (I 312 4)) ∧ (61 * (I 312 4)) < 2147483648) ∧ (-2147483648 ≤ ((61 * (I 312 4)) + x1) ∧ ((61 * (I 312 4)) + x1) < 2147483648) ∧ Q ((61 * (I 312 4)) + x1) I D) :
    CI 102 [vR (some 312), vI x1] e I D Q := by
  refine Call_run (ls := [vR (some 312), vI x1]) rfl rfl ?_
  refine R_bipush (pc' := 2) rfl rfl ?_
  refine R_aload_n (pc' := 3) rfl rfl rfl ?_
  refine K_getI (pc' := 6) rfl rfl (by decide) rfl rfl ?_
  have g1 := h.1
  replace h := h.2
  refine R_imul (pc' := 7) rfl rfl g1 ?_
  refine R_iload_n (pc' := 8) rfl rfl rfl ?_
  have g2 := h.1
  replace h := h.2
  refine R_iadd (pc' := 9) rfl rfl g2 ?_
  exact R_iret rfl rfl ⟨_, _, _, rfl, rfl, h⟩
/-! 103 X9_isObject -/
theorem S103 {e : En} {I : HI} {D : HD} {Q : Int → HI → HD → Prop} {x1 : Int} (he : HS e)
    (h : ((x1 ≤ 0 → Q 0 I D) ∧ (¬ (x1 ≤ 0) → (((60 : Int) < x1 → Q 0 I D) ∧ (¬ ((60 : Int) < x1) → CI 102 [vR (some 312), vI x1] e I D (fun z1 I2 D3 => (0 ≤ z1 ∧ z1 < 122) ∧ (((I2 316 (z1.toNat)) = 0 → Q 0 I2 D3) ∧ (¬ ((I2 316 (z1.toNat)) = 0) → Q 1 I2 D3)))))))) :
    CI 103 [vR (some 312), vI x1] e I D Q := by
  refine Call_run (ls := [vR (some 312), vI x1]) rfl rfl ?_
  refine R_iload_n (pc' := 1) rfl rfl rfl ?_
  refine R_ifle (pc' := 4) rfl rfl (fun hc => ?_) (fun hc => ?_)
  · replace h := h.1 hc
    refine R_iconst (pc' := 28) rfl rfl ?_
    exact R_zret rfl rfl (Or.inl rfl) ⟨_, _, _, rfl, rfl, h⟩
  · replace h := h.2 hc
    refine R_iload_n (pc' := 5) rfl rfl rfl ?_
    refine R_bipush (pc' := 7) rfl rfl ?_
    refine R_icgt (pc' := 10) rfl rfl (fun hc => ?_) (fun hc => ?_)
    · replace h := h.1 hc
      refine R_iconst (pc' := 28) rfl rfl ?_
      exact R_zret rfl rfl (Or.inl rfl) ⟨_, _, _, rfl, rfl, h⟩
    · replace h := h.2 hc
      refine R_aload_n (pc' := 11) rfl rfl rfl ?_
      refine K_getR (pc' := 14) rfl rfl rfl rfl (st_at he rfl rfl (by decide)) ?_
      refine R_aload_n (pc' := 15) rfl rfl rfl ?_
      refine R_iload_n (pc' := 16) rfl rfl rfl ?_
      refine KI_iv (as := [vI x1]) (rest := [vR (some 316)]) (pc' := 19) rfl rfl rfl rfl rfl (Nat.le_of_ble_eq_true rfl) rfl (CI_mono h ?_)
      intro z1 I2 D3 h
      have g4 := h.1
      replace h := h.2
      refine K_zald (pc' := 20) rfl rfl rfl g4.1 g4.2 rfl ?_
      refine R_ifeq (pc' := 23) rfl rfl (fun hc => ?_) (fun hc => ?_)
      · replace h := h.1 hc
        refine R_iconst (pc' := 28) rfl rfl ?_
        exact R_zret rfl rfl (Or.inl rfl) ⟨_, _, _, rfl, rfl, h⟩
      · replace h := h.2 hc
        refine R_iconst (pc' := 24) rfl rfl ?_
        refine R_goto rfl ?_
        exact R_zret rfl rfl (Or.inr rfl) ⟨_, _, _, rfl, rfl, h⟩
/-! 104 X9_readOf -/
theorem S104 {e : En} {I : HI} {D : HD} {Q : HI → HD → Prop} {x1 : Int} {w2 : Int} {x4 : Int} (he : HS e)
    (h : CI 102 [vR (some 312), vI x1] e I D (fun z1 I2 D3 => (0 ≤ z1 ∧ z1 < 122) ∧ (0 ≤ z1 ∧ z1 < 122) ∧ (((0 : Int) ≤ (I2 321 (z1.toNat)) → (0 ≤ z1 ∧ z1 < 122) ∧ RV 104 42 [vJ, vJ, vL w2, vJ, vI x4, vJ] [vI (I2 321 (z1.toNat)), vI (I2 318 (z1.toNat)), vR (some 312)] e I2 D3 Q) ∧ (¬ ((0 : Int) ≤ (I2 321 (z1.toNat))) → (0 ≤ z1 ∧ z1 < 122) ∧ RV 104 42 [vJ, vJ, vL w2, vJ, vI x4, vJ] [vI (I2 319 (z1.toNat)), vI (I2 318 (z1.toNat)), vR (some 312)] e I2 D3 Q)))) :
    CV 104 [vR (some 312), vI x1, vL w2, vI x4] e I D Q := by
  refine Call_run (ls := [vR (some 312), vI x1, vL w2, vJ, vI x4, vJ]) rfl rfl ?_
  refine R_aload_n (pc' := 1) rfl rfl rfl ?_
  refine R_iload_n (pc' := 2) rfl rfl rfl ?_
  refine KI_iv (as := [vI x1]) (rest := []) (pc' := 5) rfl rfl rfl rfl rfl (Nat.le_of_ble_eq_true rfl) rfl (CI_mono h ?_)
  intro z1 I2 D3 h
  refine R_istore (ls' := [vR (some 312), vI x1, vL w2, vJ, vI x4, vI z1]) (pc' := 7) rfl rfl rfl ?_
  refine R_aload_n (pc' := 8) rfl rfl rfl ?_
  refine R_aload_n (pc' := 9) rfl rfl rfl ?_
  refine K_getR (pc' := 12) rfl rfl rfl rfl (st_at he rfl rfl (by decide)) ?_
  refine R_iload (pc' := 14) rfl rfl rfl ?_
  have g4 := h.1
  replace h := h.2
  refine K_iald (pc' := 15) rfl rfl rfl g4.1 g4.2 rfl ?_
  refine R_aload_n (pc' := 16) rfl rfl rfl ?_
  refine K_getR (pc' := 19) rfl rfl rfl rfl (st_at he rfl rfl (by decide)) ?_
  refine R_iload (pc' := 21) rfl rfl rfl ?_
  have g5 := h.1
  replace h := h.2
  refine K_iald (pc' := 22) rfl rfl rfl g5.1 g5.2 rfl ?_
  refine R_ifge (pc' := 25) rfl rfl (fun hc => ?_) (fun hc => ?_)
  · replace h := h.1 hc
    refine R_aload_n (pc' := 36) rfl rfl rfl ?_
    refine K_getR (pc' := 39) rfl rfl rfl rfl (st_at he rfl rfl (by decide)) ?_
    refine R_iload (pc' := 41) rfl rfl rfl ?_
    have g6 := h.1
    replace h := h.2
    refine K_iald (pc' := 42) rfl rfl rfl g6.1 g6.2 rfl ?_
    exact R_forget (ls' := [vJ, vJ, vL w2, vJ, vI x4, vJ]) ⟨Or.inr rfl, Or.inr rfl, Or.inl rfl, Or.inl rfl, Or.inl rfl, Or.inr rfl, trivial⟩ h
  · replace h := h.2 hc
    refine R_aload_n (pc' := 26) rfl rfl rfl ?_
    refine K_getR (pc' := 29) rfl rfl rfl rfl (st_at he rfl rfl (by decide)) ?_
    refine R_iload (pc' := 31) rfl rfl rfl ?_
    have g7 := h.1
    replace h := h.2
    refine K_iald (pc' := 32) rfl rfl rfl g7.1 g7.2 rfl ?_
    refine R_goto rfl ?_
    exact R_forget (ls' := [vJ, vJ, vL w2, vJ, vI x4, vJ]) ⟨Or.inr rfl, Or.inr rfl, Or.inl rfl, Or.inl rfl, Or.inl rfl, Or.inr rfl, trivial⟩ h
theorem S104_42 {e : En} {I : HI} {D : HD} {Q : HI → HD → Prop} {w2 : Int} {x4 : Int} {y1 : Int} {y2 : Int} (he : HS e)
    (h : CV 98 [vR (some 312), vI y1, vI y2, vL w2, vI x4] e I D (fun I2 D3 => Q I2 D3)) :
    RV 104 42 [vJ, vJ, vL w2, vJ, vI x4, vJ] [vI y2, vI y1, vR (some 312)] e I D Q := by
  show Run 104 42 [vJ, vJ, vL w2, vJ, vI x4, vJ] [vI y2, vI y1, vR (some 312)] (mk e I D) (pV e Q)
  refine R_lload_n (pc' := 43) rfl rfl rfl ?_
  refine R_iload (pc' := 45) rfl rfl rfl ?_
  refine KV_iv (as := [vI y1, vI y2, vL w2, vI x4]) (rest := []) (pc' := 48) rfl rfl rfl rfl rfl (Nat.le_of_ble_eq_true rfl) rfl (CV_mono h ?_)
  intro I2 D3 h
  exact R_vret rfl rfl ⟨_, _, rfl, rfl, h⟩
/-! 105 X9_kindOf -/
theorem S105 {e : En} {I : HI} {D : HD} {Q : Int → HI → HD → Prop} {x1 : Int} (he : HS e)
    (h : CI 103 [vR (some 312), vI x1] e I D (fun z1 I2 D3 => ((¬ z1 = 0 → CV 104 [vR (some 312), vI x1, vL 435678696495, vI 5] e I2 D3 (fun I5 D6 => ((¬ (I5 312 45) = 0 → CI 94 [vR (some 312), vI (I5 312 47), vI (I5 312 48), vL 7453295074141618991, vI 8] e I5 D6 (fun z7 I8 D9 => ((z7 = 0 → CI 94 [vR (some 312), vI (I8 312 47), vI (I8 312 48), vL 126879363321903, vI 6] e I8 D9 (fun z10 I11 D12 => ((z10 = 0 → CI 94 [vR (some 312), vI (I11 312 47), vI (I11 312 48), vL 435526127663, vI 5] e I11 D12 (fun z13 I14 D15 => ((z13 = 0 → Q 0 I14 D15) ∧ (¬ (z13 = 0) → Q 3 I14 D15)))) ∧ (¬ (z10 = 0) → Q 2 I11 D12)))) ∧ (¬ (z7 = 0) → Q 1 I8 D9)))) ∧ (¬ (¬ (I5 312 45) = 0) → Q 0 I5 D6)))) ∧ (¬ (¬ z1 = 0) → Q 0 I2 D3)))) :
    CI 105 [vR (some 312), vI x1] e I D Q := by
  refine Call_run (ls := [vR (some 312), vI x1]) rfl rfl ?_
  refine R_aload_n (pc' := 1) rfl rfl rfl ?_
  refine R_iload_n (pc' := 2) rfl rfl rfl ?_
  refine KI_iv (as := [vI x1]) (rest := []) (pc' := 5) rfl rfl rfl rfl rfl (Nat.le_of_ble_eq_true rfl) rfl (CI_mono h ?_)
  intro z1 I2 D3 h
  refine R_ifne (pc' := 8) rfl rfl (fun hc => ?_) (fun hc => ?_)
  · replace h := h.1 hc
    refine R_aload_n (pc' := 11) rfl rfl rfl ?_
    refine R_iload_n (pc' := 12) rfl rfl rfl ?_
    refine R_ldc2 (pc' := 15) rfl rfl ?_
    refine R_iconst (pc' := 16) rfl rfl ?_
    refine KV_iv (as := [vI x1, vL 435678696495, vI 5]) (rest := []) (pc' := 19) rfl rfl rfl rfl rfl (Nat.le_of_ble_eq_true rfl) rfl (CV_mono h ?_)
    intro I5 D6 h
    refine R_aload_n (pc' := 20) rfl rfl rfl ?_
    refine K_getI (pc' := 23) rfl rfl (by decide) rfl rfl ?_
    refine R_ifne (pc' := 26) rfl rfl (fun hc => ?_) (fun hc => ?_)
    · replace h := h.1 hc
      refine R_aload_n (pc' := 29) rfl rfl rfl ?_
      refine R_aload_n (pc' := 30) rfl rfl rfl ?_
      refine K_getI (pc' := 33) rfl rfl (by decide) rfl rfl ?_
      refine R_aload_n (pc' := 34) rfl rfl rfl ?_
      refine K_getI (pc' := 37) rfl rfl (by decide) rfl rfl ?_
      refine R_ldc2 (pc' := 40) rfl rfl ?_
      refine R_bipush (pc' := 42) rfl rfl ?_
      refine KI_iv (as := [vI (I5 312 47), vI (I5 312 48), vL 7453295074141618991, vI 8]) (rest := []) (pc' := 45) rfl rfl rfl rfl rfl (Nat.le_of_ble_eq_true rfl) rfl (CI_mono h ?_)
      intro z7 I8 D9 h
      refine R_ifeq (pc' := 48) rfl rfl (fun hc => ?_) (fun hc => ?_)
      · replace h := h.1 hc
        refine R_aload_n (pc' := 51) rfl rfl rfl ?_
        refine R_aload_n (pc' := 52) rfl rfl rfl ?_
        refine K_getI (pc' := 55) rfl rfl (by decide) rfl rfl ?_
        refine R_aload_n (pc' := 56) rfl rfl rfl ?_
        refine K_getI (pc' := 59) rfl rfl (by decide) rfl rfl ?_
        refine R_ldc2 (pc' := 62) rfl rfl ?_
        refine R_bipush (pc' := 64) rfl rfl ?_
        refine KI_iv (as := [vI (I8 312 47), vI (I8 312 48), vL 126879363321903, vI 6]) (rest := []) (pc' := 67) rfl rfl rfl rfl rfl (Nat.le_of_ble_eq_true rfl) rfl (CI_mono h ?_)
        intro z10 I11 D12 h
        refine R_ifeq (pc' := 70) rfl rfl (fun hc => ?_) (fun hc => ?_)
        · replace h := h.1 hc
          refine R_aload_n (pc' := 73) rfl rfl rfl ?_
          refine R_aload_n (pc' := 74) rfl rfl rfl ?_
          refine K_getI (pc' := 77) rfl rfl (by decide) rfl rfl ?_
          refine R_aload_n (pc' := 78) rfl rfl rfl ?_
          refine K_getI (pc' := 81) rfl rfl (by decide) rfl rfl ?_
          refine R_ldc2 (pc' := 84) rfl rfl ?_
          refine R_iconst (pc' := 85) rfl rfl ?_
          refine KI_iv (as := [vI (I11 312 47), vI (I11 312 48), vL 435526127663, vI 5]) (rest := []) (pc' := 88) rfl rfl rfl rfl rfl (Nat.le_of_ble_eq_true rfl) rfl (CI_mono h ?_)
          intro z13 I14 D15 h
          refine R_ifeq (pc' := 91) rfl rfl (fun hc => ?_) (fun hc => ?_)
          · replace h := h.1 hc
            refine R_iconst (pc' := 96) rfl rfl ?_
            exact R_iret rfl rfl ⟨_, _, _, rfl, rfl, h⟩
          · replace h := h.2 hc
            refine R_iconst (pc' := 92) rfl rfl ?_
            refine R_goto rfl ?_
            exact R_iret rfl rfl ⟨_, _, _, rfl, rfl, h⟩
        · replace h := h.2 hc
          refine R_iconst (pc' := 71) rfl rfl ?_
          exact R_iret rfl rfl ⟨_, _, _, rfl, rfl, h⟩
      · replace h := h.2 hc
        refine R_iconst (pc' := 49) rfl rfl ?_
        exact R_iret rfl rfl ⟨_, _, _, rfl, rfl, h⟩
    · replace h := h.2 hc
      refine R_iconst (pc' := 27) rfl rfl ?_
      exact R_iret rfl rfl ⟨_, _, _, rfl, rfl, h⟩
  · replace h := h.2 hc
    refine R_iconst (pc' := 9) rfl rfl ?_
    exact R_iret rfl rfl ⟨_, _, _, rfl, rfl, h⟩
/-! 106 X9_mend -/
theorem S106 {e : En} {I : HI} {D : HD} {Q : HI → HD → Prop} {x1 : Int} {x2 : Int} (he : HS e)
    (h : (-2147483648 ≤ (2000 * (I 312 4)) ∧ (2000 * (I 312 4)) < 2147483648) ∧ (0 ≤ (I 312 4) ∧ (I 312 4) < 2) ∧ (-2147483648 ≤ ((2000 * (I 312 4)) + (I 323 (((I 312 4) : Int).toNat))) ∧ ((2000 * (I 312 4)) + (I 323 (((I 312 4) : Int).toNat))) < 2147483648) ∧ (0 ≤ ((2000 * (I 312 4)) + (I 323 (((I 312 4) : Int).toNat))) ∧ ((2000 * (I 312 4)) + (I 323 (((I 312 4) : Int).toNat))) < 4000) ∧ (-2147483648 ≤ (2000 * (I 312 4)) ∧ (2000 * (I 312 4)) < 2147483648) ∧ (0 ≤ (I 312 4) ∧ (I 312 4) < 2) ∧ (-2147483648 ≤ ((2000 * (I 312 4)) + (I 323 (((I 312 4) : Int).toNat))) ∧ ((2000 * (I 312 4)) + (I 323 (((I 312 4) : Int).toNat))) < 2147483648) ∧ (0 ≤ ((2000 * (I 312 4)) + (I 323 (((I 312 4) : Int).toNat))) ∧ ((2000 * (I 312 4)) + (I 323 (((I 312 4) : Int).toNat))) < 4000) ∧ (0 ≤ (I 312 4) ∧ (I 312 4) < 2) ∧ (-2147483648 ≤ ((I 323 (((I 312 4) : Int).toNat)) + 1) ∧ ((I 323 (((I 312 4) : Int).toNat)) + 1) < 2147483648) ∧ (0 ≤ (I 312 4) ∧ (I 312 4) < 2) ∧ Q (uI (uI (uI I 324 ((((2000 * (I 312 4)) + (I 323 (((I 312 4) : Int).toNat))) : Int).toNat) x1) 325 ((((2000 * (I 312 4)) + (I 323 (((I 312 4) : Int).toNat))) : Int).toNat) x2) 323 (((I 312 4) : Int).toNat) ((I 323 (((I 312 4) : Int).toNat)) + 1)) D) :
    CV 106 [vR (some 312), vI x1, vI x2] e I D Q := by
  refine Call_run (ls := [vR (some 312), vI x1, vI x2]) rfl rfl ?_
  refine R_aload_n (pc' := 1) rfl rfl rfl ?_
  refine K_getR (pc' := 4) rfl rfl rfl rfl (st_at he rfl rfl (by decide)) ?_
  refine R_sipush (pc' := 7) rfl rfl ?_
  refine R_aload_n (pc' := 8) rfl rfl rfl ?_
  refine K_getI (pc' := 11) rfl rfl (by decide) rfl rfl ?_
  have g1 := h.1
  replace h := h.2
  refine R_imul (pc' := 12) rfl rfl g1 ?_
  refine R_aload_n (pc' := 13) rfl rfl rfl ?_
  refine K_getR (pc' := 16) rfl rfl rfl rfl (st_at he rfl rfl (by decide)) ?_
  refine R_aload_n (pc' := 17) rfl rfl rfl ?_
  refine K_getI (pc' := 20) rfl rfl (by decide) rfl rfl ?_
  have g2 := h.1
  replace h := h.2
  refine K_iald (pc' := 21) rfl rfl rfl g2.1 g2.2 rfl ?_
  have g3 := h.1
  replace h := h.2
  refine R_iadd (pc' := 22) rfl rfl g3 ?_
  refine R_iload_n (pc' := 23) rfl rfl rfl ?_
  have g4 := h.1
  replace h := h.2
  refine K_iast (pc' := 24) rfl rfl rfl g4.1 g4.2 ?_
  refine R_aload_n (pc' := 25) rfl rfl rfl ?_
  refine K_getR (pc' := 28) rfl rfl rfl rfl (st_at he rfl rfl (by decide)) ?_
  refine R_sipush (pc' := 31) rfl rfl ?_
  refine R_aload_n (pc' := 32) rfl rfl rfl ?_
  refine K_getI (pc' := 35) rfl rfl (by decide) rfl rfl ?_
  have g5 := h.1
  replace h := h.2
  refine R_imul (pc' := 36) rfl rfl g5 ?_
  refine R_aload_n (pc' := 37) rfl rfl rfl ?_
  refine K_getR (pc' := 40) rfl rfl rfl rfl (st_at he rfl rfl (by decide)) ?_
  refine R_aload_n (pc' := 41) rfl rfl rfl ?_
  refine K_getI (pc' := 44) rfl rfl (by decide) rfl rfl ?_
  have g6 := h.1
  replace h := h.2
  refine K_iald (pc' := 45) rfl rfl rfl g6.1 g6.2 rfl ?_
  have g7 := h.1
  replace h := h.2
  refine R_iadd (pc' := 46) rfl rfl g7 ?_
  refine R_iload_n (pc' := 47) rfl rfl rfl ?_
  have g8 := h.1
  replace h := h.2
  refine K_iast (pc' := 48) rfl rfl rfl g8.1 g8.2 ?_
  refine R_aload_n (pc' := 49) rfl rfl rfl ?_
  refine K_getR (pc' := 52) rfl rfl rfl rfl (st_at he rfl rfl (by decide)) ?_
  refine R_aload_n (pc' := 53) rfl rfl rfl ?_
  refine K_getI (pc' := 56) rfl rfl (by decide) rfl rfl ?_
  refine R_dup2 (pc' := 57) rfl rfl rfl rfl ?_
  have g9 := h.1
  replace h := h.2
  refine K_iald (pc' := 58) rfl rfl rfl g9.1 g9.2 rfl ?_
  refine R_iconst (pc' := 59) rfl rfl ?_
  have g10 := h.1
  replace h := h.2
  refine R_iadd (pc' := 60) rfl rfl g10 ?_
  have g11 := h.1
  replace h := h.2
  refine K_iast (pc' := 61) rfl rfl rfl g11.1 g11.2 ?_
  exact R_vret rfl rfl ⟨_, _, rfl, rfl, h⟩
/-! 107 X9_close -/
theorem S107 {e : En} {I : HI} {D : HD} {Q : HI → HD → Prop} {x1 : Int} {x2 : Int} (he : HS e)
    (h : CI 102 [vR (some 312), vI (I 312 25)] e I D (fun z1 I2 D3 => (0 ≤ z1 ∧ z1 < 122) ∧ (((I2 316 (z1.toNat)) = 0 → RV 107 59 [vR (some 312), vI x1, vI x2, vI z1] [] e I2 D3 Q) ∧ (¬ ((I2 316 (z1.toNat)) = 0) → (0 ≤ z1 ∧ z1 < 122) ∧ CV 106 [vR (some 312), vI 4, vI (I2 317 (z1.toNat))] e I2 D3 (fun I7 D8 => ((¬ (I7 312 4) = 0 → RV 107 59 [vR (some 312), vI x1, vI x2, vI z1] [] e I7 D8 Q) ∧ (¬ (¬ (I7 312 4) = 0) → (0 ≤ (I7 312 17) ∧ (I7 312 17) < 800) ∧ (-2147483648 ≤ ((I7 312 17) + 1) ∧ ((I7 312 17) + 1) < 2147483648) ∧ RV 107 59 [vR (some 312), vI x1, vI x2, vI z1] [] e (uI (uI I7 326 (((I7 312 17) : Int).toNat) (I7 312 25)) 312 17 ((I7 312 17) + 1)) D8 Q))))))) :
    CV 107 [vR (some 312), vI x1, vI x2] e I D Q := by
  refine Call_run (ls := [vR (some 312), vI x1, vI x2, vJ]) rfl rfl ?_
  refine R_aload_n (pc' := 1) rfl rfl rfl ?_
  refine R_aload_n (pc' := 2) rfl rfl rfl ?_
  refine K_getI (pc' := 5) rfl rfl (by decide) rfl rfl ?_
  refine KI_iv (as := [vI (I 312 25)]) (rest := []) (pc' := 8) rfl rfl rfl rfl rfl (Nat.le_of_ble_eq_true rfl) rfl (CI_mono h ?_)
  intro z1 I2 D3 h
  refine R_istore_n (ls' := [vR (some 312), vI x1, vI x2, vI z1]) (pc' := 9) rfl rfl rfl ?_
  refine R_aload_n (pc' := 10) rfl rfl rfl ?_
  refine K_getR (pc' := 13) rfl rfl rfl rfl (st_at he rfl rfl (by decide)) ?_
  refine R_iload_n (pc' := 14) rfl rfl rfl ?_
  have g4 := h.1
  replace h := h.2
  refine K_zald (pc' := 15) rfl rfl rfl g4.1 g4.2 rfl ?_
  refine R_ifeq (pc' := 18) rfl rfl (fun hc => ?_) (fun hc => ?_)
  · replace h := h.1 hc
    exact h
  · replace h := h.2 hc
    refine R_aload_n (pc' := 19) rfl rfl rfl ?_
    refine R_iconst (pc' := 20) rfl rfl ?_
    refine R_aload_n (pc' := 21) rfl rfl rfl ?_
    refine K_getR (pc' := 24) rfl rfl rfl rfl (st_at he rfl rfl (by decide)) ?_
    refine R_iload_n (pc' := 25) rfl rfl rfl ?_
    have g5 := h.1
    replace h := h.2
    refine K_iald (pc' := 26) rfl rfl rfl g5.1 g5.2 rfl ?_
    refine KV_iv (as := [vI 4, vI (I2 317 (z1.toNat))]) (rest := []) (pc' := 29) rfl rfl rfl rfl rfl (Nat.le_of_ble_eq_true rfl) rfl (CV_mono h ?_)
    intro I7 D8 h
    refine R_aload_n (pc' := 30) rfl rfl rfl ?_
    refine K_getI (pc' := 33) rfl rfl (by decide) rfl rfl ?_
    refine R_ifne (pc' := 36) rfl rfl (fun hc => ?_) (fun hc => ?_)
    · replace h := h.1 hc
      exact h
    · replace h := h.2 hc
      refine R_aload_n (pc' := 37) rfl rfl rfl ?_
      refine K_getR (pc' := 40) rfl rfl rfl rfl (st_at he rfl rfl (by decide)) ?_
      refine R_aload_n (pc' := 41) rfl rfl rfl ?_
      refine K_getI (pc' := 44) rfl rfl (by decide) rfl rfl ?_
      refine R_aload_n (pc' := 45) rfl rfl rfl ?_
      refine K_getI (pc' := 48) rfl rfl (by decide) rfl rfl ?_
      have g9 := h.1
      replace h := h.2
      refine K_iast (pc' := 49) rfl rfl rfl g9.1 g9.2 ?_
      refine R_aload_n (pc' := 50) rfl rfl rfl ?_
      refine R_dup (pc' := 51) rfl rfl rfl ?_
      refine K_getI (pc' := 54) rfl rfl (by decide) rfl rfl ?_
      refine R_iconst (pc' := 55) rfl rfl ?_
      have g10 := h.1
      replace h := h.2
      refine R_iadd (pc' := 56) rfl rfl g10 ?_
      refine K_putI (pc' := 59) rfl rfl (by decide) (fun h => absurd h (by decide)) rfl ?_
      exact h
theorem S107_59 {e : En} {I : HI} {D : HD} {Q : HI → HD → Prop} {x1 : Int} {x2 : Int} {x3 : Int} (he : HS e)
    (h : (0 ≤ x3 ∧ x3 < 122) ∧ (0 ≤ x3 ∧ x3 < 122) ∧ (0 ≤ x3 ∧ x3 < 122) ∧ (0 ≤ x3 ∧ x3 < 122) ∧ (((I 312 30) = 0 → RV 107 113 [vR (some 312), vJ, vJ, vI x3] [vI x3, vR (some 320)] e (uI (uI (uI (uI I 316 (x3.toNat) 1) 317 (x3.toNat) (I 312 26)) 318 (x3.toNat) (I 312 27)) 319 (x3.toNat) x1) D Q) ∧ (¬ ((I 312 30) = 0) → ((x2 = 0 → RV 107 113 [vR (some 312), vJ, vJ, vI x3] [vI x3, vR (some 320)] e (uI (uI (uI (uI I 316 (x3.toNat) 1) 317 (x3.toNat) (I 312 26)) 318 (x3.toNat) (I 312 27)) 319 (x3.toNat) x1) D Q) ∧ (¬ (x2 = 0) → RV 107 114 [vR (some 312), vJ, vJ, vI x3] [vI 1, vI x3, vR (some 320)] e (uI (uI (uI (uI I 316 (x3.toNat) 1) 317 (x3.toNat) (I 312 26)) 318 (x3.toNat) (I 312 27)) 319 (x3.toNat) x1) D Q))))) :
    RV 107 59 [vR (some 312), vI x1, vI x2, vI x3] [] e I D Q := by
  show Run 107 59 [vR (some 312), vI x1, vI x2, vI x3] [] (mk e I D) (pV e Q)
  refine R_aload_n (pc' := 60) rfl rfl rfl ?_
  refine K_getR (pc' := 63) rfl rfl rfl rfl (st_at he rfl rfl (by decide)) ?_
  refine R_iload_n (pc' := 64) rfl rfl rfl ?_
  refine R_iconst (pc' := 65) rfl rfl ?_
  have g1 := h.1
  replace h := h.2
  refine K_zast (pc' := 66) rfl rfl rfl g1.1 g1.2 (Or.inr rfl) ?_
  refine R_aload_n (pc' := 67) rfl rfl rfl ?_
  refine K_getR (pc' := 70) rfl rfl rfl rfl (st_at he rfl rfl (by decide)) ?_
  refine R_iload_n (pc' := 71) rfl rfl rfl ?_
  refine R_aload_n (pc' := 72) rfl rfl rfl ?_
  refine K_getI (pc' := 75) rfl rfl (by decide) rfl rfl ?_
  have g2 := h.1
  replace h := h.2
  refine K_iast (pc' := 76) rfl rfl rfl g2.1 g2.2 ?_
  refine R_aload_n (pc' := 77) rfl rfl rfl ?_
  refine K_getR (pc' := 80) rfl rfl rfl rfl (st_at he rfl rfl (by decide)) ?_
  refine R_iload_n (pc' := 81) rfl rfl rfl ?_
  refine R_aload_n (pc' := 82) rfl rfl rfl ?_
  refine K_getI (pc' := 85) rfl rfl (by decide) rfl rfl ?_
  have g3 := h.1
  replace h := h.2
  refine K_iast (pc' := 86) rfl rfl rfl g3.1 g3.2 ?_
  refine R_aload_n (pc' := 87) rfl rfl rfl ?_
  refine K_getR (pc' := 90) rfl rfl rfl rfl (st_at he rfl rfl (by decide)) ?_
  refine R_iload_n (pc' := 91) rfl rfl rfl ?_
  refine R_iload_n (pc' := 92) rfl rfl rfl ?_
  have g4 := h.1
  replace h := h.2
  refine K_iast (pc' := 93) rfl rfl rfl g4.1 g4.2 ?_
  refine R_aload_n (pc' := 94) rfl rfl rfl ?_
  refine K_getR (pc' := 97) rfl rfl rfl rfl (st_at he rfl rfl (by decide)) ?_
  refine R_iload_n (pc' := 98) rfl rfl rfl ?_
  refine R_aload_n (pc' := 99) rfl rfl rfl ?_
  refine K_getI (pc' := 102) rfl rfl (by decide) rfl rfl ?_
  refine R_ifeq (pc' := 105) rfl rfl (fun hc => ?_) (fun hc => ?_)
  · replace h := h.1 hc
    exact R_forget (ls' := [vR (some 312), vJ, vJ, vI x3]) ⟨Or.inl rfl, Or.inr rfl, Or.inr rfl, Or.inl rfl, trivial⟩ h
  · replace h := h.2 hc
    refine R_iload_n (pc' := 106) rfl rfl rfl ?_
    refine R_ifeq (pc' := 109) rfl rfl (fun hc => ?_) (fun hc => ?_)
    · replace h := h.1 hc
      exact R_forget (ls' := [vR (some 312), vJ, vJ, vI x3]) ⟨Or.inl rfl, Or.inr rfl, Or.inr rfl, Or.inl rfl, trivial⟩ h
    · replace h := h.2 hc
      refine R_iconst (pc' := 110) rfl rfl ?_
      refine R_goto rfl ?_
      exact R_forget (ls' := [vR (some 312), vJ, vJ, vI x3]) ⟨Or.inl rfl, Or.inr rfl, Or.inr rfl, Or.inl rfl, trivial⟩ h
theorem S107_113 {e : En} {I : HI} {D : HD} {Q : HI → HD → Prop} {x3 : Int} {y1 : Int} (he : HS e)
    (h : RV 107 114 [vR (some 312), vJ, vJ, vI x3] [vI 0, vI y1, vR (some 320)] e I D Q) :
    RV 107 113 [vR (some 312), vJ, vJ, vI x3] [vI y1, vR (some 320)] e I D Q := by
  show Run 107 113 [vR (some 312), vJ, vJ, vI x3] [vI y1, vR (some 320)] (mk e I D) (pV e Q)
  refine R_iconst (pc' := 114) rfl rfl ?_
  exact h
theorem S107_114 {e : En} {I : HI} {D : HD} {Q : HI → HD → Prop} {x3 : Int} {y1 : Int} {y2 : Int} (he : HS e)
    (h : (0 ≤ y1 ∧ y1 < 122) ∧ (y2 = 0 ∨ y2 = 1) ∧ (0 ≤ x3 ∧ x3 < 122) ∧ (0 ≤ x3 ∧ x3 < 122) ∧ Q (uI (uI (uI (uI I 320 (y1.toNat) y2) 321 (x3.toNat) (I 312 28)) 322 (x3.toNat) (I 312 29)) 312 25 0) D) :
    RV 107 114 [vR (some 312), vJ, vJ, vI x3] [vI y2, vI y1, vR (some 320)] e I D Q := by
  show Run 107 114 [vR (some 312), vJ, vJ, vI x3] [vI y2, vI y1, vR (some 320)] (mk e I D) (pV e Q)
  have g1 := h.1
  replace h := h.2
  have g2 := h.1
  replace h := h.2
  refine K_zast (pc' := 115) rfl rfl rfl g1.1 g1.2 g2 ?_
  refine R_aload_n (pc' := 116) rfl rfl rfl ?_
  refine K_getR (pc' := 119) rfl rfl rfl rfl (st_at he rfl rfl (by decide)) ?_
  refine R_iload_n (pc' := 120) rfl rfl rfl ?_
  refine R_aload_n (pc' := 121) rfl rfl rfl ?_
  refine K_getI (pc' := 124) rfl rfl (by decide) rfl rfl ?_
  have g3 := h.1
  replace h := h.2
  refine K_iast (pc' := 125) rfl rfl rfl g3.1 g3.2 ?_
  refine R_aload_n (pc' := 126) rfl rfl rfl ?_
  refine K_getR (pc' := 129) rfl rfl rfl rfl (st_at he rfl rfl (by decide)) ?_
  refine R_iload_n (pc' := 130) rfl rfl rfl ?_
  refine R_aload_n (pc' := 131) rfl rfl rfl ?_
  refine K_getI (pc' := 134) rfl rfl (by decide) rfl rfl ?_
  have g4 := h.1
  replace h := h.2
  refine K_iast (pc' := 135) rfl rfl rfl g4.1 g4.2 ?_
  refine R_aload_n (pc' := 136) rfl rfl rfl ?_
  refine R_iconst (pc' := 137) rfl rfl ?_
  refine K_putI (pc' := 140) rfl rfl (by decide) (fun h => absurd h (by decide)) rfl ?_
  exact R_vret rfl rfl ⟨_, _, rfl, rfl, h⟩
/-! 108 X9_closeMissing -/
theorem S108 {e : En} {I : HI} {D : HD} {Q : HI → HD → Prop} {x1 : Int} (he : HS e)
    (h : (((I 312 25) ≤ 0 → Q I D) ∧ (¬ ((I 312 25) ≤ 0) → CV 106 [vR (some 312), vI 1, vI x1] e I D (fun I2 D3 => CV 107 [vR (some 312), vI x1, vI 0] e I2 D3 (fun I5 D6 => Q I5 D6))))) :
    CV 108 [vR (some 312), vI x1] e I D Q := by
  refine Call_run (ls := [vR (some 312), vI x1]) rfl rfl ?_
  refine R_aload_n (pc' := 1) rfl rfl rfl ?_
  refine K_getI (pc' := 4) rfl rfl (by decide) rfl rfl ?_
  refine R_ifle (pc' := 7) rfl rfl (fun hc => ?_) (fun hc => ?_)
  · replace h := h.1 hc
    exact R_vret rfl rfl ⟨_, _, rfl, rfl, h⟩
  · replace h := h.2 hc
    refine R_aload_n (pc' := 8) rfl rfl rfl ?_
    refine R_iconst (pc' := 9) rfl rfl ?_
    refine R_iload_n (pc' := 10) rfl rfl rfl ?_
    refine KV_iv (as := [vI 1, vI x1]) (rest := []) (pc' := 13) rfl rfl rfl rfl rfl (Nat.le_of_ble_eq_true rfl) rfl (CV_mono h ?_)
    intro I2 D3 h
    refine R_aload_n (pc' := 14) rfl rfl rfl ?_
    refine R_iload_n (pc' := 15) rfl rfl rfl ?_
    refine R_iconst (pc' := 16) rfl rfl ?_
    refine KV_iv (as := [vI x1, vI 0]) (rest := []) (pc' := 19) rfl rfl rfl rfl rfl (Nat.le_of_ble_eq_true rfl) rfl (CV_mono h ?_)
    intro I5 D6 h
    exact R_vret rfl rfl ⟨_, _, rfl, rfl, h⟩
/-! 109 X9_readTrailer -/
theorem S109 {e : En} {I : HI} {D : HD} {Q : HI → HD → Prop} (he : HS e)
    (h : CV 108 [vR (some 312), vI (I 312 33)] e I D (fun I2 D3 => CV 98 [vR (some 312), vI (I2 312 31), vI (I2 312 32), vL 500085772847, vI 5] e I2 D3 (fun I5 D6 => CI 101 [vR (some 312)] e I5 D6 (fun z7 I8 D9 => ((z7 ≤ 0 → (0 ≤ (I8 312 4) ∧ (I8 312 4) < 2) ∧ RV 109 58 [vR (some 312), vI (I2 312 31), vI (I2 312 32), vJ] [vI (I8 327 (((I8 312 4) : Int).toNat)), vI (I8 312 4), vR (some 327)] e I8 D9 Q) ∧ (¬ (z7 ≤ 0) → RV 109 58 [vR (some 312), vI (I2 312 31), vI (I2 312 32), vJ] [vI z7, vI (I8 312 4), vR (some 327)] e I8 D9 Q)))))) :
    CV 109 [vR (some 312)] e I D Q := by
  refine Call_run (ls := [vR (some 312), vJ, vJ, vJ]) rfl rfl ?_
  refine R_aload_n (pc' := 1) rfl rfl rfl ?_
  refine R_aload_n (pc' := 2) rfl rfl rfl ?_
  refine K_getI (pc' := 5) rfl rfl (by decide) rfl rfl ?_
  refine KV_iv (as := [vI (I 312 33)]) (rest := []) (pc' := 8) rfl rfl rfl rfl rfl (Nat.le_of_ble_eq_true rfl) rfl (CV_mono h ?_)
  intro I2 D3 h
  refine R_aload_n (pc' := 9) rfl rfl rfl ?_
  refine K_getI (pc' := 12) rfl rfl (by decide) rfl rfl ?_
  refine R_istore_n (ls' := [vR (some 312), vI (I2 312 31), vJ, vJ]) (pc' := 13) rfl rfl rfl ?_
  refine R_aload_n (pc' := 14) rfl rfl rfl ?_
  refine K_getI (pc' := 17) rfl rfl (by decide) rfl rfl ?_
  refine R_istore_n (ls' := [vR (some 312), vI (I2 312 31), vI (I2 312 32), vJ]) (pc' := 18) rfl rfl rfl ?_
  refine R_aload_n (pc' := 19) rfl rfl rfl ?_
  refine R_iload_n (pc' := 20) rfl rfl rfl ?_
  refine R_iload_n (pc' := 21) rfl rfl rfl ?_
  refine R_ldc2 (pc' := 24) rfl rfl ?_
  refine R_iconst (pc' := 25) rfl rfl ?_
  refine KV_iv (as := [vI (I2 312 31), vI (I2 312 32), vL 500085772847, vI 5]) (rest := []) (pc' := 28) rfl rfl rfl rfl rfl (Nat.le_of_ble_eq_true rfl) rfl (CV_mono h ?_)
  intro I5 D6 h
  refine R_aload_n (pc' := 29) rfl rfl rfl ?_
  refine KI_iv (as := []) (rest := []) (pc' := 32) rfl rfl rfl rfl rfl (Nat.le_of_ble_eq_true rfl) rfl (CI_mono h ?_)
  intro z7 I8 D9 h
  refine R_istore_n (ls' := [vR (some 312), vI (I2 312 31), vI (I2 312 32), vI z7]) (pc' := 33) rfl rfl rfl ?_
  refine R_aload_n (pc' := 34) rfl rfl rfl ?_
  refine K_getR (pc' := 37) rfl rfl rfl rfl (st_at he rfl rfl (by decide)) ?_
  refine R_aload_n (pc' := 38) rfl rfl rfl ?_
  refine K_getI (pc' := 41) rfl rfl (by decide) rfl rfl ?_
  refine R_iload_n (pc' := 42) rfl rfl rfl ?_
  refine R_ifle (pc' := 45) rfl rfl (fun hc => ?_) (fun hc => ?_)
  · replace h := h.1 hc
    refine R_aload_n (pc' := 50) rfl rfl rfl ?_
    refine K_getR (pc' := 53) rfl rfl rfl rfl (st_at he rfl rfl (by decide)) ?_
    refine R_aload_n (pc' := 54) rfl rfl rfl ?_
    refine K_getI (pc' := 57) rfl rfl (by decide) rfl rfl ?_
    have g10 := h.1
    replace h := h.2
    refine K_iald (pc' := 58) rfl rfl rfl g10.1 g10.2 rfl ?_
    exact R_forget (ls' := [vR (some 312), vI (I2 312 31), vI (I2 312 32), vJ]) ⟨Or.inl rfl, Or.inl rfl, Or.inl rfl, Or.inr rfl, trivial⟩ h
  · replace h := h.2 hc
    refine R_iload_n (pc' := 46) rfl rfl rfl ?_
    refine R_goto rfl ?_
    exact R_forget (ls' := [vR (some 312), vI (I2 312 31), vI (I2 312 32), vJ]) ⟨Or.inl rfl, Or.inl rfl, Or.inl rfl, Or.inr rfl, trivial⟩ h
theorem S109_58 {e : En} {I : HI} {D : HD} {Q : HI → HD → Prop} {x1 : Int} {x2 : Int} {y1 : Int} {y2 : Int} (he : HS e)
    (h : (0 ≤ y1 ∧ y1 < 2) ∧ CV 98 [vR (some 312), vI x1, vI x2, vL 435845419823, vI 5] e (uI I 327 (y1.toNat) y2) D (fun I3 D4 => (((I3 312 45) = 0 → RV 109 98 [vR (some 312), vI x1, vI x2, vJ] [vI (I3 312 4), vR (some 328)] e I3 D4 Q) ∧ (¬ ((I3 312 45) = 0) → (((I3 312 46) < 0 → RV 109 98 [vR (some 312), vI x1, vI x2, vJ] [vI (I3 312 4), vR (some 328)] e I3 D4 Q) ∧ (¬ ((I3 312 46) < 0) → RV 109 107 [vR (some 312), vI x1, vI x2, vJ] [vI (I3 312 46), vI (I3 312 4), vR (some 328)] e I3 D4 Q)))))) :
    RV 109 58 [vR (some 312), vI x1, vI x2, vJ] [vI y2, vI y1, vR (some 327)] e I D Q := by
  show Run 109 58 [vR (some 312), vI x1, vI x2, vJ] [vI y2, vI y1, vR (some 327)] (mk e I D) (pV e Q)
  have g1 := h.1
  replace h := h.2
  refine K_iast (pc' := 59) rfl rfl rfl g1.1 g1.2 ?_
  refine R_aload_n (pc' := 60) rfl rfl rfl ?_
  refine R_iload_n (pc' := 61) rfl rfl rfl ?_
  refine R_iload_n (pc' := 62) rfl rfl rfl ?_
  refine R_ldc2 (pc' := 65) rfl rfl ?_
  refine R_iconst (pc' := 66) rfl rfl ?_
  refine KV_iv (as := [vI x1, vI x2, vL 435845419823, vI 5]) (rest := []) (pc' := 69) rfl rfl rfl rfl rfl (Nat.le_of_ble_eq_true rfl) rfl (CV_mono h ?_)
  intro I3 D4 h
  refine R_aload_n (pc' := 70) rfl rfl rfl ?_
  refine K_getR (pc' := 73) rfl rfl rfl rfl (st_at he rfl rfl (by decide)) ?_
  refine R_aload_n (pc' := 74) rfl rfl rfl ?_
  refine K_getI (pc' := 77) rfl rfl (by decide) rfl rfl ?_
  refine R_aload_n (pc' := 78) rfl rfl rfl ?_
  refine K_getI (pc' := 81) rfl rfl (by decide) rfl rfl ?_
  refine R_ifeq (pc' := 84) rfl rfl (fun hc => ?_) (fun hc => ?_)
  · replace h := h.1 hc
    exact h
  · replace h := h.2 hc
    refine R_aload_n (pc' := 85) rfl rfl rfl ?_
    refine K_getI (pc' := 88) rfl rfl (by decide) rfl rfl ?_
    refine R_iflt (pc' := 91) rfl rfl (fun hc => ?_) (fun hc => ?_)
    · replace h := h.1 hc
      exact h
    · replace h := h.2 hc
      refine R_aload_n (pc' := 92) rfl rfl rfl ?_
      refine K_getI (pc' := 95) rfl rfl (by decide) rfl rfl ?_
      refine R_goto rfl ?_
      exact h
theorem S109_98 {e : En} {I : HI} {D : HD} {Q : HI → HD → Prop} {x1 : Int} {x2 : Int} {y1 : Int} (he : HS e)
    (h : (0 ≤ (I 312 4) ∧ (I 312 4) < 2) ∧ RV 109 107 [vR (some 312), vI x1, vI x2, vJ] [vI (I 328 (((I 312 4) : Int).toNat)), vI y1, vR (some 328)] e I D Q) :
    RV 109 98 [vR (some 312), vI x1, vI x2, vJ] [vI y1, vR (some 328)] e I D Q := by
  show Run 109 98 [vR (some 312), vI x1, vI x2, vJ] [vI y1, vR (some 328)] (mk e I D) (pV e Q)
  refine R_aload_n (pc' := 99) rfl rfl rfl ?_
  refine K_getR (pc' := 102) rfl rfl rfl rfl (st_at he rfl rfl (by decide)) ?_
  refine R_aload_n (pc' := 103) rfl rfl rfl ?_
  refine K_getI (pc' := 106) rfl rfl (by decide) rfl rfl ?_
  have g1 := h.1
  replace h := h.2
  refine K_iald (pc' := 107) rfl rfl rfl g1.1 g1.2 rfl ?_
  exact h
theorem S109_107 {e : En} {I : HI} {D : HD} {Q : HI → HD → Prop} {x1 : Int} {x2 : Int} {y1 : Int} {y2 : Int} (he : HS e)
    (h : (0 ≤ y1 ∧ y1 < 2) ∧ Q (uI (uI (uI I 328 (y1.toNat) y2) 312 31 x1) 312 32 x2) D) :
    RV 109 107 [vR (some 312), vI x1, vI x2, vJ] [vI y2, vI y1, vR (some 328)] e I D Q := by
  show Run 109 107 [vR (some 312), vI x1, vI x2, vJ] [vI y2, vI y1, vR (some 328)] (mk e I D) (pV e Q)
  have g1 := h.1
  replace h := h.2
  refine K_iast (pc' := 108) rfl rfl rfl g1.1 g1.2 ?_
  refine R_aload_n (pc' := 109) rfl rfl rfl ?_
  refine R_iload_n (pc' := 110) rfl rfl rfl ?_
  refine K_putI (pc' := 113) rfl rfl (by decide) (fun h => absurd h (by decide)) rfl ?_
  refine R_aload_n (pc' := 114) rfl rfl rfl ?_
  refine R_iload_n (pc' := 115) rfl rfl rfl ?_
  refine K_putI (pc' := 118) rfl rfl (by decide) (fun h => absurd h (by decide)) rfl ?_
  exact R_vret rfl rfl ⟨_, _, rfl, rfl, h⟩
/-! 110 X9_readStream -/
theorem S110 {e : En} {I : HI} {D : HD} {Q : HI → HD → Prop} {x1 : Int} {x2 : Int} {x3 : Int} (he : HS e)
    (h : (((0 : Int) ≤ (I 312 28) → Q I D) ∧ (¬ ((0 : Int) ≤ (I 312 28)) → (0 ≤ (I 312 4) ∧ (I 312 4) < 2) ∧ (((I 314 (((I 312 4) : Int).toNat)) ≤ x2 → Q I D) ∧ (¬ ((I 314 (((I 312 4) : Int).toNat)) ≤ x2) → CI 88 [vR (some 312), vI x2] e I D (fun z2 I3 D4 => ((z2 = 10 → CV 98 [vR (some 312), vI (I3 312 27), vI x1, vL 29401385160494127, vI 7] e I3 D4 (fun I6 D7 => (((I6 312 45) = 0 → RV 110 66 [vR (some 312), vJ, vI x2, vI x3, vI (I 312 32), vJ, vJ, vJ, vJ, vJ, vJ] [vI (-1)] e I6 D7 Q) ∧ (¬ ((I6 312 45) = 0) → RV 110 66 [vR (some 312), vJ, vI x2, vI x3, vI (I 312 32), vJ, vJ, vJ, vJ, vJ, vJ] [vI (I6 312 46)] e I6 D7 Q)))) ∧ (¬ (z2 = 10) → Q I3 D4)))))))) :
    CV 110 [vR (some 312), vI x1, vI x2, vI x3] e I D Q := by
  refine Call_run (ls := [vR (some 312), vI x1, vI x2, vI x3, vJ, vJ, vJ, vJ, vJ, vJ, vJ]) rfl rfl ?_
  refine R_aload_n (pc' := 1) rfl rfl rfl ?_
  refine K_getI (pc' := 4) rfl rfl (by decide) rfl rfl ?_
  refine R_istore (ls' := [vR (some 312), vI x1, vI x2, vI x3, vI (I 312 32), vJ, vJ, vJ, vJ, vJ, vJ]) (pc' := 6) rfl rfl rfl ?_
  refine R_aload_n (pc' := 7) rfl rfl rfl ?_
  refine K_getI (pc' := 10) rfl rfl (by decide) rfl rfl ?_
  refine R_ifge (pc' := 13) rfl rfl (fun hc => ?_) (fun hc => ?_)
  · replace h := h.1 hc
    exact R_vret rfl rfl ⟨_, _, rfl, rfl, h⟩
  · replace h := h.2 hc
    refine R_iload_n (pc' := 14) rfl rfl rfl ?_
    refine R_aload_n (pc' := 15) rfl rfl rfl ?_
    refine K_getR (pc' := 18) rfl rfl rfl rfl (st_at he rfl rfl (by decide)) ?_
    refine R_aload_n (pc' := 19) rfl rfl rfl ?_
    refine K_getI (pc' := 22) rfl rfl (by decide) rfl rfl ?_
    have g1 := h.1
    replace h := h.2
    refine K_iald (pc' := 23) rfl rfl rfl g1.1 g1.2 rfl ?_
    refine R_icge (pc' := 26) rfl rfl (fun hc => ?_) (fun hc => ?_)
    · replace h := h.1 hc
      exact R_vret rfl rfl ⟨_, _, rfl, rfl, h⟩
    · replace h := h.2 hc
      refine R_aload_n (pc' := 27) rfl rfl rfl ?_
      refine R_iload_n (pc' := 28) rfl rfl rfl ?_
      refine KI_iv (as := [vI x2]) (rest := []) (pc' := 31) rfl rfl rfl rfl rfl (Nat.le_of_ble_eq_true rfl) rfl (CI_mono h ?_)
      intro z2 I3 D4 h
      refine R_bipush (pc' := 33) rfl rfl ?_
      refine R_iceq (pc' := 36) rfl rfl (fun hc => ?_) (fun hc => ?_)
      · replace h := h.1 hc
        refine R_aload_n (pc' := 38) rfl rfl rfl ?_
        refine R_aload_n (pc' := 39) rfl rfl rfl ?_
        refine K_getI (pc' := 42) rfl rfl (by decide) rfl rfl ?_
        refine R_iload_n (pc' := 43) rfl rfl rfl ?_
        refine R_ldc2 (pc' := 46) rfl rfl ?_
        refine R_bipush (pc' := 48) rfl rfl ?_
        refine KV_iv (as := [vI (I3 312 27), vI x1, vL 29401385160494127, vI 7]) (rest := []) (pc' := 51) rfl rfl rfl rfl rfl (Nat.le_of_ble_eq_true rfl) rfl (CV_mono h ?_)
        intro I6 D7 h
        refine R_aload_n (pc' := 52) rfl rfl rfl ?_
        refine K_getI (pc' := 55) rfl rfl (by decide) rfl rfl ?_
        refine R_ifeq (pc' := 58) rfl rfl (fun hc => ?_) (fun hc => ?_)
        · replace h := h.1 hc
          refine R_iconst (pc' := 66) rfl rfl ?_
          exact R_forget (ls' := [vR (some 312), vJ, vI x2, vI x3, vI (I 312 32), vJ, vJ, vJ, vJ, vJ, vJ]) ⟨Or.inl rfl, Or.inr rfl, Or.inl rfl, Or.inl rfl, Or.inl rfl, Or.inl rfl, Or.inl rfl, Or.inl rfl, Or.inl rfl, Or.inl rfl, Or.inl rfl, trivial⟩ h
        · replace h := h.2 hc
          refine R_aload_n (pc' := 59) rfl rfl rfl ?_
          refine K_getI (pc' := 62) rfl rfl (by decide) rfl rfl ?_
          refine R_goto rfl ?_
          exact R_forget (ls' := [vR (some 312), vJ, vI x2, vI x3, vI (I 312 32), vJ, vJ, vJ, vJ, vJ, vJ]) ⟨Or.inl rfl, Or.inr rfl, Or.inl rfl, Or.inl rfl, Or.inl rfl, Or.inl rfl, Or.inl rfl, Or.inl rfl, Or.inl rfl, Or.inl rfl, Or.inl rfl, trivial⟩ h
      · replace h := h.2 hc
        exact R_vret rfl rfl ⟨_, _, rfl, rfl, h⟩
theorem S110_66 {e : En} {I : HI} {D : HD} {Q : HI → HD → Prop} {x2 : Int} {x3 : Int} {x4 : Int} {y0 : Int} (he : HS e)
    (h : (((I 312 37) < 0 → RV 110 87 [vR (some 312), vJ, vI x2, vJ, vI x4, vI y0, vJ, vJ, vJ, vJ, vJ] [] e I D Q) ∧ (¬ ((I 312 37) < 0) → ((¬ (I 312 37) = x3 → RV 110 87 [vR (some 312), vJ, vI x2, vJ, vI x4, vI y0, vJ, vJ, vJ, vJ, vJ] [] e I D Q) ∧ (¬ (¬ (I 312 37) = x3) → RV 110 88 [vR (some 312), vJ, vI x2, vJ, vI x4, vI y0, vJ, vJ, vJ, vJ, vJ] [vI 1] e I D Q))))) :
    RV 110 66 [vR (some 312), vJ, vI x2, vI x3, vI x4, vJ, vJ, vJ, vJ, vJ, vJ] [vI y0] e I D Q := by
  show Run 110 66 [vR (some 312), vJ, vI x2, vI x3, vI x4, vJ, vJ, vJ, vJ, vJ, vJ] [vI y0] (mk e I D) (pV e Q)
  refine R_istore (ls' := [vR (some 312), vJ, vI x2, vI x3, vI x4, vI y0, vJ, vJ, vJ, vJ, vJ]) (pc' := 68) rfl rfl rfl ?_
  refine R_aload_n (pc' := 69) rfl rfl rfl ?_
  refine K_getI (pc' := 72) rfl rfl (by decide) rfl rfl ?_
  refine R_iflt (pc' := 75) rfl rfl (fun hc => ?_) (fun hc => ?_)
  · replace h := h.1 hc
    exact R_forget (ls' := [vR (some 312), vJ, vI x2, vJ, vI x4, vI y0, vJ, vJ, vJ, vJ, vJ]) ⟨Or.inl rfl, Or.inl rfl, Or.inl rfl, Or.inr rfl, Or.inl rfl, Or.inl rfl, Or.inl rfl, Or.inl rfl, Or.inl rfl, Or.inl rfl, Or.inl rfl, trivial⟩ h
  · replace h := h.2 hc
    refine R_aload_n (pc' := 76) rfl rfl rfl ?_
    refine K_getI (pc' := 79) rfl rfl (by decide) rfl rfl ?_
    refine R_iload_n (pc' := 80) rfl rfl rfl ?_
    refine R_icne (pc' := 83) rfl rfl (fun hc => ?_) (fun hc => ?_)
    · replace h := h.1 hc
      exact R_forget (ls' := [vR (some 312), vJ, vI x2, vJ, vI x4, vI y0, vJ, vJ, vJ, vJ, vJ]) ⟨Or.inl rfl, Or.inl rfl, Or.inl rfl, Or.inr rfl, Or.inl rfl, Or.inl rfl, Or.inl rfl, Or.inl rfl, Or.inl rfl, Or.inl rfl, Or.inl rfl, trivial⟩ h
    · replace h := h.2 hc
      refine R_iconst (pc' := 84) rfl rfl ?_
      refine R_goto rfl ?_
      exact R_forget (ls' := [vR (some 312), vJ, vI x2, vJ, vI x4, vI y0, vJ, vJ, vJ, vJ, vJ]) ⟨Or.inl rfl, Or.inl rfl, Or.inl rfl, Or.inr rfl, Or.inl rfl, Or.inl rfl, Or.inl rfl, Or.inl rfl, Or.inl rfl, Or.inl rfl, Or.inl rfl, trivial⟩ h
theorem S110_87 {e : En} {I : HI} {D : HD} {Q : HI → HD → Prop} {x2 : Int} {x4 : Int} {x5 : Int} (he : HS e)
    (h : RV 110 88 [vR (some 312), vJ, vI x2, vJ, vI x4, vI x5, vJ, vJ, vJ, vJ, vJ] [vI 0] e I D Q) :
    RV 110 87 [vR (some 312), vJ, vI x2, vJ, vI x4, vI x5, vJ, vJ, vJ, vJ, vJ] [] e I D Q := by
  show Run 110 87 [vR (some 312), vJ, vI x2, vJ, vI x4, vI x5, vJ, vJ, vJ, vJ, vJ] [] (mk e I D) (pV e Q)
  refine R_iconst (pc' := 88) rfl rfl ?_
  exact h
theorem S110_88 {e : En} {I : HI} {D : HD} {Q : HI → HD → Prop} {x2 : Int} {x4 : Int} {x5 : Int} {y0 : Int} (he : HS e)
    (h : ((¬ y0 = 0 → (-2147483648 ≤ (x2 + 1) ∧ (x2 + 1) < 2147483648) ∧ (-2147483648 ≤ ((x2 + 1) + x5) ∧ ((x2 + 1) + x5) < 2147483648) ∧ ((x5 < 0 → RV 110 155 [vR (some 312), vJ, vJ, vJ, vJ, vI x5, vJ, vI ((x2 + 1) + x5), vJ, vJ, vJ] [] e (uI (uI (uI I 312 31 x2) 312 32 x4) 312 28 (x2 + 1)) D Q) ∧ (¬ (x5 < 0) → (0 ≤ (I 312 4) ∧ (I 312 4) < 2) ∧ (((I 314 (((I 312 4) : Int).toNat)) < ((x2 + 1) + x5) → RV 110 155 [vR (some 312), vJ, vJ, vJ, vJ, vI x5, vJ, vI ((x2 + 1) + x5), vJ, vJ, vJ] [] e (uI (uI (uI I 312 31 x2) 312 32 x4) 312 28 (x2 + 1)) D Q) ∧ (¬ ((I 314 (((I 312 4) : Int).toNat)) < ((x2 + 1) + x5)) → CI 93 [vR (some 312), vI ((x2 + 1) + x5)] e (uI (uI (uI I 312 31 x2) 312 32 x4) 312 28 (x2 + 1)) D (fun z4 I5 D6 => ((z4 = 0 → RV 110 155 [vR (some 312), vJ, vJ, vJ, vJ, vI x5, vJ, vI ((x2 + 1) + x5), vJ, vJ, vJ] [] e I5 D6 Q) ∧ (¬ (z4 = 0) → RV 110 156 [vR (some 312), vJ, vJ, vJ, vJ, vI x5, vJ, vI ((x2 + 1) + x5), vJ, vJ, vJ] [vI 1] e I5 D6 Q)))))))) ∧ (¬ (¬ y0 = 0) → Q (uI (uI I 312 31 x2) 312 32 x4) D))) :
    RV 110 88 [vR (some 312), vJ, vI x2, vJ, vI x4, vI x5, vJ, vJ, vJ, vJ, vJ] [vI y0] e I D Q := by
  show Run 110 88 [vR (some 312), vJ, vI x2, vJ, vI x4, vI x5, vJ, vJ, vJ, vJ, vJ] [vI y0] (mk e I D) (pV e Q)
  refine R_istore (ls' := [vR (some 312), vJ, vI x2, vJ, vI x4, vI x5, vI y0, vJ, vJ, vJ, vJ]) (pc' := 90) rfl rfl rfl ?_
  refine R_aload_n (pc' := 91) rfl rfl rfl ?_
  refine R_iload_n (pc' := 92) rfl rfl rfl ?_
  refine K_putI (pc' := 95) rfl rfl (by decide) (fun h => absurd h (by decide)) rfl ?_
  refine R_aload_n (pc' := 96) rfl rfl rfl ?_
  refine R_iload (pc' := 98) rfl rfl rfl ?_
  refine K_putI (pc' := 101) rfl rfl (by decide) (fun h => absurd h (by decide)) rfl ?_
  refine R_iload (pc' := 103) rfl rfl rfl ?_
  refine R_ifne (pc' := 106) rfl rfl (fun hc => ?_) (fun hc => ?_)
  · replace h := h.1 hc
    refine R_aload_n (pc' := 108) rfl rfl rfl ?_
    refine R_iload_n (pc' := 109) rfl rfl rfl ?_
    refine R_iconst (pc' := 110) rfl rfl ?_
    have g1 := h.1
    replace h := h.2
    refine R_iadd (pc' := 111) rfl rfl g1 ?_
    refine K_putI (pc' := 114) rfl rfl (by decide) (fun h => absurd h (by decide)) rfl ?_
    refine R_aload_n (pc' := 115) rfl rfl rfl ?_
    refine K_getI (pc' := 118) rfl rfl (by decide) rfl rfl ?_
    refine R_iload (pc' := 120) rfl rfl rfl ?_
    have g2 := h.1
    replace h := h.2
    refine R_iadd (pc' := 121) rfl rfl g2 ?_
    refine R_istore (ls' := [vR (some 312), vJ, vI x2, vJ, vI x4, vI x5, vI y0, vI ((x2 + 1) + x5), vJ, vJ, vJ]) (pc' := 123) rfl rfl rfl ?_
    refine R_iload (pc' := 125) rfl rfl rfl ?_
    refine R_iflt (pc' := 128) rfl rfl (fun hc => ?_) (fun hc => ?_)
    · replace h := h.1 hc
      exact R_forget (ls' := [vR (some 312), vJ, vJ, vJ, vJ, vI x5, vJ, vI ((x2 + 1) + x5), vJ, vJ, vJ]) ⟨Or.inl rfl, Or.inl rfl, Or.inr rfl, Or.inl rfl, Or.inr rfl, Or.inl rfl, Or.inr rfl, Or.inl rfl, Or.inl rfl, Or.inl rfl, Or.inl rfl, trivial⟩ h
    · replace h := h.2 hc
      refine R_iload (pc' := 130) rfl rfl rfl ?_
      refine R_aload_n (pc' := 131) rfl rfl rfl ?_
      refine K_getR (pc' := 134) rfl rfl rfl rfl (st_at he rfl rfl (by decide)) ?_
      refine R_aload_n (pc' := 135) rfl rfl rfl ?_
      refine K_getI (pc' := 138) rfl rfl (by decide) rfl rfl ?_
      have g3 := h.1
      replace h := h.2
      refine K_iald (pc' := 139) rfl rfl rfl g3.1 g3.2 rfl ?_
      refine R_icgt (pc' := 142) rfl rfl (fun hc => ?_) (fun hc => ?_)
      · replace h := h.1 hc
        exact R_forget (ls' := [vR (some 312), vJ, vJ, vJ, vJ, vI x5, vJ, vI ((x2 + 1) + x5), vJ, vJ, vJ]) ⟨Or.inl rfl, Or.inl rfl, Or.inr rfl, Or.inl rfl, Or.inr rfl, Or.inl rfl, Or.inr rfl, Or.inl rfl, Or.inl rfl, Or.inl rfl, Or.inl rfl, trivial⟩ h
      · replace h := h.2 hc
        refine R_aload_n (pc' := 143) rfl rfl rfl ?_
        refine R_iload (pc' := 145) rfl rfl rfl ?_
        refine KI_iv (as := [vI ((x2 + 1) + x5)]) (rest := []) (pc' := 148) rfl rfl rfl rfl rfl (Nat.le_of_ble_eq_true rfl) rfl (CI_mono h ?_)
        intro z4 I5 D6 h
        refine R_ifeq (pc' := 151) rfl rfl (fun hc => ?_) (fun hc => ?_)
        · replace h := h.1 hc
          exact R_forget (ls' := [vR (some 312), vJ, vJ, vJ, vJ, vI x5, vJ, vI ((x2 + 1) + x5), vJ, vJ, vJ]) ⟨Or.inl rfl, Or.inl rfl, Or.inr rfl, Or.inl rfl, Or.inr rfl, Or.inl rfl, Or.inr rfl, Or.inl rfl, Or.inl rfl, Or.inl rfl, Or.inl rfl, trivial⟩ h
        · replace h := h.2 hc
          refine R_iconst (pc' := 152) rfl rfl ?_
          refine R_goto rfl ?_
          exact R_forget (ls' := [vR (some 312), vJ, vJ, vJ, vJ, vI x5, vJ, vI ((x2 + 1) + x5), vJ, vJ, vJ]) ⟨Or.inl rfl, Or.inl rfl, Or.inr rfl, Or.inl rfl, Or.inr rfl, Or.inl rfl, Or.inr rfl, Or.inl rfl, Or.inl rfl, Or.inl rfl, Or.inl rfl, trivial⟩ h
  · replace h := h.2 hc
    exact R_vret rfl rfl ⟨_, _, rfl, rfl, h⟩
theorem S110_155 {e : En} {I : HI} {D : HD} {Q : HI → HD → Prop} {x5 : Int} {x7 : Int} (he : HS e)
    (h : RV 110 156 [vR (some 312), vJ, vJ, vJ, vJ, vI x5, vJ, vI x7, vJ, vJ, vJ] [vI 0] e I D Q) :
    RV 110 155 [vR (some 312), vJ, vJ, vJ, vJ, vI x5, vJ, vI x7, vJ, vJ, vJ] [] e I D Q := by
  show Run 110 155 [vR (some 312), vJ, vJ, vJ, vJ, vI x5, vJ, vI x7, vJ, vJ, vJ] [] (mk e I D) (pV e Q)
  refine R_iconst (pc' := 156) rfl rfl ?_
  exact h
theorem S110_156 {e : En} {I : HI} {D : HD} {Q : HI → HD → Prop} {x5 : Int} {x7 : Int} {y0 : Int} (he : HS e)
    (h : ((x5 < 0 → RV 110 203 [vR (some 312), vJ, vJ, vJ, vJ, vJ, vJ, vI x7, vI y0, vJ, vJ] [] e I D Q) ∧ (¬ (x5 < 0) → (0 ≤ (I 312 4) ∧ (I 312 4) < 2) ∧ (((I 314 (((I 312 4) : Int).toNat)) ≤ x7 → RV 110 203 [vR (some 312), vJ, vJ, vJ, vJ, vJ, vJ, vI x7, vI y0, vJ, vJ] [] e I D Q) ∧ (¬ ((I 314 (((I 312 4) : Int).toNat)) ≤ x7) → CI 88 [vR (some 312), vI x7] e I D (fun z2 I3 D4 => ((¬ z2 = 10 → RV 110 203 [vR (some 312), vJ, vJ, vJ, vJ, vJ, vJ, vI x7, vI y0, vJ, vJ] [] e I3 D4 Q) ∧ (¬ (¬ z2 = 10) → (-2147483648 ≤ (x7 + 1) ∧ (x7 + 1) < 2147483648) ∧ CI 93 [vR (some 312), vI (x7 + 1)] e I3 D4 (fun z6 I7 D8 => ((z6 = 0 → RV 110 203 [vR (some 312), vJ, vJ, vJ, vJ, vJ, vJ, vI x7, vI y0, vJ, vJ] [] e I7 D8 Q) ∧ (¬ (z6 = 0) → RV 110 204 [vR (some 312), vJ, vJ, vJ, vJ, vJ, vJ, vI x7, vI y0, vJ, vJ] [vI 1] e I7 D8 Q))))))))))) :
    RV 110 156 [vR (some 312), vJ, vJ, vJ, vJ, vI x5, vJ, vI x7, vJ, vJ, vJ] [vI y0] e I D Q := by
  show Run 110 156 [vR (some 312), vJ, vJ, vJ, vJ, vI x5, vJ, vI x7, vJ, vJ, vJ] [vI y0] (mk e I D) (pV e Q)
  refine R_istore (ls' := [vR (some 312), vJ, vJ, vJ, vJ, vI x5, vJ, vI x7, vI y0, vJ, vJ]) (pc' := 158) rfl rfl rfl ?_
  refine R_iload (pc' := 160) rfl rfl rfl ?_
  refine R_iflt (pc' := 163) rfl rfl (fun hc => ?_) (fun hc => ?_)
  · replace h := h.1 hc
    exact R_forget (ls' := [vR (some 312), vJ, vJ, vJ, vJ, vJ, vJ, vI x7, vI y0, vJ, vJ]) ⟨Or.inl rfl, Or.inl rfl, Or.inl rfl, Or.inl rfl, Or.inl rfl, Or.inr rfl, Or.inl rfl, Or.inl rfl, Or.inl rfl, Or.inl rfl, Or.inl rfl, trivial⟩ h
  · replace h := h.2 hc
    refine R_iload (pc' := 165) rfl rfl rfl ?_
    refine R_aload_n (pc' := 166) rfl rfl rfl ?_
    refine K_getR (pc' := 169) rfl rfl rfl rfl (st_at he rfl rfl (by decide)) ?_
    refine R_aload_n (pc' := 170) rfl rfl rfl ?_
    refine K_getI (pc' := 173) rfl rfl (by decide) rfl rfl ?_
    have g1 := h.1
    replace h := h.2
    refine K_iald (pc' := 174) rfl rfl rfl g1.1 g1.2 rfl ?_
    refine R_icge (pc' := 177) rfl rfl (fun hc => ?_) (fun hc => ?_)
    · replace h := h.1 hc
      exact R_forget (ls' := [vR (some 312), vJ, vJ, vJ, vJ, vJ, vJ, vI x7, vI y0, vJ, vJ]) ⟨Or.inl rfl, Or.inl rfl, Or.inl rfl, Or.inl rfl, Or.inl rfl, Or.inr rfl, Or.inl rfl, Or.inl rfl, Or.inl rfl, Or.inl rfl, Or.inl rfl, trivial⟩ h
    · replace h := h.2 hc
      refine R_aload_n (pc' := 178) rfl rfl rfl ?_
      refine R_iload (pc' := 180) rfl rfl rfl ?_
      refine KI_iv (as := [vI x7]) (rest := []) (pc' := 183) rfl rfl rfl rfl rfl (Nat.le_of_ble_eq_true rfl) rfl (CI_mono h ?_)
      intro z2 I3 D4 h
      refine R_bipush (pc' := 185) rfl rfl ?_
      refine R_icne (pc' := 188) rfl rfl (fun hc => ?_) (fun hc => ?_)
      · replace h := h.1 hc
        exact R_forget (ls' := [vR (some 312), vJ, vJ, vJ, vJ, vJ, vJ, vI x7, vI y0, vJ, vJ]) ⟨Or.inl rfl, Or.inl rfl, Or.inl rfl, Or.inl rfl, Or.inl rfl, Or.inr rfl, Or.inl rfl, Or.inl rfl, Or.inl rfl, Or.inl rfl, Or.inl rfl, trivial⟩ h
      · replace h := h.2 hc
        refine R_aload_n (pc' := 189) rfl rfl rfl ?_
        refine R_iload (pc' := 191) rfl rfl rfl ?_
        refine R_iconst (pc' := 192) rfl rfl ?_
        have g5 := h.1
        replace h := h.2
        refine R_iadd (pc' := 193) rfl rfl g5 ?_
        refine KI_iv (as := [vI (x7 + 1)]) (rest := []) (pc' := 196) rfl rfl rfl rfl rfl (Nat.le_of_ble_eq_true rfl) rfl (CI_mono h ?_)
        intro z6 I7 D8 h
        refine R_ifeq (pc' := 199) rfl rfl (fun hc => ?_) (fun hc => ?_)
        · replace h := h.1 hc
          exact R_forget (ls' := [vR (some 312), vJ, vJ, vJ, vJ, vJ, vJ, vI x7, vI y0, vJ, vJ]) ⟨Or.inl rfl, Or.inl rfl, Or.inl rfl, Or.inl rfl, Or.inl rfl, Or.inr rfl, Or.inl rfl, Or.inl rfl, Or.inl rfl, Or.inl rfl, Or.inl rfl, trivial⟩ h
        · replace h := h.2 hc
          refine R_iconst (pc' := 200) rfl rfl ?_
          refine R_goto rfl ?_
          exact R_forget (ls' := [vR (some 312), vJ, vJ, vJ, vJ, vJ, vJ, vI x7, vI y0, vJ, vJ]) ⟨Or.inl rfl, Or.inl rfl, Or.inl rfl, Or.inl rfl, Or.inl rfl, Or.inr rfl, Or.inl rfl, Or.inl rfl, Or.inl rfl, Or.inl rfl, Or.inl rfl, trivial⟩ h
theorem S110_203 {e : En} {I : HI} {D : HD} {Q : HI → HD → Prop} {x7 : Int} {x8 : Int} (he : HS e)
    (h : RV 110 204 [vR (some 312), vJ, vJ, vJ, vJ, vJ, vJ, vI x7, vI x8, vJ, vJ] [vI 0] e I D Q) :
    RV 110 203 [vR (some 312), vJ, vJ, vJ, vJ, vJ, vJ, vI x7, vI x8, vJ, vJ] [] e I D Q := by
  show Run 110 203 [vR (some 312), vJ, vJ, vJ, vJ, vJ, vJ, vI x7, vI x8, vJ, vJ] [] (mk e I D) (pV e Q)
  refine R_iconst (pc' := 204) rfl rfl ?_
  exact h
theorem S110_204 {e : En} {I : HI} {D : HD} {Q : HI → HD → Prop} {x7 : Int} {x8 : Int} {y0 : Int} (he : HS e)
    (h : ((¬ x8 = 0 → RV 110 216 [vR (some 312), vJ, vJ, vJ, vJ, vJ, vJ, vI x7, vI x8, vJ, vJ] [] e I D Q) ∧ (¬ (¬ x8 = 0) → ((y0 = 0 → CV 106 [vR (some 312), vI 3, vI (I 312 28)] e I D (fun I2 D3 => RV 110 265 [vR (some 312), vJ, vJ, vJ, vJ, vJ, vJ, vJ, vJ, vJ, vI (I2 312 28)] [] e (uI I2 312 30 0) D3 Q)) ∧ (¬ (y0 = 0) → RV 110 216 [vR (some 312), vJ, vJ, vJ, vJ, vJ, vJ, vI x7, vI x8, vJ, vJ] [] e I D Q))))) :
    RV 110 204 [vR (some 312), vJ, vJ, vJ, vJ, vJ, vJ, vI x7, vI x8, vJ, vJ] [vI y0] e I D Q := by
  show Run 110 204 [vR (some 312), vJ, vJ, vJ, vJ, vJ, vJ, vI x7, vI x8, vJ, vJ] [vI y0] (mk e I D) (pV e Q)
  refine R_istore (ls' := [vR (some 312), vJ, vJ, vJ, vJ, vJ, vJ, vI x7, vI x8, vI y0, vJ]) (pc' := 206) rfl rfl rfl ?_
  refine R_iload (pc' := 208) rfl rfl rfl ?_
  refine R_ifne (pc' := 211) rfl rfl (fun hc => ?_) (fun hc => ?_)
  · replace h := h.1 hc
    exact R_forget (ls' := [vR (some 312), vJ, vJ, vJ, vJ, vJ, vJ, vI x7, vI x8, vJ, vJ]) ⟨Or.inl rfl, Or.inl rfl, Or.inl rfl, Or.inl rfl, Or.inl rfl, Or.inl rfl, Or.inl rfl, Or.inl rfl, Or.inl rfl, Or.inr rfl, Or.inl rfl, trivial⟩ h
  · replace h := h.2 hc
    refine R_iload (pc' := 213) rfl rfl rfl ?_
    refine R_ifeq (pc' := 216) rfl rfl (fun hc => ?_) (fun hc => ?_)
    · replace h := h.1 hc
      refine R_aload_n (pc' := 246) rfl rfl rfl ?_
      refine R_iconst (pc' := 247) rfl rfl ?_
      refine R_aload_n (pc' := 248) rfl rfl rfl ?_
      refine K_getI (pc' := 251) rfl rfl (by decide) rfl rfl ?_
      refine KV_iv (as := [vI 3, vI (I 312 28)]) (rest := []) (pc' := 254) rfl rfl rfl rfl rfl (Nat.le_of_ble_eq_true rfl) rfl (CV_mono h ?_)
      intro I2 D3 h
      refine R_aload_n (pc' := 255) rfl rfl rfl ?_
      refine R_iconst (pc' := 256) rfl rfl ?_
      refine K_putI (pc' := 259) rfl rfl (by decide) (fun _ => Or.inl rfl) rfl ?_
      refine R_aload_n (pc' := 260) rfl rfl rfl ?_
      refine K_getI (pc' := 263) rfl rfl (by decide) rfl rfl ?_
      refine R_istore (ls' := [vR (some 312), vJ, vJ, vJ, vJ, vJ, vJ, vI x7, vI x8, vI y0, vI (I2 312 28)]) (pc' := 265) rfl rfl rfl ?_
      exact R_forget (ls' := [vR (some 312), vJ, vJ, vJ, vJ, vJ, vJ, vJ, vJ, vJ, vI (I2 312 28)]) ⟨Or.inl rfl, Or.inl rfl, Or.inl rfl, Or.inl rfl, Or.inl rfl, Or.inl rfl, Or.inl rfl, Or.inr rfl, Or.inr rfl, Or.inr rfl, Or.inl rfl, trivial⟩ h
    · replace h := h.2 hc
      exact R_forget (ls' := [vR (some 312), vJ, vJ, vJ, vJ, vJ, vJ, vI x7, vI x8, vJ, vJ]) ⟨Or.inl rfl, Or.inl rfl, Or.inl rfl, Or.inl rfl, Or.inl rfl, Or.inl rfl, Or.inl rfl, Or.inl rfl, Or.inl rfl, Or.inr rfl, Or.inl rfl, trivial⟩ h
theorem S110_216 {e : En} {I : HI} {D : HD} {Q : HI → HD → Prop} {x7 : Int} {x8 : Int} (he : HS e)
    (h : ((x8 = 0 → (-2147483648 ≤ (x7 + 10) ∧ (x7 + 10) < 2147483648) ∧ Q (uI (uI I 312 29 x7) 312 31 (x7 + 10)) D) ∧ (¬ (x8 = 0) → (-2147483648 ≤ (x7 + 9) ∧ (x7 + 9) < 2147483648) ∧ Q (uI (uI I 312 29 x7) 312 31 (x7 + 9)) D))) :
    RV 110 216 [vR (some 312), vJ, vJ, vJ, vJ, vJ, vJ, vI x7, vI x8, vJ, vJ] [] e I D Q := by
  show Run 110 216 [vR (some 312), vJ, vJ, vJ, vJ, vJ, vJ, vI x7, vI x8, vJ, vJ] [] (mk e I D) (pV e Q)
  refine R_aload_n (pc' := 217) rfl rfl rfl ?_
  refine R_iload (pc' := 219) rfl rfl rfl ?_
  refine K_putI (pc' := 222) rfl rfl (by decide) (fun h => absurd h (by decide)) rfl ?_
  refine R_aload_n (pc' := 223) rfl rfl rfl ?_
  refine R_iload (pc' := 225) rfl rfl rfl ?_
  refine R_ifeq (pc' := 228) rfl rfl (fun hc => ?_) (fun hc => ?_)
  · replace h := h.1 hc
    refine R_iload (pc' := 238) rfl rfl rfl ?_
    refine R_bipush (pc' := 240) rfl rfl ?_
    have g1 := h.1
    replace h := h.2
    refine R_iadd (pc' := 241) rfl rfl g1 ?_
    refine K_putI (pc' := 244) rfl rfl (by decide) (fun h => absurd h (by decide)) rfl ?_
    exact R_vret rfl rfl ⟨_, _, rfl, rfl, h⟩
  · replace h := h.2 hc
    refine R_iload (pc' := 230) rfl rfl rfl ?_
    refine R_bipush (pc' := 232) rfl rfl ?_
    have g2 := h.1
    replace h := h.2
    refine R_iadd (pc' := 233) rfl rfl g2 ?_
    refine R_goto rfl ?_
    refine K_putI (pc' := 244) rfl rfl (by decide) (fun h => absurd h (by decide)) rfl ?_
    exact R_vret rfl rfl ⟨_, _, rfl, rfl, h⟩
theorem S110_265 {e : En} {I : HI} {D : HD} {Q : HI → HD → Prop} {x10 : Int} (he : HS e)
    (h : (0 ≤ (I 312 4) ∧ (I 312 4) < 2) ∧ (((I 314 (((I 312 4) : Int).toNat)) ≤ x10 → RV 110 294 [vR (some 312), vJ, vJ, vJ, vJ, vJ, vJ, vJ, vJ, vJ, vI x10] [] e I D Q) ∧ (¬ ((I 314 (((I 312 4) : Int).toNat)) ≤ x10) → CI 93 [vR (some 312), vI x10] e I D (fun z2 I3 D4 => ((¬ z2 = 0 → RV 110 294 [vR (some 312), vJ, vJ, vJ, vJ, vJ, vJ, vJ, vJ, vJ, vI x10] [] e I3 D4 Q) ∧ (¬ (¬ z2 = 0) → (-2147483648 ≤ (x10 + 1) ∧ (x10 + 1) < 2147483648) ∧ RV 110 265 [vR (some 312), vJ, vJ, vJ, vJ, vJ, vJ, vJ, vJ, vJ, vI (x10 + 1)] [] e I3 D4 Q)))))) :
    RV 110 265 [vR (some 312), vJ, vJ, vJ, vJ, vJ, vJ, vJ, vJ, vJ, vI x10] [] e I D Q := by
  show Run 110 265 [vR (some 312), vJ, vJ, vJ, vJ, vJ, vJ, vJ, vJ, vJ, vI x10] [] (mk e I D) (pV e Q)
  refine R_iload (pc' := 267) rfl rfl rfl ?_
  refine R_aload_n (pc' := 268) rfl rfl rfl ?_
  refine K_getR (pc' := 271) rfl rfl rfl rfl (st_at he rfl rfl (by decide)) ?_
  refine R_aload_n (pc' := 272) rfl rfl rfl ?_
  refine K_getI (pc' := 275) rfl rfl (by decide) rfl rfl ?_
  have g1 := h.1
  replace h := h.2
  refine K_iald (pc' := 276) rfl rfl rfl g1.1 g1.2 rfl ?_
  refine R_icge (pc' := 279) rfl rfl (fun hc => ?_) (fun hc => ?_)
  · replace h := h.1 hc
    exact h
  · replace h := h.2 hc
    refine R_aload_n (pc' := 280) rfl rfl rfl ?_
    refine R_iload (pc' := 282) rfl rfl rfl ?_
    refine KI_iv (as := [vI x10]) (rest := []) (pc' := 285) rfl rfl rfl rfl rfl (Nat.le_of_ble_eq_true rfl) rfl (CI_mono h ?_)
    intro z2 I3 D4 h
    refine R_ifne (pc' := 288) rfl rfl (fun hc => ?_) (fun hc => ?_)
    · replace h := h.1 hc
      exact h
    · replace h := h.2 hc
      have g5 := h.1
      replace h := h.2
      refine R_iinc (ls' := [vR (some 312), vJ, vJ, vJ, vJ, vJ, vJ, vJ, vJ, vJ, vI (x10 + 1)]) (pc' := 291) rfl rfl rfl g5 rfl ?_
      refine R_goto rfl ?_
      exact h
theorem S110_294 {e : En} {I : HI} {D : HD} {Q : HI → HD → Prop} {x10 : Int} (he : HS e)
    (h : (0 ≤ (I 312 4) ∧ (I 312 4) < 2) ∧ (((I 314 (((I 312 4) : Int).toNat)) ≤ x10 → (0 ≤ (I 312 4) ∧ (I 312 4) < 2) ∧ CV 106 [vR (some 312), vI 2, vI (I 312 28)] e (uI I 312 29 (I 314 (((I 312 4) : Int).toNat))) D (fun I4 D5 => (0 ≤ (I4 312 4) ∧ (I4 312 4) < 2) ∧ (0 ≤ (I4 312 4) ∧ (I4 312 4) < 2) ∧ CV 107 [vR (some 312), vI (I4 314 (((I4 312 4) : Int).toNat)), vI 0] e (uI I4 312 31 (I4 314 (((I4 312 4) : Int).toNat))) D5 (fun I9 D10 => Q I9 D10))) ∧ (¬ ((I 314 (((I 312 4) : Int).toNat)) ≤ x10) → ((x10 ≤ (I 312 28) → RV 110 338 [vR (some 312), vJ, vJ, vJ, vJ, vJ, vJ, vJ, vJ, vJ, vI x10] [vR (some 312)] e I D Q) ∧ (¬ (x10 ≤ (I 312 28)) → (-2147483648 ≤ (x10 - 1) ∧ (x10 - 1) < 2147483648) ∧ CI 88 [vR (some 312), vI (x10 - 1)] e I D (fun z12 I13 D14 => ((¬ z12 = 10 → RV 110 338 [vR (some 312), vJ, vJ, vJ, vJ, vJ, vJ, vJ, vJ, vJ, vI x10] [vR (some 312)] e I13 D14 Q) ∧ (¬ (¬ z12 = 10) → (-2147483648 ≤ (x10 - 1) ∧ (x10 - 1) < 2147483648) ∧ RV 110 340 [vR (some 312), vJ, vJ, vJ, vJ, vJ, vJ, vJ, vJ, vJ, vI x10] [vI (x10 - 1), vR (some 312)] e I13 D14 Q)))))))) :
    RV 110 294 [vR (some 312), vJ, vJ, vJ, vJ, vJ, vJ, vJ, vJ, vJ, vI x10] [] e I D Q := by
  show Run 110 294 [vR (some 312), vJ, vJ, vJ, vJ, vJ, vJ, vJ, vJ, vJ, vI x10] [] (mk e I D) (pV e Q)
  refine R_iload (pc' := 296) rfl rfl rfl ?_
  refine R_aload_n (pc' := 297) rfl rfl rfl ?_
  refine K_getR (pc' := 300) rfl rfl rfl rfl (st_at he rfl rfl (by decide)) ?_
  refine R_aload_n (pc' := 301) rfl rfl rfl ?_
  refine K_getI (pc' := 304) rfl rfl (by decide) rfl rfl ?_
  have g1 := h.1
  replace h := h.2
  refine K_iald (pc' := 305) rfl rfl rfl g1.1 g1.2 rfl ?_
  refine R_icge (pc' := 308) rfl rfl (fun hc => ?_) (fun hc => ?_)
  · replace h := h.1 hc
    refine R_aload_n (pc' := 354) rfl rfl rfl ?_
    refine R_aload_n (pc' := 355) rfl rfl rfl ?_
    refine K_getR (pc' := 358) rfl rfl rfl rfl (st_at he rfl rfl (by decide)) ?_
    refine R_aload_n (pc' := 359) rfl rfl rfl ?_
    refine K_getI (pc' := 362) rfl rfl (by decide) rfl rfl ?_
    have g2 := h.1
    replace h := h.2
    refine K_iald (pc' := 363) rfl rfl rfl g2.1 g2.2 rfl ?_
    refine K_putI (pc' := 366) rfl rfl (by decide) (fun h => absurd h (by decide)) rfl ?_
    refine R_aload_n (pc' := 367) rfl rfl rfl ?_
    refine R_iconst (pc' := 368) rfl rfl ?_
    refine R_aload_n (pc' := 369) rfl rfl rfl ?_
    refine K_getI (pc' := 372) rfl rfl (by decide) rfl rfl ?_
    refine KV_iv (as := [vI 2, vI (I 312 28)]) (rest := []) (pc' := 375) rfl rfl rfl rfl rfl (Nat.le_of_ble_eq_true rfl) rfl (CV_mono h ?_)
    intro I4 D5 h
    refine R_aload_n (pc' := 376) rfl rfl rfl ?_
    refine R_aload_n (pc' := 377) rfl rfl rfl ?_
    refine K_getR (pc' := 380) rfl rfl rfl rfl (st_at he rfl rfl (by decide)) ?_
    refine R_aload_n (pc' := 381) rfl rfl rfl ?_
    refine K_getI (pc' := 384) rfl rfl (by decide) rfl rfl ?_
    have g6 := h.1
    replace h := h.2
    refine K_iald (pc' := 385) rfl rfl rfl g6.1 g6.2 rfl ?_
    refine K_putI (pc' := 388) rfl rfl (by decide) (fun h => absurd h (by decide)) rfl ?_
    refine R_aload_n (pc' := 389) rfl rfl rfl ?_
    refine R_aload_n (pc' := 390) rfl rfl rfl ?_
    refine K_getR (pc' := 393) rfl rfl rfl rfl (st_at he rfl rfl (by decide)) ?_
    refine R_aload_n (pc' := 394) rfl rfl rfl ?_
    refine K_getI (pc' := 397) rfl rfl (by decide) rfl rfl ?_
    have g7 := h.1
    replace h := h.2
    refine K_iald (pc' := 398) rfl rfl rfl g7.1 g7.2 rfl ?_
    refine R_iconst (pc' := 399) rfl rfl ?_
    refine KV_iv (as := [vI (I4 314 (((I4 312 4) : Int).toNat)), vI 0]) (rest := []) (pc' := 402) rfl rfl rfl rfl rfl (Nat.le_of_ble_eq_true rfl) rfl (CV_mono h ?_)
    intro I9 D10 h
    exact R_vret rfl rfl ⟨_, _, rfl, rfl, h⟩
  · replace h := h.2 hc
    refine R_aload_n (pc' := 309) rfl rfl rfl ?_
    refine R_iload (pc' := 311) rfl rfl rfl ?_
    refine R_aload_n (pc' := 312) rfl rfl rfl ?_
    refine K_getI (pc' := 315) rfl rfl (by decide) rfl rfl ?_
    refine R_icle (pc' := 318) rfl rfl (fun hc => ?_) (fun hc => ?_)
    · replace h := h.1 hc
      exact h
    · replace h := h.2 hc
      refine R_aload_n (pc' := 319) rfl rfl rfl ?_
      refine R_iload (pc' := 321) rfl rfl rfl ?_
      refine R_iconst (pc' := 322) rfl rfl ?_
      have g11 := h.1
      replace h := h.2
      refine R_isub (pc' := 323) rfl rfl g11 ?_
      refine KI_iv (as := [vI (x10 - 1)]) (rest := [vR (some 312)]) (pc' := 326) rfl rfl rfl rfl rfl (Nat.le_of_ble_eq_true rfl) rfl (CI_mono h ?_)
      intro z12 I13 D14 h
      refine R_bipush (pc' := 328) rfl rfl ?_
      refine R_icne (pc' := 331) rfl rfl (fun hc => ?_) (fun hc => ?_)
      · replace h := h.1 hc
        exact h
      · replace h := h.2 hc
        refine R_iload (pc' := 333) rfl rfl rfl ?_
        refine R_iconst (pc' := 334) rfl rfl ?_
        have g15 := h.1
        replace h := h.2
        refine R_isub (pc' := 335) rfl rfl g15 ?_
        refine R_goto rfl ?_
        exact h
theorem S110_338 {e : En} {I : HI} {D : HD} {Q : HI → HD → Prop} {x10 : Int} (he : HS e)
    (h : RV 110 340 [vR (some 312), vJ, vJ, vJ, vJ, vJ, vJ, vJ, vJ, vJ, vI x10] [vI x10, vR (some 312)] e I D Q) :
    RV 110 338 [vR (some 312), vJ, vJ, vJ, vJ, vJ, vJ, vJ, vJ, vJ, vI x10] [vR (some 312)] e I D Q := by
  show Run 110 338 [vR (some 312), vJ, vJ, vJ, vJ, vJ, vJ, vJ, vJ, vJ, vI x10] [vR (some 312)] (mk e I D) (pV e Q)
  refine R_iload (pc' := 340) rfl rfl rfl ?_
  exact h
theorem S110_340 {e : En} {I : HI} {D : HD} {Q : HI → HD → Prop} {x10 : Int} {y1 : Int} (he : HS e)
    (h : (-2147483648 ≤ (x10 + 9) ∧ (x10 + 9) < 2147483648) ∧ Q (uI (uI I 312 29 y1) 312 31 (x10 + 9)) D) :
    RV 110 340 [vR (some 312), vJ, vJ, vJ, vJ, vJ, vJ, vJ, vJ, vJ, vI x10] [vI y1, vR (some 312)] e I D Q := by
  show Run 110 340 [vR (some 312), vJ, vJ, vJ, vJ, vJ, vJ, vJ, vJ, vJ, vI x10] [vI y1, vR (some 312)] (mk e I D) (pV e Q)
  refine K_putI (pc' := 343) rfl rfl (by decide) (fun h => absurd h (by decide)) rfl ?_
  refine R_aload_n (pc' := 344) rfl rfl rfl ?_
  refine R_iload (pc' := 346) rfl rfl rfl ?_
  refine R_bipush (pc' := 348) rfl rfl ?_
  have g1 := h.1
  replace h := h.2
  refine R_iadd (pc' := 349) rfl rfl g1 ?_
  refine K_putI (pc' := 352) rfl rfl (by decide) (fun h => absurd h (by decide)) rfl ?_
  exact R_vret rfl rfl ⟨_, _, rfl, rfl, h⟩
/-! 111 X9_go -/
theorem S111 {e : En} {I : HI} {D : HD} {Q : HI → HD → Prop} (he : HS e)
    (h : (0 ≤ (I 312 4) ∧ (I 312 4) < 2) ∧ RV 111 27 [vR (some 312), vI (-1), vI (-1), vI (-1), vI (-1), vJ, vJ, vJ] [] e (uI (uI I 312 31 0) 312 32 (I 314 (((I 312 4) : Int).toNat))) D Q) :
    CV 111 [vR (some 312)] e I D Q := by
  refine Call_run (ls := [vR (some 312), vJ, vJ, vJ, vJ, vJ, vJ, vJ]) rfl rfl ?_
  refine R_aload_n (pc' := 1) rfl rfl rfl ?_
  refine R_iconst (pc' := 2) rfl rfl ?_
  refine K_putI (pc' := 5) rfl rfl (by decide) (fun h => absurd h (by decide)) rfl ?_
  refine R_aload_n (pc' := 6) rfl rfl rfl ?_
  refine R_aload_n (pc' := 7) rfl rfl rfl ?_
  refine K_getR (pc' := 10) rfl rfl rfl rfl (st_at he rfl rfl (by decide)) ?_
  refine R_aload_n (pc' := 11) rfl rfl rfl ?_
  refine K_getI (pc' := 14) rfl rfl (by decide) rfl rfl ?_
  have g1 := h.1
  replace h := h.2
  refine K_iald (pc' := 15) rfl rfl rfl g1.1 g1.2 rfl ?_
  refine K_putI (pc' := 18) rfl rfl (by decide) (fun h => absurd h (by decide)) rfl ?_
  refine R_iconst (pc' := 19) rfl rfl ?_
  refine R_istore_n (ls' := [vR (some 312), vI (-1), vJ, vJ, vJ, vJ, vJ, vJ]) (pc' := 20) rfl rfl rfl ?_
  refine R_iconst (pc' := 21) rfl rfl ?_
  refine R_istore_n (ls' := [vR (some 312), vI (-1), vI (-1), vJ, vJ, vJ, vJ, vJ]) (pc' := 22) rfl rfl rfl ?_
  refine R_iconst (pc' := 23) rfl rfl ?_
  refine R_istore_n (ls' := [vR (some 312), vI (-1), vI (-1), vI (-1), vJ, vJ, vJ, vJ]) (pc' := 24) rfl rfl rfl ?_
  refine R_iconst (pc' := 25) rfl rfl ?_
  refine R_istore (ls' := [vR (some 312), vI (-1), vI (-1), vI (-1), vI (-1), vJ, vJ, vJ]) (pc' := 27) rfl rfl rfl ?_
  exact h
theorem S111_27 {e : En} {I : HI} {D : HD} {Q : HI → HD → Prop} {x1 : Int} {x2 : Int} {x3 : Int} {x4 : Int} (he : HS e)
    (h : CI 91 [vR (some 312)] e I D (fun z1 I2 D3 => ((z1 = 0 → Q I2 D3) ∧ (¬ (z1 = 0) → (((0 : Int) ≤ x1 → CI 95 [vR (some 312), vI x1, vI x2] e I2 D3 (fun z4 I5 D6 => RV 111 60 [vR (some 312), vI x1, vJ, vI x3, vI x4, vI (I2 312 33), vI (I2 312 34), vJ] [vI z4] e I5 D6 Q)) ∧ (¬ ((0 : Int) ≤ x1) → RV 111 60 [vR (some 312), vI x1, vJ, vI x3, vI x4, vI (I2 312 33), vI (I2 312 34), vJ] [vI (-1)] e I2 D3 Q)))))) :
    RV 111 27 [vR (some 312), vI x1, vI x2, vI x3, vI x4, vJ, vJ, vJ] [] e I D Q := by
  show Run 111 27 [vR (some 312), vI x1, vI x2, vI x3, vI x4, vJ, vJ, vJ] [] (mk e I D) (pV e Q)
  refine R_aload_n (pc' := 28) rfl rfl rfl ?_
  refine KI_iv (as := []) (rest := []) (pc' := 31) rfl rfl rfl rfl rfl (Nat.le_of_ble_eq_true rfl) rfl (CI_mono h ?_)
  intro z1 I2 D3 h
  refine R_ifeq (pc' := 34) rfl rfl (fun hc => ?_) (fun hc => ?_)
  · replace h := h.1 hc
    exact R_vret rfl rfl ⟨_, _, rfl, rfl, h⟩
  · replace h := h.2 hc
    refine R_aload_n (pc' := 35) rfl rfl rfl ?_
    refine K_getI (pc' := 38) rfl rfl (by decide) rfl rfl ?_
    refine R_istore (ls' := [vR (some 312), vI x1, vI x2, vI x3, vI x4, vI (I2 312 33), vJ, vJ]) (pc' := 40) rfl rfl rfl ?_
    refine R_aload_n (pc' := 41) rfl rfl rfl ?_
    refine K_getI (pc' := 44) rfl rfl (by decide) rfl rfl ?_
    refine R_istore (ls' := [vR (some 312), vI x1, vI x2, vI x3, vI x4, vI (I2 312 33), vI (I2 312 34), vJ]) (pc' := 46) rfl rfl rfl ?_
    refine R_iload_n (pc' := 47) rfl rfl rfl ?_
    refine R_ifge (pc' := 50) rfl rfl (fun hc => ?_) (fun hc => ?_)
    · replace h := h.1 hc
      refine R_aload_n (pc' := 55) rfl rfl rfl ?_
      refine R_iload_n (pc' := 56) rfl rfl rfl ?_
      refine R_iload_n (pc' := 57) rfl rfl rfl ?_
      refine KI_iv (as := [vI x1, vI x2]) (rest := []) (pc' := 60) rfl rfl rfl rfl rfl (Nat.le_of_ble_eq_true rfl) rfl (CI_mono h ?_)
      intro z4 I5 D6 h
      exact R_forget (ls' := [vR (some 312), vI x1, vJ, vI x3, vI x4, vI (I2 312 33), vI (I2 312 34), vJ]) ⟨Or.inl rfl, Or.inl rfl, Or.inr rfl, Or.inl rfl, Or.inl rfl, Or.inl rfl, Or.inl rfl, Or.inl rfl, trivial⟩ h
    · replace h := h.2 hc
      refine R_iconst (pc' := 51) rfl rfl ?_
      refine R_goto rfl ?_
      exact R_forget (ls' := [vR (some 312), vI x1, vJ, vI x3, vI x4, vI (I2 312 33), vI (I2 312 34), vJ]) ⟨Or.inl rfl, Or.inl rfl, Or.inr rfl, Or.inl rfl, Or.inl rfl, Or.inl rfl, Or.inl rfl, Or.inl rfl, trivial⟩ h
theorem S111_60 {e : En} {I : HI} {D : HD} {Q : HI → HD → Prop} {x1 : Int} {x3 : Int} {x4 : Int} {x5 : Int} {x6 : Int} {y0 : Int} (he : HS e)
    (h : CI 94 [vR (some 312), vI x5, vI x6, vL 6972015, vI 3] e I D (fun z1 I2 D3 => ((z1 = 0 → RV 111 140 [vR (some 312), vJ, vJ, vI x3, vI x4, vI x5, vI x6, vJ] [] e I2 D3 Q) ∧ (¬ (z1 = 0) → ((y0 < 1 → RV 111 140 [vR (some 312), vJ, vJ, vI x3, vI x4, vI x5, vI x6, vJ] [] e I2 D3 Q) ∧ (¬ (y0 < 1) → (((60 : Int) < y0 → RV 111 140 [vR (some 312), vJ, vJ, vI x3, vI x4, vI x5, vI x6, vJ] [] e I2 D3 Q) ∧ (¬ ((60 : Int) < y0) → CI 95 [vR (some 312), vI x3, vI x4] e I2 D3 (fun z4 I5 D6 => ((z4 < 0 → RV 111 140 [vR (some 312), vJ, vJ, vI x3, vI x4, vI x5, vI x6, vJ] [] e I5 D6 Q) ∧ (¬ (z4 < 0) → CV 108 [vR (some 312), vI x1] e I5 D6 (fun I8 D9 => RV 111 229 [vR (some 312), vJ, vJ, vI x3, vI x4, vI x5, vI x6, vJ] [] e (uI (uI (uI (uI (uI (uI I8 312 25 y0) 312 26 x1) 312 27 x6) 312 28 (-1)) 312 29 0) 312 30 1) D9 Q)))))))))))) :
    RV 111 60 [vR (some 312), vI x1, vJ, vI x3, vI x4, vI x5, vI x6, vJ] [vI y0] e I D Q := by
  show Run 111 60 [vR (some 312), vI x1, vJ, vI x3, vI x4, vI x5, vI x6, vJ] [vI y0] (mk e I D) (pV e Q)
  refine R_istore (ls' := [vR (some 312), vI x1, vJ, vI x3, vI x4, vI x5, vI x6, vI y0]) (pc' := 62) rfl rfl rfl ?_
  refine R_aload_n (pc' := 63) rfl rfl rfl ?_
  refine R_iload (pc' := 65) rfl rfl rfl ?_
  refine R_iload (pc' := 67) rfl rfl rfl ?_
  refine R_ldc2 (pc' := 70) rfl rfl ?_
  refine R_iconst (pc' := 71) rfl rfl ?_
  refine KI_iv (as := [vI x5, vI x6, vL 6972015, vI 3]) (rest := []) (pc' := 74) rfl rfl rfl rfl rfl (Nat.le_of_ble_eq_true rfl) rfl (CI_mono h ?_)
  intro z1 I2 D3 h
  refine R_ifeq (pc' := 77) rfl rfl (fun hc => ?_) (fun hc => ?_)
  · replace h := h.1 hc
    exact R_forget (ls' := [vR (some 312), vJ, vJ, vI x3, vI x4, vI x5, vI x6, vJ]) ⟨Or.inl rfl, Or.inr rfl, Or.inl rfl, Or.inl rfl, Or.inl rfl, Or.inl rfl, Or.inl rfl, Or.inr rfl, trivial⟩ h
  · replace h := h.2 hc
    refine R_iload (pc' := 79) rfl rfl rfl ?_
    refine R_iconst (pc' := 80) rfl rfl ?_
    refine R_iclt (pc' := 83) rfl rfl (fun hc => ?_) (fun hc => ?_)
    · replace h := h.1 hc
      exact R_forget (ls' := [vR (some 312), vJ, vJ, vI x3, vI x4, vI x5, vI x6, vJ]) ⟨Or.inl rfl, Or.inr rfl, Or.inl rfl, Or.inl rfl, Or.inl rfl, Or.inl rfl, Or.inl rfl, Or.inr rfl, trivial⟩ h
    · replace h := h.2 hc
      refine R_iload (pc' := 85) rfl rfl rfl ?_
      refine R_bipush (pc' := 87) rfl rfl ?_
      refine R_icgt (pc' := 90) rfl rfl (fun hc => ?_) (fun hc => ?_)
      · replace h := h.1 hc
        exact R_forget (ls' := [vR (some 312), vJ, vJ, vI x3, vI x4, vI x5, vI x6, vJ]) ⟨Or.inl rfl, Or.inr rfl, Or.inl rfl, Or.inl rfl, Or.inl rfl, Or.inl rfl, Or.inl rfl, Or.inr rfl, trivial⟩ h
      · replace h := h.2 hc
        refine R_aload_n (pc' := 91) rfl rfl rfl ?_
        refine R_iload_n (pc' := 92) rfl rfl rfl ?_
        refine R_iload (pc' := 94) rfl rfl rfl ?_
        refine KI_iv (as := [vI x3, vI x4]) (rest := []) (pc' := 97) rfl rfl rfl rfl rfl (Nat.le_of_ble_eq_true rfl) rfl (CI_mono h ?_)
        intro z4 I5 D6 h
        refine R_iflt (pc' := 100) rfl rfl (fun hc => ?_) (fun hc => ?_)
        · replace h := h.1 hc
          exact R_forget (ls' := [vR (some 312), vJ, vJ, vI x3, vI x4, vI x5, vI x6, vJ]) ⟨Or.inl rfl, Or.inr rfl, Or.inl rfl, Or.inl rfl, Or.inl rfl, Or.inl rfl, Or.inl rfl, Or.inr rfl, trivial⟩ h
        · replace h := h.2 hc
          refine R_aload_n (pc' := 101) rfl rfl rfl ?_
          refine R_iload_n (pc' := 102) rfl rfl rfl ?_
          refine KV_iv (as := [vI x1]) (rest := []) (pc' := 105) rfl rfl rfl rfl rfl (Nat.le_of_ble_eq_true rfl) rfl (CV_mono h ?_)
          intro I8 D9 h
          refine R_aload_n (pc' := 106) rfl rfl rfl ?_
          refine R_iload (pc' := 108) rfl rfl rfl ?_
          refine K_putI (pc' := 111) rfl rfl (by decide) (fun h => absurd h (by decide)) rfl ?_
          refine R_aload_n (pc' := 112) rfl rfl rfl ?_
          refine R_iload_n (pc' := 113) rfl rfl rfl ?_
          refine K_putI (pc' := 116) rfl rfl (by decide) (fun h => absurd h (by decide)) rfl ?_
          refine R_aload_n (pc' := 117) rfl rfl rfl ?_
          refine R_iload (pc' := 119) rfl rfl rfl ?_
          refine K_putI (pc' := 122) rfl rfl (by decide) (fun h => absurd h (by decide)) rfl ?_
          refine R_aload_n (pc' := 123) rfl rfl rfl ?_
          refine R_iconst (pc' := 124) rfl rfl ?_
          refine K_putI (pc' := 127) rfl rfl (by decide) (fun h => absurd h (by decide)) rfl ?_
          refine R_aload_n (pc' := 128) rfl rfl rfl ?_
          refine R_iconst (pc' := 129) rfl rfl ?_
          refine K_putI (pc' := 132) rfl rfl (by decide) (fun h => absurd h (by decide)) rfl ?_
          refine R_aload_n (pc' := 133) rfl rfl rfl ?_
          refine R_iconst (pc' := 134) rfl rfl ?_
          refine K_putI (pc' := 137) rfl rfl (by decide) (fun _ => Or.inr rfl) rfl ?_
          refine R_goto rfl ?_
          exact R_forget (ls' := [vR (some 312), vJ, vJ, vI x3, vI x4, vI x5, vI x6, vJ]) ⟨Or.inl rfl, Or.inr rfl, Or.inl rfl, Or.inl rfl, Or.inl rfl, Or.inl rfl, Or.inl rfl, Or.inr rfl, trivial⟩ h
theorem S111_140 {e : En} {I : HI} {D : HD} {Q : HI → HD → Prop} {x3 : Int} {x4 : Int} {x5 : Int} {x6 : Int} (he : HS e)
    (h : CI 94 [vR (some 312), vI x5, vI x6, vL 116971008192101, vI 6] e I D (fun z1 I2 D3 => ((z1 = 0 → RV 111 173 [vR (some 312), vJ, vJ, vI x3, vI x4, vI x5, vI x6, vJ] [] e I2 D3 Q) ∧ (¬ (z1 = 0) → (((I2 312 25) ≤ 0 → RV 111 173 [vR (some 312), vJ, vJ, vI x3, vI x4, vI x5, vI x6, vJ] [] e I2 D3 Q) ∧ (¬ ((I2 312 25) ≤ 0) → CV 107 [vR (some 312), vI x5, vI 1] e I2 D3 (fun I5 D6 => RV 111 229 [vR (some 312), vJ, vJ, vI x3, vI x4, vI x5, vI x6, vJ] [] e I5 D6 Q))))))) :
    RV 111 140 [vR (some 312), vJ, vJ, vI x3, vI x4, vI x5, vI x6, vJ] [] e I D Q := by
  show Run 111 140 [vR (some 312), vJ, vJ, vI x3, vI x4, vI x5, vI x6, vJ] [] (mk e I D) (pV e Q)
  refine R_aload_n (pc' := 141) rfl rfl rfl ?_
  refine R_iload (pc' := 143) rfl rfl rfl ?_
  refine R_iload (pc' := 145) rfl rfl rfl ?_
  refine R_ldc2 (pc' := 148) rfl rfl ?_
  refine R_bipush (pc' := 150) rfl rfl ?_
  refine KI_iv (as := [vI x5, vI x6, vL 116971008192101, vI 6]) (rest := []) (pc' := 153) rfl rfl rfl rfl rfl (Nat.le_of_ble_eq_true rfl) rfl (CI_mono h ?_)
  intro z1 I2 D3 h
  refine R_ifeq (pc' := 156) rfl rfl (fun hc => ?_) (fun hc => ?_)
  · replace h := h.1 hc
    exact h
  · replace h := h.2 hc
    refine R_aload_n (pc' := 157) rfl rfl rfl ?_
    refine K_getI (pc' := 160) rfl rfl (by decide) rfl rfl ?_
    refine R_ifle (pc' := 163) rfl rfl (fun hc => ?_) (fun hc => ?_)
    · replace h := h.1 hc
      exact h
    · replace h := h.2 hc
      refine R_aload_n (pc' := 164) rfl rfl rfl ?_
      refine R_iload (pc' := 166) rfl rfl rfl ?_
      refine R_iconst (pc' := 167) rfl rfl ?_
      refine KV_iv (as := [vI x5, vI 1]) (rest := []) (pc' := 170) rfl rfl rfl rfl rfl (Nat.le_of_ble_eq_true rfl) rfl (CV_mono h ?_)
      intro I5 D6 h
      refine R_goto rfl ?_
      exact h
theorem S111_173 {e : En} {I : HI} {D : HD} {Q : HI → HD → Prop} {x3 : Int} {x4 : Int} {x5 : Int} {x6 : Int} (he : HS e)
    (h : CI 94 [vR (some 312), vI x5, vI x6, vL 32199663643882100, vI 7] e I D (fun z1 I2 D3 => ((z1 = 0 → CI 94 [vR (some 312), vI x5, vI x6, vL 120265081255027, vI 6] e I2 D3 (fun z4 I5 D6 => ((z4 = 0 → RV 111 229 [vR (some 312), vJ, vJ, vI x3, vI x4, vI x5, vI x6, vJ] [] e I5 D6 Q) ∧ (¬ (z4 = 0) → (((I5 312 25) ≤ 0 → RV 111 229 [vR (some 312), vJ, vJ, vI x3, vI x4, vI x5, vI x6, vJ] [] e I5 D6 Q) ∧ (¬ ((I5 312 25) ≤ 0) → CV 110 [vR (some 312), vI x5, vI x6, vI x4] e I5 D6 (fun I8 D9 => RV 111 229 [vR (some 312), vJ, vJ, vI x3, vI x4, vI x5, vI x6, vJ] [] e I8 D9 Q))))))) ∧ (¬ (z1 = 0) → CV 109 [vR (some 312)] e I2 D3 (fun I11 D12 => RV 111 229 [vR (some 312), vJ, vJ, vI x3, vI x4, vI x5, vI x6, vJ] [] e I11 D12 Q))))) :
    RV 111 173 [vR (some 312), vJ, vJ, vI x3, vI x4, vI x5, vI x6, vJ] [] e I D Q := by
  show Run 111 173 [vR (some 312), vJ, vJ, vI x3, vI x4, vI x5, vI x6, vJ] [] (mk e I D) (pV e Q)
  refine R_aload_n (pc' := 174) rfl rfl rfl ?_
  refine R_iload (pc' := 176) rfl rfl rfl ?_
  refine R_iload (pc' := 178) rfl rfl rfl ?_
  refine R_ldc2 (pc' := 181) rfl rfl ?_
  refine R_bipush (pc' := 183) rfl rfl ?_
  refine KI_iv (as := [vI x5, vI x6, vL 32199663643882100, vI 7]) (rest := []) (pc' := 186) rfl rfl rfl rfl rfl (Nat.le_of_ble_eq_true rfl) rfl (CI_mono h ?_)
  intro z1 I2 D3 h
  refine R_ifeq (pc' := 189) rfl rfl (fun hc => ?_) (fun hc => ?_)
  · replace h := h.1 hc
    refine R_aload_n (pc' := 197) rfl rfl rfl ?_
    refine R_iload (pc' := 199) rfl rfl rfl ?_
    refine R_iload (pc' := 201) rfl rfl rfl ?_
    refine R_ldc2 (pc' := 204) rfl rfl ?_
    refine R_bipush (pc' := 206) rfl rfl ?_
    refine KI_iv (as := [vI x5, vI x6, vL 120265081255027, vI 6]) (rest := []) (pc' := 209) rfl rfl rfl rfl rfl (Nat.le_of_ble_eq_true rfl) rfl (CI_mono h ?_)
    intro z4 I5 D6 h
    refine R_ifeq (pc' := 212) rfl rfl (fun hc => ?_) (fun hc => ?_)
    · replace h := h.1 hc
      exact h
    · replace h := h.2 hc
      refine R_aload_n (pc' := 213) rfl rfl rfl ?_
      refine K_getI (pc' := 216) rfl rfl (by decide) rfl rfl ?_
      refine R_ifle (pc' := 219) rfl rfl (fun hc => ?_) (fun hc => ?_)
      · replace h := h.1 hc
        exact h
      · replace h := h.2 hc
        refine R_aload_n (pc' := 220) rfl rfl rfl ?_
        refine R_iload (pc' := 222) rfl rfl rfl ?_
        refine R_iload (pc' := 224) rfl rfl rfl ?_
        refine R_iload (pc' := 226) rfl rfl rfl ?_
        refine KV_iv (as := [vI x5, vI x6, vI x4]) (rest := []) (pc' := 229) rfl rfl rfl rfl rfl (Nat.le_of_ble_eq_true rfl) rfl (CV_mono h ?_)
        intro I8 D9 h
        exact h
  · replace h := h.2 hc
    refine R_aload_n (pc' := 190) rfl rfl rfl ?_
    refine KV_iv (as := []) (rest := []) (pc' := 193) rfl rfl rfl rfl rfl (Nat.le_of_ble_eq_true rfl) rfl (CV_mono h ?_)
    intro I11 D12 h
    refine R_goto rfl ?_
    exact h
theorem S111_229 {e : En} {I : HI} {D : HD} {Q : HI → HD → Prop} {x3 : Int} {x4 : Int} {x5 : Int} {x6 : Int} (he : HS e)
    (h : RV 111 27 [vR (some 312), vI x3, vI x4, vI x5, vI x6, vJ, vJ, vJ] [] e I D Q) :
    RV 111 229 [vR (some 312), vJ, vJ, vI x3, vI x4, vI x5, vI x6, vJ] [] e I D Q := by
  show Run 111 229 [vR (some 312), vJ, vJ, vI x3, vI x4, vI x5, vI x6, vJ] [] (mk e I D) (pV e Q)
  refine R_iload_n (pc' := 230) rfl rfl rfl ?_
  refine R_istore_n (ls' := [vR (some 312), vI x3, vJ, vI x3, vI x4, vI x5, vI x6, vJ]) (pc' := 231) rfl rfl rfl ?_
  refine R_iload (pc' := 233) rfl rfl rfl ?_
  refine R_istore_n (ls' := [vR (some 312), vI x3, vI x4, vI x3, vI x4, vI x5, vI x6, vJ]) (pc' := 234) rfl rfl rfl ?_
  refine R_iload (pc' := 236) rfl rfl rfl ?_
  refine R_istore_n (ls' := [vR (some 312), vI x3, vI x4, vI x5, vI x4, vI x5, vI x6, vJ]) (pc' := 237) rfl rfl rfl ?_
  refine R_iload (pc' := 239) rfl rfl rfl ?_
  refine R_istore (ls' := [vR (some 312), vI x3, vI x4, vI x5, vI x6, vI x5, vI x6, vJ]) (pc' := 241) rfl rfl rfl ?_
  refine R_goto rfl ?_
  exact R_forget (ls' := [vR (some 312), vI x3, vI x4, vI x5, vI x6, vJ, vJ, vJ]) ⟨Or.inl rfl, Or.inl rfl, Or.inl rfl, Or.inl rfl, Or.inl rfl, Or.inr rfl, Or.inr rfl, Or.inl rfl, trivial⟩ h
