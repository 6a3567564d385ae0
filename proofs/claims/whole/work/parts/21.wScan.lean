/-! what the code of each method does: printed by wip/whole/gen/decomp.py -/
/-! 17 X4_clear -/
theorem S17 {e : En} {I : HI} {D : HD} {Q : HI → HD → Prop} {A : Nat} (he : HS e) (hA : isA A)
    (h : RV 17 12 [vR (some (A + 146)), vI 0] [] e (uI (uI I (A + 146) 1 0) (A + 146) 5 0) D Q) :
    CV 17 [vR (some (A + 146))] e I D Q := by
  refine Call_run (ls := [vR (some (A + 146)), vJ]) rfl rfl ?_
  refine R_aload_n (pc' := 1) rfl rfl rfl ?_
  refine R_iconst (pc' := 2) rfl rfl ?_
  refine K_putI (pc' := 5) rfl rfl (by decide) (fun h => absurd h (by decide)) (kA hA 146 5 ⟨rfl, rfl⟩) ?_
  refine R_aload_n (pc' := 6) rfl rfl rfl ?_
  refine R_iconst (pc' := 7) rfl rfl ?_
  refine K_putI (pc' := 10) rfl rfl (by decide) (fun h => absurd h (by decide)) (kA hA 146 5 ⟨rfl, rfl⟩) ?_
  refine R_iconst (pc' := 11) rfl rfl ?_
  refine R_istore_n (ls' := [vR (some (A + 146)), vI 0]) (pc' := 12) rfl rfl rfl ?_
  exact h
theorem S17_12 {e : En} {I : HI} {D : HD} {Q : HI → HD → Prop} {A : Nat} {x1 : Int} (he : HS e) (hA : isA A)
    (h : (((61 : Int) ≤ x1 → Q I D) ∧ (¬ ((61 : Int) ≤ x1) → (0 ≤ x1 ∧ x1 < 61) ∧ (-2147483648 ≤ (x1 + 1) ∧ (x1 + 1) < 2147483648) ∧ RV 17 12 [vR (some (A + 146)), vI (x1 + 1)] [] e (uI I (A + 148) (x1.toNat) 0) D Q))) :
    RV 17 12 [vR (some (A + 146)), vI x1] [] e I D Q := by
  show Run 17 12 [vR (some (A + 146)), vI x1] [] (mk e I D) (pV e Q)
  refine R_iload_n (pc' := 13) rfl rfl rfl ?_
  refine R_aload_n (pc' := 14) rfl rfl rfl ?_
  refine K_getR (pc' := 17) rfl rfl rfl (kA hA 146 5 ⟨rfl, rfl⟩) (gA he hA 146 2 148 ⟨⟨rfl, rfl⟩, rfl, rfl⟩) ?_
  refine K_alen (pc' := 18) rfl rfl 2 (kA hA 148 23 ⟨rfl, rfl⟩) (by decide) (lA hA 148 61 ⟨rfl, rfl⟩) ?_
  refine R_icge (pc' := 21) rfl rfl (fun hc => ?_) (fun hc => ?_)
  · replace h := h.1 hc
    exact R_vret rfl rfl ⟨_, _, rfl, rfl, h⟩
  · replace h := h.2 hc
    refine R_aload_n (pc' := 22) rfl rfl rfl ?_
    refine K_getR (pc' := 25) rfl rfl rfl (kA hA 146 5 ⟨rfl, rfl⟩) (gA he hA 146 2 148 ⟨⟨rfl, rfl⟩, rfl, rfl⟩) ?_
    refine R_iload_n (pc' := 26) rfl rfl rfl ?_
    refine R_iconst (pc' := 27) rfl rfl ?_
    have g1 := h.1
    replace h := h.2
    refine K_zast (pc' := 28) rfl rfl (kA hA 148 23 ⟨rfl, rfl⟩) g1.1 (by rw [(lA hA 148 61 ⟨rfl, rfl⟩)]; exact g1.2) (Or.inl rfl) ?_
    have g2 := h.1
    replace h := h.2
    refine R_iinc (ls' := [vR (some (A + 146)), vI (x1 + 1)]) (pc' := 31) rfl rfl rfl g2 rfl ?_
    refine R_goto rfl ?_
    exact h
/-! 18 X4_objectAt -/
theorem S18 {e : En} {I : HI} {D : HD} {Q : Int → HI → HD → Prop} {A : Nat} {x1 : Int} (he : HS e) (hA : isA A)
    (h : ((x1 < 0 → Q 0 I D) ∧ (¬ (x1 < 0) → (((I (A + 146) 1) ≤ x1 → Q 0 I D) ∧ (¬ ((I (A + 146) 1) ≤ x1) → (((61 : Int) ≤ x1 → Q 0 I D) ∧ (¬ ((61 : Int) ≤ x1) → (0 ≤ x1 ∧ x1 < 61) ∧ Q (I (A + 147) (x1.toNat)) I D))))))) :
    CI 18 [vR (some (A + 146)), vI x1] e I D Q := by
  refine Call_run (ls := [vR (some (A + 146)), vI x1]) rfl rfl ?_
  refine R_iload_n (pc' := 1) rfl rfl rfl ?_
  refine R_iflt (pc' := 4) rfl rfl (fun hc => ?_) (fun hc => ?_)
  · replace h := h.1 hc
    refine R_iconst (pc' := 31) rfl rfl ?_
    exact R_iret rfl rfl ⟨_, _, _, rfl, rfl, h⟩
  · replace h := h.2 hc
    refine R_iload_n (pc' := 5) rfl rfl rfl ?_
    refine R_aload_n (pc' := 6) rfl rfl rfl ?_
    refine K_getI (pc' := 9) rfl rfl (by decide) (kA hA 146 5 ⟨rfl, rfl⟩) rfl ?_
    refine R_icge (pc' := 12) rfl rfl (fun hc => ?_) (fun hc => ?_)
    · replace h := h.1 hc
      refine R_iconst (pc' := 31) rfl rfl ?_
      exact R_iret rfl rfl ⟨_, _, _, rfl, rfl, h⟩
    · replace h := h.2 hc
      refine R_iload_n (pc' := 13) rfl rfl rfl ?_
      refine R_aload_n (pc' := 14) rfl rfl rfl ?_
      refine K_getR (pc' := 17) rfl rfl rfl (kA hA 146 5 ⟨rfl, rfl⟩) (gA he hA 146 0 147 ⟨⟨rfl, rfl⟩, rfl, rfl⟩) ?_
      refine K_alen (pc' := 18) rfl rfl 0 (kA hA 147 21 ⟨rfl, rfl⟩) (by decide) (lA hA 147 61 ⟨rfl, rfl⟩) ?_
      refine R_icge (pc' := 21) rfl rfl (fun hc => ?_) (fun hc => ?_)
      · replace h := h.1 hc
        refine R_iconst (pc' := 31) rfl rfl ?_
        exact R_iret rfl rfl ⟨_, _, _, rfl, rfl, h⟩
      · replace h := h.2 hc
        refine R_aload_n (pc' := 22) rfl rfl rfl ?_
        refine K_getR (pc' := 25) rfl rfl rfl (kA hA 146 5 ⟨rfl, rfl⟩) (gA he hA 146 0 147 ⟨⟨rfl, rfl⟩, rfl, rfl⟩) ?_
        refine R_iload_n (pc' := 26) rfl rfl rfl ?_
        have g1 := h.1
        replace h := h.2
        refine K_iald (pc' := 27) rfl rfl (kA hA 147 21 ⟨rfl, rfl⟩) g1.1 (by rw [(lA hA 147 61 ⟨rfl, rfl⟩)]; exact g1.2) rfl ?_
        refine R_goto rfl ?_
        exact R_iret rfl rfl ⟨_, _, _, rfl, rfl, h⟩
/-! 19 X4_follow -/
theorem S19 {e : En} {I : HI} {D : HD} {Q : HI → HD → Prop} {A : Nat} {x2 : Int} (he : HS e) (hA : isA A)
    (h : CI 36 [vR (some A), vI x2] e I D (fun z1 I2 D3 => ((¬ z1 = 2 → RV 19 15 [vR (some (A + 146)), vR (some A), vJ, vJ, vJ, vJ, vJ] [] e I2 D3 Q) ∧ (¬ (¬ z1 = 2) → CV 20 [vR (some (A + 146)), vR (some A), vI x2] e I2 D3 (fun I5 D6 => RV 19 15 [vR (some (A + 146)), vR (some A), vJ, vJ, vJ, vJ, vJ] [] e I5 D6 Q))))) :
    CV 19 [vR (some (A + 146)), vR (some A), vI x2] e I D Q := by
  refine Call_run (ls := [vR (some (A + 146)), vR (some A), vI x2, vJ, vJ, vJ, vJ]) rfl rfl ?_
  refine R_aload_n (pc' := 1) rfl rfl rfl ?_
  refine R_iload_n (pc' := 2) rfl rfl rfl ?_
  refine KI_iv (as := [vI x2]) (rest := []) (pc' := 5) rfl rfl rfl (kA hA 0 6 ⟨rfl, rfl⟩) rfl (Nat.le_of_ble_eq_true rfl) rfl (CI_mono h ?_)
  intro z1 I2 D3 h
  refine R_iconst (pc' := 6) rfl rfl ?_
  refine R_icne (pc' := 9) rfl rfl (fun hc => ?_) (fun hc => ?_)
  · replace h := h.1 hc
    exact R_forget (ls' := [vR (some (A + 146)), vR (some A), vJ, vJ, vJ, vJ, vJ]) ⟨Or.inl rfl, Or.inl rfl, Or.inr rfl, Or.inl rfl, Or.inl rfl, Or.inl rfl, Or.inl rfl, trivial⟩ h
  · replace h := h.2 hc
    refine R_aload_n (pc' := 10) rfl rfl rfl ?_
    refine R_aload_n (pc' := 11) rfl rfl rfl ?_
    refine R_iload_n (pc' := 12) rfl rfl rfl ?_
    refine KV_iv (as := [vR (some A), vI x2]) (rest := []) (pc' := 15) rfl rfl rfl (kA hA 146 5 ⟨rfl, rfl⟩) rfl (Nat.le_of_ble_eq_true rfl) rfl (CV_mono h ?_)
    intro I5 D6 h
    exact R_forget (ls' := [vR (some (A + 146)), vR (some A), vJ, vJ, vJ, vJ, vJ]) ⟨Or.inl rfl, Or.inl rfl, Or.inr rfl, Or.inl rfl, Or.inl rfl, Or.inl rfl, Or.inl rfl, trivial⟩ h
theorem S19_15 {e : En} {I : HI} {D : HD} {Q : HI → HD → Prop} {A : Nat} (he : HS e) (hA : isA A)
    (h : RV 19 22 [vR (some (A + 146)), vR (some A), vJ, vI 3060, vI 0, vJ, vJ] [] e I D Q) :
    RV 19 15 [vR (some (A + 146)), vR (some A), vJ, vJ, vJ, vJ, vJ] [] e I D Q := by
  show Run 19 15 [vR (some (A + 146)), vR (some A), vJ, vJ, vJ, vJ, vJ] [] (mk e I D) (pV e Q)
  refine R_sipush (pc' := 18) rfl rfl ?_
  refine R_istore_n (ls' := [vR (some (A + 146)), vR (some A), vJ, vI 3060, vJ, vJ, vJ]) (pc' := 19) rfl rfl rfl ?_
  refine R_iconst (pc' := 20) rfl rfl ?_
  refine R_istore (ls' := [vR (some (A + 146)), vR (some A), vJ, vI 3060, vI 0, vJ, vJ]) (pc' := 22) rfl rfl rfl ?_
  exact h
theorem S19_22 {e : En} {I : HI} {D : HD} {Q : HI → HD → Prop} {A : Nat} {x3 : Int} {x4 : Int} (he : HS e) (hA : isA A)
    (h : ((x3 ≤ x4 → Q I D) ∧ (¬ (x3 ≤ x4) → (((I (A + 146) 5) ≤ 0 → Q I D) ∧ (¬ ((I (A + 146) 5) ≤ 0) → (((61 : Int) < (I (A + 146) 5) → Q I D) ∧ (¬ ((61 : Int) < (I (A + 146) 5)) → (-2147483648 ≤ ((I (A + 146) 5) - 1) ∧ ((I (A + 146) 5) - 1) < 2147483648) ∧ (0 ≤ ((I (A + 146) 5) - 1) ∧ ((I (A + 146) 5) - 1) < 61) ∧ (0 ≤ ((I (A + 146) 5) - 1) ∧ ((I (A + 146) 5) - 1) < 61) ∧ (((I (A + 150) ((((I (A + 146) 5) - 1) : Int).toNat)) ≤ (I (A + 149) ((((I (A + 146) 5) - 1) : Int).toNat)) → (-2147483648 ≤ ((I (A + 146) 5) - 1) ∧ ((I (A + 146) 5) - 1) < 2147483648) ∧ RV 19 119 [vR (some (A + 146)), vR (some A), vJ, vI x3, vI x4, vJ, vJ] [] e (uI I (A + 146) 5 ((I (A + 146) 5) - 1)) D Q) ∧ (¬ ((I (A + 150) ((((I (A + 146) 5) - 1) : Int).toNat)) ≤ (I (A + 149) ((((I (A + 146) 5) - 1) : Int).toNat))) → (0 ≤ ((I (A + 146) 5) - 1) ∧ ((I (A + 146) 5) - 1) < 61) ∧ CI 13 [vR (some (A + 2)), vI (I (A + 149) ((((I (A + 146) 5) - 1) : Int).toNat))] e I D (fun z6 I7 D8 => (0 ≤ ((I (A + 146) 5) - 1) ∧ ((I (A + 146) 5) - 1) < 61) ∧ (-2147483648 ≤ ((I7 (A + 149) ((((I (A + 146) 5) - 1) : Int).toNat)) + 1) ∧ ((I7 (A + 149) ((((I (A + 146) 5) - 1) : Int).toNat)) + 1) < 2147483648) ∧ (0 ≤ ((I (A + 146) 5) - 1) ∧ ((I (A + 146) 5) - 1) < 61) ∧ CV 20 [vR (some (A + 146)), vR (some A), vI z6] e (uI I7 (A + 149) ((((I (A + 146) 5) - 1) : Int).toNat) ((I7 (A + 149) ((((I (A + 146) 5) - 1) : Int).toNat)) + 1)) D8 (fun I13 D14 => RV 19 119 [vR (some (A + 146)), vR (some A), vJ, vI x3, vI x4, vJ, vJ] [] e I13 D14 Q))))))))))) :
    RV 19 22 [vR (some (A + 146)), vR (some A), vJ, vI x3, vI x4, vJ, vJ] [] e I D Q := by
  show Run 19 22 [vR (some (A + 146)), vR (some A), vJ, vI x3, vI x4, vJ, vJ] [] (mk e I D) (pV e Q)
  refine R_iload (pc' := 24) rfl rfl rfl ?_
  refine R_iload_n (pc' := 25) rfl rfl rfl ?_
  refine R_icge (pc' := 28) rfl rfl (fun hc => ?_) (fun hc => ?_)
  · replace h := h.1 hc
    exact R_vret rfl rfl ⟨_, _, rfl, rfl, h⟩
  · replace h := h.2 hc
    refine R_aload_n (pc' := 29) rfl rfl rfl ?_
    refine K_getI (pc' := 32) rfl rfl (by decide) (kA hA 146 5 ⟨rfl, rfl⟩) rfl ?_
    refine R_ifle (pc' := 35) rfl rfl (fun hc => ?_) (fun hc => ?_)
    · replace h := h.1 hc
      exact R_vret rfl rfl ⟨_, _, rfl, rfl, h⟩
    · replace h := h.2 hc
      refine R_aload_n (pc' := 36) rfl rfl rfl ?_
      refine K_getI (pc' := 39) rfl rfl (by decide) (kA hA 146 5 ⟨rfl, rfl⟩) rfl ?_
      refine R_aload_n (pc' := 40) rfl rfl rfl ?_
      refine K_getR (pc' := 43) rfl rfl rfl (kA hA 146 5 ⟨rfl, rfl⟩) (gA he hA 146 3 149 ⟨⟨rfl, rfl⟩, rfl, rfl⟩) ?_
      refine K_alen (pc' := 44) rfl rfl 0 (kA hA 149 21 ⟨rfl, rfl⟩) (by decide) (lA hA 149 61 ⟨rfl, rfl⟩) ?_
      refine R_icgt (pc' := 47) rfl rfl (fun hc => ?_) (fun hc => ?_)
      · replace h := h.1 hc
        exact R_vret rfl rfl ⟨_, _, rfl, rfl, h⟩
      · replace h := h.2 hc
        refine R_aload_n (pc' := 48) rfl rfl rfl ?_
        refine K_getI (pc' := 51) rfl rfl (by decide) (kA hA 146 5 ⟨rfl, rfl⟩) rfl ?_
        refine R_iconst (pc' := 52) rfl rfl ?_
        have g1 := h.1
        replace h := h.2
        refine R_isub (pc' := 53) rfl rfl g1 ?_
        refine R_istore (ls' := [vR (some (A + 146)), vR (some A), vJ, vI x3, vI x4, vI ((I (A + 146) 5) - 1), vJ]) (pc' := 55) rfl rfl rfl ?_
        refine R_aload_n (pc' := 56) rfl rfl rfl ?_
        refine K_getR (pc' := 59) rfl rfl rfl (kA hA 146 5 ⟨rfl, rfl⟩) (gA he hA 146 3 149 ⟨⟨rfl, rfl⟩, rfl, rfl⟩) ?_
        refine R_iload (pc' := 61) rfl rfl rfl ?_
        have g2 := h.1
        replace h := h.2
        refine K_iald (pc' := 62) rfl rfl (kA hA 149 21 ⟨rfl, rfl⟩) g2.1 (by rw [(lA hA 149 61 ⟨rfl, rfl⟩)]; exact g2.2) rfl ?_
        refine R_aload_n (pc' := 63) rfl rfl rfl ?_
        refine K_getR (pc' := 66) rfl rfl rfl (kA hA 146 5 ⟨rfl, rfl⟩) (gA he hA 146 4 150 ⟨⟨rfl, rfl⟩, rfl, rfl⟩) ?_
        refine R_iload (pc' := 68) rfl rfl rfl ?_
        have g3 := h.1
        replace h := h.2
        refine K_iald (pc' := 69) rfl rfl (kA hA 150 21 ⟨rfl, rfl⟩) g3.1 (by rw [(lA hA 150 61 ⟨rfl, rfl⟩)]; exact g3.2) rfl ?_
        refine R_icge (pc' := 72) rfl rfl (fun hc => ?_) (fun hc => ?_)
        · replace h := h.1 hc
          refine R_aload_n (pc' := 110) rfl rfl rfl ?_
          refine R_dup (pc' := 111) rfl rfl rfl ?_
          refine K_getI (pc' := 114) rfl rfl (by decide) (kA hA 146 5 ⟨rfl, rfl⟩) rfl ?_
          refine R_iconst (pc' := 115) rfl rfl ?_
          have g4 := h.1
          replace h := h.2
          refine R_isub (pc' := 116) rfl rfl g4 ?_
          refine K_putI (pc' := 119) rfl rfl (by decide) (fun h => absurd h (by decide)) (kA hA 146 5 ⟨rfl, rfl⟩) ?_
          exact R_forget (ls' := [vR (some (A + 146)), vR (some A), vJ, vI x3, vI x4, vJ, vJ]) ⟨Or.inl rfl, Or.inl rfl, Or.inl rfl, Or.inl rfl, Or.inl rfl, Or.inr rfl, Or.inl rfl, trivial⟩ h
        · replace h := h.2 hc
          refine R_aload_n (pc' := 73) rfl rfl rfl ?_
          refine K_getRN (pc' := 76) rfl rfl rfl (kA hA 0 6 ⟨rfl, rfl⟩) (gA he hA 0 3 2 ⟨⟨rfl, rfl⟩, rfl, rfl⟩) ?_
          refine R_aload_n (pc' := 77) rfl rfl rfl ?_
          refine K_getR (pc' := 80) rfl rfl rfl (kA hA 146 5 ⟨rfl, rfl⟩) (gA he hA 146 3 149 ⟨⟨rfl, rfl⟩, rfl, rfl⟩) ?_
          refine R_iload (pc' := 82) rfl rfl rfl ?_
          have g5 := h.1
          replace h := h.2
          refine K_iald (pc' := 83) rfl rfl (kA hA 149 21 ⟨rfl, rfl⟩) g5.1 (by rw [(lA hA 149 61 ⟨rfl, rfl⟩)]; exact g5.2) rfl ?_
          refine KI_iv (as := [vI (I (A + 149) ((((I (A + 146) 5) - 1) : Int).toNat))]) (rest := []) (pc' := 86) rfl rfl rfl (kA hA 2 4 ⟨rfl, rfl⟩) rfl (Nat.le_of_ble_eq_true rfl) rfl (CI_mono h ?_)
          intro z6 I7 D8 h
          refine R_istore (ls' := [vR (some (A + 146)), vR (some A), vJ, vI x3, vI x4, vI ((I (A + 146) 5) - 1), vI z6]) (pc' := 88) rfl rfl rfl ?_
          refine R_aload_n (pc' := 89) rfl rfl rfl ?_
          refine K_getR (pc' := 92) rfl rfl rfl (kA hA 146 5 ⟨rfl, rfl⟩) (gA he hA 146 3 149 ⟨⟨rfl, rfl⟩, rfl, rfl⟩) ?_
          refine R_iload (pc' := 94) rfl rfl rfl ?_
          refine R_dup2 (pc' := 95) rfl rfl rfl rfl ?_
          have g9 := h.1
          replace h := h.2
          refine K_iald (pc' := 96) rfl rfl (kA hA 149 21 ⟨rfl, rfl⟩) g9.1 (by rw [(lA hA 149 61 ⟨rfl, rfl⟩)]; exact g9.2) rfl ?_
          refine R_iconst (pc' := 97) rfl rfl ?_
          have g10 := h.1
          replace h := h.2
          refine R_iadd (pc' := 98) rfl rfl g10 ?_
          have g11 := h.1
          replace h := h.2
          refine K_iast (pc' := 99) rfl rfl (kA hA 149 21 ⟨rfl, rfl⟩) g11.1 (by rw [(lA hA 149 61 ⟨rfl, rfl⟩)]; exact g11.2) ?_
          refine R_aload_n (pc' := 100) rfl rfl rfl ?_
          refine R_aload_n (pc' := 101) rfl rfl rfl ?_
          refine R_iload (pc' := 103) rfl rfl rfl ?_
          refine KV_iv (as := [vR (some A), vI z6]) (rest := []) (pc' := 106) rfl rfl rfl (kA hA 146 5 ⟨rfl, rfl⟩) rfl (Nat.le_of_ble_eq_true rfl) rfl (CV_mono h ?_)
          intro I13 D14 h
          refine R_goto rfl ?_
          exact R_forget (ls' := [vR (some (A + 146)), vR (some A), vJ, vI x3, vI x4, vJ, vJ]) ⟨Or.inl rfl, Or.inl rfl, Or.inl rfl, Or.inl rfl, Or.inl rfl, Or.inr rfl, Or.inr rfl, trivial⟩ h
theorem S19_119 {e : En} {I : HI} {D : HD} {Q : HI → HD → Prop} {A : Nat} {x3 : Int} {x4 : Int} (he : HS e) (hA : isA A)
    (h : (-2147483648 ≤ (x4 + 1) ∧ (x4 + 1) < 2147483648) ∧ RV 19 22 [vR (some (A + 146)), vR (some A), vJ, vI x3, vI (x4 + 1), vJ, vJ] [] e I D Q) :
    RV 19 119 [vR (some (A + 146)), vR (some A), vJ, vI x3, vI x4, vJ, vJ] [] e I D Q := by
  show Run 19 119 [vR (some (A + 146)), vR (some A), vJ, vI x3, vI x4, vJ, vJ] [] (mk e I D) (pV e Q)
  have g1 := h.1
  replace h := h.2
  refine R_iinc (ls' := [vR (some (A + 146)), vR (some A), vJ, vI x3, vI (x4 + 1), vJ, vJ]) (pc' := 122) rfl rfl rfl g1 rfl ?_
  refine R_goto rfl ?_
  exact h
/-! 20 X4_visit -/
theorem S20 {e : En} {I : HI} {D : HD} {Q : HI → HD → Prop} {A : Nat} {x2 : Int} (he : HS e) (hA : isA A)
    (h : CR 35 [vR (some A), vI x2] e I D (fun z1 I2 D3 => ((z1 = none → Q I2 D3) ∧ (∀ u4, z1 = some u4 → K0 u4 = 3 ∧ ((x2 < 0 → Q I2 D3) ∧ (¬ (x2 < 0) → (((61 : Int) ≤ x2 → Q I2 D3) ∧ (¬ ((61 : Int) ≤ x2) → (0 ≤ x2 ∧ x2 < 61) ∧ (((I2 (A + 148) (x2.toNat)) = 0 → (0 ≤ x2 ∧ x2 < 61) ∧ ((¬ ((uI I2 (A + 148) (x2.toNat) 1) (u4 + 1) 3) = 3 → ((¬ ((uI I2 (A + 148) (x2.toNat) 1) (u4 + 1) 3) = 2 → Q (uI I2 (A + 148) (x2.toNat) 1) D3) ∧ (¬ (¬ ((uI I2 (A + 148) (x2.toNat) 1) (u4 + 1) 3) = 2) → ((((uI I2 (A + 148) (x2.toNat) 1) (A + 146) 5) < 0 → Q (uI I2 (A + 148) (x2.toNat) 1) D3) ∧ (¬ (((uI I2 (A + 148) (x2.toNat) 1) (A + 146) 5) < 0) → (((61 : Int) ≤ ((uI I2 (A + 148) (x2.toNat) 1) (A + 146) 5) → Q (uI I2 (A + 148) (x2.toNat) 1) D3) ∧ (¬ ((61 : Int) ≤ ((uI I2 (A + 148) (x2.toNat) 1) (A + 146) 5)) → (0 ≤ ((uI I2 (A + 148) (x2.toNat) 1) (A + 146) 5) ∧ ((uI I2 (A + 148) (x2.toNat) 1) (A + 146) 5) < 61) ∧ (0 ≤ ((uI (uI I2 (A + 148) (x2.toNat) 1) (A + 149) ((((uI I2 (A + 148) (x2.toNat) 1) (A + 146) 5) : Int).toNat) ((uI I2 (A + 148) (x2.toNat) 1) (u4 + 1) 8)) (A + 146) 5) ∧ ((uI (uI I2 (A + 148) (x2.toNat) 1) (A + 149) ((((uI I2 (A + 148) (x2.toNat) 1) (A + 146) 5) : Int).toNat) ((uI I2 (A + 148) (x2.toNat) 1) (u4 + 1) 8)) (A + 146) 5) < 61) ∧ (-2147483648 ≤ (((uI (uI (uI I2 (A + 148) (x2.toNat) 1) (A + 149) ((((uI I2 (A + 148) (x2.toNat) 1) (A + 146) 5) : Int).toNat) ((uI I2 (A + 148) (x2.toNat) 1) (u4 + 1) 8)) (A + 150) ((((uI (uI I2 (A + 148) (x2.toNat) 1) (A + 149) ((((uI I2 (A + 148) (x2.toNat) 1) (A + 146) 5) : Int).toNat) ((uI I2 (A + 148) (x2.toNat) 1) (u4 + 1) 8)) (A + 146) 5) : Int).toNat) ((uI (uI I2 (A + 148) (x2.toNat) 1) (A + 149) ((((uI I2 (A + 148) (x2.toNat) 1) (A + 146) 5) : Int).toNat) ((uI I2 (A + 148) (x2.toNat) 1) (u4 + 1) 8)) (u4 + 1) 9)) (A + 146) 5) + 1) ∧ (((uI (uI (uI I2 (A + 148) (x2.toNat) 1) (A + 149) ((((uI I2 (A + 148) (x2.toNat) 1) (A + 146) 5) : Int).toNat) ((uI I2 (A + 148) (x2.toNat) 1) (u4 + 1) 8)) (A + 150) ((((uI (uI I2 (A + 148) (x2.toNat) 1) (A + 149) ((((uI I2 (A + 148) (x2.toNat) 1) (A + 146) 5) : Int).toNat) ((uI I2 (A + 148) (x2.toNat) 1) (u4 + 1) 8)) (A + 146) 5) : Int).toNat) ((uI (uI I2 (A + 148) (x2.toNat) 1) (A + 149) ((((uI I2 (A + 148) (x2.toNat) 1) (A + 146) 5) : Int).toNat) ((uI I2 (A + 148) (x2.toNat) 1) (u4 + 1) 8)) (u4 + 1) 9)) (A + 146) 5) + 1) < 2147483648) ∧ Q (uI (uI (uI (uI I2 (A + 148) (x2.toNat) 1) (A + 149) ((((uI I2 (A + 148) (x2.toNat) 1) (A + 146) 5) : Int).toNat) ((uI I2 (A + 148) (x2.toNat) 1) (u4 + 1) 8)) (A + 150) ((((uI (uI I2 (A + 148) (x2.toNat) 1) (A + 149) ((((uI I2 (A + 148) (x2.toNat) 1) (A + 146) 5) : Int).toNat) ((uI I2 (A + 148) (x2.toNat) 1) (u4 + 1) 8)) (A + 146) 5) : Int).toNat) ((uI (uI I2 (A + 148) (x2.toNat) 1) (A + 149) ((((uI I2 (A + 148) (x2.toNat) 1) (A + 146) 5) : Int).toNat) ((uI I2 (A + 148) (x2.toNat) 1) (u4 + 1) 8)) (u4 + 1) 9)) (A + 146) 5 (((uI (uI (uI I2 (A + 148) (x2.toNat) 1) (A + 149) ((((uI I2 (A + 148) (x2.toNat) 1) (A + 146) 5) : Int).toNat) ((uI I2 (A + 148) (x2.toNat) 1) (u4 + 1) 8)) (A + 150) ((((uI (uI I2 (A + 148) (x2.toNat) 1) (A + 149) ((((uI I2 (A + 148) (x2.toNat) 1) (A + 146) 5) : Int).toNat) ((uI I2 (A + 148) (x2.toNat) 1) (u4 + 1) 8)) (A + 146) 5) : Int).toNat) ((uI (uI I2 (A + 148) (x2.toNat) 1) (A + 149) ((((uI I2 (A + 148) (x2.toNat) 1) (A + 146) 5) : Int).toNat) ((uI I2 (A + 148) (x2.toNat) 1) (u4 + 1) 8)) (u4 + 1) 9)) (A + 146) 5) + 1)) D3))))))) ∧ (¬ (¬ ((uI I2 (A + 148) (x2.toNat) 1) (u4 + 1) 3) = 3) → CV 22 [vR (some (A + 146)), vI x2] e (uI I2 (A + 148) (x2.toNat) 1) D3 (fun I12 D13 => Q I12 D13)))) ∧ (¬ ((I2 (A + 148) (x2.toNat)) = 0) → Q I2 D3)))))))))) :
    CV 20 [vR (some (A + 146)), vR (some A), vI x2] e I D Q := by
  refine Call_run (ls := [vR (some (A + 146)), vR (some A), vI x2, vJ]) rfl rfl ?_
  refine R_aload_n (pc' := 1) rfl rfl rfl ?_
  refine R_iload_n (pc' := 2) rfl rfl rfl ?_
  refine KR_iv (as := [vI x2]) (rest := []) (pc' := 5) rfl rfl rfl (kA hA 0 6 ⟨rfl, rfl⟩) rfl (Nat.le_of_ble_eq_true rfl) rfl (CR_mono h ?_)
  intro z1 I2 D3 h
  refine R_astore_n (ls' := [vR (some (A + 146)), vR (some A), vI x2, vR z1]) (pc' := 6) rfl rfl rfl ?_
  refine R_aload_n (pc' := 7) rfl rfl rfl ?_
  refine R_ifnull (pc' := 10) rfl rfl (fun hn => ?_) (fun u4 hn => ?_)
  · replace h := h.1 hn
    subst hn
    exact R_vret rfl rfl ⟨_, _, rfl, rfl, h⟩
  · replace h := h.2 u4 hn
    subst hn
    have hu5 := h.1
    replace h := h.2
    refine R_iload_n (pc' := 11) rfl rfl rfl ?_
    refine R_iflt (pc' := 14) rfl rfl (fun hc => ?_) (fun hc => ?_)
    · replace h := h.1 hc
      exact R_vret rfl rfl ⟨_, _, rfl, rfl, h⟩
    · replace h := h.2 hc
      refine R_iload_n (pc' := 15) rfl rfl rfl ?_
      refine R_aload_n (pc' := 16) rfl rfl rfl ?_
      refine K_getR (pc' := 19) rfl rfl rfl (kA hA 146 5 ⟨rfl, rfl⟩) (gA he hA 146 2 148 ⟨⟨rfl, rfl⟩, rfl, rfl⟩) ?_
      refine K_alen (pc' := 20) rfl rfl 2 (kA hA 148 23 ⟨rfl, rfl⟩) (by decide) (lA hA 148 61 ⟨rfl, rfl⟩) ?_
      refine R_icge (pc' := 23) rfl rfl (fun hc => ?_) (fun hc => ?_)
      · replace h := h.1 hc
        exact R_vret rfl rfl ⟨_, _, rfl, rfl, h⟩
      · replace h := h.2 hc
        refine R_aload_n (pc' := 24) rfl rfl rfl ?_
        refine K_getR (pc' := 27) rfl rfl rfl (kA hA 146 5 ⟨rfl, rfl⟩) (gA he hA 146 2 148 ⟨⟨rfl, rfl⟩, rfl, rfl⟩) ?_
        refine R_iload_n (pc' := 28) rfl rfl rfl ?_
        have g6 := h.1
        replace h := h.2
        refine K_zald (pc' := 29) rfl rfl (kA hA 148 23 ⟨rfl, rfl⟩) g6.1 (by rw [(lA hA 148 61 ⟨rfl, rfl⟩)]; exact g6.2) rfl ?_
        refine R_ifeq (pc' := 32) rfl rfl (fun hc => ?_) (fun hc => ?_)
        · replace h := h.1 hc
          refine R_aload_n (pc' := 34) rfl rfl rfl ?_
          refine K_getR (pc' := 37) rfl rfl rfl (kA hA 146 5 ⟨rfl, rfl⟩) (gA he hA 146 2 148 ⟨⟨rfl, rfl⟩, rfl, rfl⟩) ?_
          refine R_iload_n (pc' := 38) rfl rfl rfl ?_
          refine R_iconst (pc' := 39) rfl rfl ?_
          have g7 := h.1
          replace h := h.2
          refine K_zast (pc' := 40) rfl rfl (kA hA 148 23 ⟨rfl, rfl⟩) g7.1 (by rw [(lA hA 148 61 ⟨rfl, rfl⟩)]; exact g7.2) (Or.inr rfl) ?_
          refine R_aload_n (pc' := 41) rfl rfl rfl ?_
          refine K_getRN (pc' := 44) rfl rfl rfl hu5 (gF0 he hu5) ?_
          refine K_getIN (pc' := 47) rfl rfl (by decide) (kF hu5).1 rfl ?_
          refine R_iconst (pc' := 48) rfl rfl ?_
          refine R_icne (pc' := 51) rfl rfl (fun hc => ?_) (fun hc => ?_)
          · replace h := h.1 hc
            refine R_aload_n (pc' := 60) rfl rfl rfl ?_
            refine K_getRN (pc' := 63) rfl rfl rfl hu5 (gF0 he hu5) ?_
            refine K_getIN (pc' := 66) rfl rfl (by decide) (kF hu5).1 rfl ?_
            refine R_iconst (pc' := 67) rfl rfl ?_
            refine R_icne (pc' := 70) rfl rfl (fun hc => ?_) (fun hc => ?_)
            · replace h := h.1 hc
              exact R_vret rfl rfl ⟨_, _, rfl, rfl, h⟩
            · replace h := h.2 hc
              refine R_aload_n (pc' := 71) rfl rfl rfl ?_
              refine K_getI (pc' := 74) rfl rfl (by decide) (kA hA 146 5 ⟨rfl, rfl⟩) rfl ?_
              refine R_iflt (pc' := 77) rfl rfl (fun hc => ?_) (fun hc => ?_)
              · replace h := h.1 hc
                exact R_vret rfl rfl ⟨_, _, rfl, rfl, h⟩
              · replace h := h.2 hc
                refine R_aload_n (pc' := 78) rfl rfl rfl ?_
                refine K_getI (pc' := 81) rfl rfl (by decide) (kA hA 146 5 ⟨rfl, rfl⟩) rfl ?_
                refine R_aload_n (pc' := 82) rfl rfl rfl ?_
                refine K_getR (pc' := 85) rfl rfl rfl (kA hA 146 5 ⟨rfl, rfl⟩) (gA he hA 146 3 149 ⟨⟨rfl, rfl⟩, rfl, rfl⟩) ?_
                refine K_alen (pc' := 86) rfl rfl 0 (kA hA 149 21 ⟨rfl, rfl⟩) (by decide) (lA hA 149 61 ⟨rfl, rfl⟩) ?_
                refine R_icge (pc' := 89) rfl rfl (fun hc => ?_) (fun hc => ?_)
                · replace h := h.1 hc
                  exact R_vret rfl rfl ⟨_, _, rfl, rfl, h⟩
                · replace h := h.2 hc
                  refine R_aload_n (pc' := 90) rfl rfl rfl ?_
                  refine K_getR (pc' := 93) rfl rfl rfl (kA hA 146 5 ⟨rfl, rfl⟩) (gA he hA 146 3 149 ⟨⟨rfl, rfl⟩, rfl, rfl⟩) ?_
                  refine R_aload_n (pc' := 94) rfl rfl rfl ?_
                  refine K_getI (pc' := 97) rfl rfl (by decide) (kA hA 146 5 ⟨rfl, rfl⟩) rfl ?_
                  refine R_aload_n (pc' := 98) rfl rfl rfl ?_
                  refine K_getRN (pc' := 101) rfl rfl rfl hu5 (gF0 he hu5) ?_
                  refine K_getIN (pc' := 104) rfl rfl (by decide) (kF hu5).1 rfl ?_
                  have g8 := h.1
                  replace h := h.2
                  refine K_iast (pc' := 105) rfl rfl (kA hA 149 21 ⟨rfl, rfl⟩) g8.1 (by rw [(lA hA 149 61 ⟨rfl, rfl⟩)]; exact g8.2) ?_
                  refine R_aload_n (pc' := 106) rfl rfl rfl ?_
                  refine K_getR (pc' := 109) rfl rfl rfl (kA hA 146 5 ⟨rfl, rfl⟩) (gA he hA 146 4 150 ⟨⟨rfl, rfl⟩, rfl, rfl⟩) ?_
                  refine R_aload_n (pc' := 110) rfl rfl rfl ?_
                  refine K_getI (pc' := 113) rfl rfl (by decide) (kA hA 146 5 ⟨rfl, rfl⟩) rfl ?_
                  refine R_aload_n (pc' := 114) rfl rfl rfl ?_
                  refine K_getRN (pc' := 117) rfl rfl rfl hu5 (gF0 he hu5) ?_
                  refine K_getIN (pc' := 120) rfl rfl (by decide) (kF hu5).1 rfl ?_
                  have g9 := h.1
                  replace h := h.2
                  refine K_iast (pc' := 121) rfl rfl (kA hA 150 21 ⟨rfl, rfl⟩) g9.1 (by rw [(lA hA 150 61 ⟨rfl, rfl⟩)]; exact g9.2) ?_
                  refine R_aload_n (pc' := 122) rfl rfl rfl ?_
                  refine R_dup (pc' := 123) rfl rfl rfl ?_
                  refine K_getI (pc' := 126) rfl rfl (by decide) (kA hA 146 5 ⟨rfl, rfl⟩) rfl ?_
                  refine R_iconst (pc' := 127) rfl rfl ?_
                  have g10 := h.1
                  replace h := h.2
                  refine R_iadd (pc' := 128) rfl rfl g10 ?_
                  refine K_putI (pc' := 131) rfl rfl (by decide) (fun h => absurd h (by decide)) (kA hA 146 5 ⟨rfl, rfl⟩) ?_
                  exact R_vret rfl rfl ⟨_, _, rfl, rfl, h⟩
          · replace h := h.2 hc
            refine R_aload_n (pc' := 52) rfl rfl rfl ?_
            refine R_iload_n (pc' := 53) rfl rfl rfl ?_
            refine KV_iv (as := [vI x2]) (rest := []) (pc' := 56) rfl rfl rfl (kA hA 146 5 ⟨rfl, rfl⟩) rfl (Nat.le_of_ble_eq_true rfl) rfl (CV_mono h ?_)
            intro I12 D13 h
            refine R_goto rfl ?_
            exact R_vret rfl rfl ⟨_, _, rfl, rfl, h⟩
        · replace h := h.2 hc
          exact R_vret rfl rfl ⟨_, _, rfl, rfl, h⟩
/-! 21 X4_takeAll -/
theorem S21 {e : En} {I : HI} {D : HD} {Q : HI → HD → Prop} {A : Nat} (he : HS e) (hA : isA A)
    (h : RV 21 7 [vR (some (A + 146)), vR (some A), vI 1] [] e (uI I (A + 146) 1 0) D Q) :
    CV 21 [vR (some (A + 146)), vR (some A)] e I D Q := by
  refine Call_run (ls := [vR (some (A + 146)), vR (some A), vJ]) rfl rfl ?_
  refine R_aload_n (pc' := 1) rfl rfl rfl ?_
  refine R_iconst (pc' := 2) rfl rfl ?_
  refine K_putI (pc' := 5) rfl rfl (by decide) (fun h => absurd h (by decide)) (kA hA 146 5 ⟨rfl, rfl⟩) ?_
  refine R_iconst (pc' := 6) rfl rfl ?_
  refine R_istore_n (ls' := [vR (some (A + 146)), vR (some A), vI 1]) (pc' := 7) rfl rfl rfl ?_
  exact h
theorem S21_7 {e : En} {I : HI} {D : HD} {Q : HI → HD → Prop} {A : Nat} {x2 : Int} (he : HS e) (hA : isA A)
    (h : (((60 : Int) < x2 → Q I D) ∧ (¬ ((60 : Int) < x2) → CI 36 [vR (some A), vI x2] e I D (fun z1 I2 D3 => ((¬ z1 = 3 → RV 21 27 [vR (some (A + 146)), vR (some A), vI x2] [] e I2 D3 Q) ∧ (¬ (¬ z1 = 3) → CV 22 [vR (some (A + 146)), vI x2] e I2 D3 (fun I5 D6 => RV 21 27 [vR (some (A + 146)), vR (some A), vI x2] [] e I5 D6 Q))))))) :
    RV 21 7 [vR (some (A + 146)), vR (some A), vI x2] [] e I D Q := by
  show Run 21 7 [vR (some (A + 146)), vR (some A), vI x2] [] (mk e I D) (pV e Q)
  refine R_iload_n (pc' := 8) rfl rfl rfl ?_
  refine R_bipush (pc' := 10) rfl rfl ?_
  refine R_icgt (pc' := 13) rfl rfl (fun hc => ?_) (fun hc => ?_)
  · replace h := h.1 hc
    exact R_vret rfl rfl ⟨_, _, rfl, rfl, h⟩
  · replace h := h.2 hc
    refine R_aload_n (pc' := 14) rfl rfl rfl ?_
    refine R_iload_n (pc' := 15) rfl rfl rfl ?_
    refine KI_iv (as := [vI x2]) (rest := []) (pc' := 18) rfl rfl rfl (kA hA 0 6 ⟨rfl, rfl⟩) rfl (Nat.le_of_ble_eq_true rfl) rfl (CI_mono h ?_)
    intro z1 I2 D3 h
    refine R_iconst (pc' := 19) rfl rfl ?_
    refine R_icne (pc' := 22) rfl rfl (fun hc => ?_) (fun hc => ?_)
    · replace h := h.1 hc
      exact h
    · replace h := h.2 hc
      refine R_aload_n (pc' := 23) rfl rfl rfl ?_
      refine R_iload_n (pc' := 24) rfl rfl rfl ?_
      refine KV_iv (as := [vI x2]) (rest := []) (pc' := 27) rfl rfl rfl (kA hA 146 5 ⟨rfl, rfl⟩) rfl (Nat.le_of_ble_eq_true rfl) rfl (CV_mono h ?_)
      intro I5 D6 h
      exact h
theorem S21_27 {e : En} {I : HI} {D : HD} {Q : HI → HD → Prop} {A : Nat} {x2 : Int} (he : HS e) (hA : isA A)
    (h : (-2147483648 ≤ (x2 + 1) ∧ (x2 + 1) < 2147483648) ∧ RV 21 7 [vR (some (A + 146)), vR (some A), vI (x2 + 1)] [] e I D Q) :
    RV 21 27 [vR (some (A + 146)), vR (some A), vI x2] [] e I D Q := by
  show Run 21 27 [vR (some (A + 146)), vR (some A), vI x2] [] (mk e I D) (pV e Q)
  have g1 := h.1
  replace h := h.2
  refine R_iinc (ls' := [vR (some (A + 146)), vR (some A), vI (x2 + 1)]) (pc' := 30) rfl rfl rfl g1 rfl ?_
  refine R_goto rfl ?_
  exact h
/-! 22 X4_append -/
theorem S22 {e : En} {I : HI} {D : HD} {Q : HI → HD → Prop} {A : Nat} {x1 : Int} (he : HS e) (hA : isA A)
    (h : (((I (A + 146) 1) < 0 → Q I D) ∧ (¬ ((I (A + 146) 1) < 0) → (((61 : Int) ≤ (I (A + 146) 1) → Q I D) ∧ (¬ ((61 : Int) ≤ (I (A + 146) 1)) → (0 ≤ (I (A + 146) 1) ∧ (I (A + 146) 1) < 61) ∧ (-2147483648 ≤ (((uI I (A + 147) (((I (A + 146) 1) : Int).toNat) x1) (A + 146) 1) + 1) ∧ (((uI I (A + 147) (((I (A + 146) 1) : Int).toNat) x1) (A + 146) 1) + 1) < 2147483648) ∧ Q (uI (uI I (A + 147) (((I (A + 146) 1) : Int).toNat) x1) (A + 146) 1 (((uI I (A + 147) (((I (A + 146) 1) : Int).toNat) x1) (A + 146) 1) + 1)) D))))) :
    CV 22 [vR (some (A + 146)), vI x1] e I D Q := by
  refine Call_run (ls := [vR (some (A + 146)), vI x1]) rfl rfl ?_
  refine R_aload_n (pc' := 1) rfl rfl rfl ?_
  refine K_getI (pc' := 4) rfl rfl (by decide) (kA hA 146 5 ⟨rfl, rfl⟩) rfl ?_
  refine R_iflt (pc' := 7) rfl rfl (fun hc => ?_) (fun hc => ?_)
  · replace h := h.1 hc
    exact R_vret rfl rfl ⟨_, _, rfl, rfl, h⟩
  · replace h := h.2 hc
    refine R_aload_n (pc' := 8) rfl rfl rfl ?_
    refine K_getI (pc' := 11) rfl rfl (by decide) (kA hA 146 5 ⟨rfl, rfl⟩) rfl ?_
    refine R_aload_n (pc' := 12) rfl rfl rfl ?_
    refine K_getR (pc' := 15) rfl rfl rfl (kA hA 146 5 ⟨rfl, rfl⟩) (gA he hA 146 0 147 ⟨⟨rfl, rfl⟩, rfl, rfl⟩) ?_
    refine K_alen (pc' := 16) rfl rfl 0 (kA hA 147 21 ⟨rfl, rfl⟩) (by decide) (lA hA 147 61 ⟨rfl, rfl⟩) ?_
    refine R_icge (pc' := 19) rfl rfl (fun hc => ?_) (fun hc => ?_)
    · replace h := h.1 hc
      exact R_vret rfl rfl ⟨_, _, rfl, rfl, h⟩
    · replace h := h.2 hc
      refine R_aload_n (pc' := 20) rfl rfl rfl ?_
      refine K_getR (pc' := 23) rfl rfl rfl (kA hA 146 5 ⟨rfl, rfl⟩) (gA he hA 146 0 147 ⟨⟨rfl, rfl⟩, rfl, rfl⟩) ?_
      refine R_aload_n (pc' := 24) rfl rfl rfl ?_
      refine K_getI (pc' := 27) rfl rfl (by decide) (kA hA 146 5 ⟨rfl, rfl⟩) rfl ?_
      refine R_iload_n (pc' := 28) rfl rfl rfl ?_
      have g1 := h.1
      replace h := h.2
      refine K_iast (pc' := 29) rfl rfl (kA hA 147 21 ⟨rfl, rfl⟩) g1.1 (by rw [(lA hA 147 61 ⟨rfl, rfl⟩)]; exact g1.2) ?_
      refine R_aload_n (pc' := 30) rfl rfl rfl ?_
      refine R_dup (pc' := 31) rfl rfl rfl ?_
      refine K_getI (pc' := 34) rfl rfl (by decide) (kA hA 146 5 ⟨rfl, rfl⟩) rfl ?_
      refine R_iconst (pc' := 35) rfl rfl ?_
      have g2 := h.1
      replace h := h.2
      refine R_iadd (pc' := 36) rfl rfl g2 ?_
      refine K_putI (pc' := 39) rfl rfl (by decide) (fun h => absurd h (by decide)) (kA hA 146 5 ⟨rfl, rfl⟩) ?_
      exact R_vret rfl rfl ⟨_, _, rfl, rfl, h⟩
/-! 24 X5_run -/
theorem S24 {e : En} {I : HI} {D : HD} {Q : HI → HD → Prop} {A : Nat} {q1 : Nat} {x2 : Int} (he : HS e) (hA : isA A) (hq1 : K0 q1 = 22)
    (h : CV 25 [vR (some A), vR (some q1), vI x2] e I D (fun I2 D3 => CI 51 [vR (some 1), vI 0] e I2 D3 (fun z4 I5 D6 => RV 24 18 [vR (some A), vJ, vJ, vI z4, vI 0, vJ] [] e I5 D6 Q))) :
    CV 24 [vR (some A), vR (some q1), vI x2] e I D Q := by
  refine Call_run (ls := [vR (some A), vR (some q1), vI x2, vJ, vJ, vJ]) rfl rfl ?_
  refine R_aload_n (pc' := 1) rfl rfl rfl ?_
  refine R_aload_n (pc' := 2) rfl rfl rfl ?_
  refine R_iload_n (pc' := 3) rfl rfl rfl ?_
  refine KV_iv (as := [vR (some q1), vI x2]) (rest := []) (pc' := 6) rfl rfl rfl (kA hA 0 6 ⟨rfl, rfl⟩) rfl (Nat.le_of_ble_eq_true rfl) rfl (CV_mono h ?_)
  intro I2 D3 h
  refine R_aload_n (pc' := 7) rfl rfl rfl ?_
  refine K_getR (pc' := 10) rfl rfl rfl (kA hA 0 6 ⟨rfl, rfl⟩) (gA1 he hA 0 ⟨⟨rfl, rfl⟩, rfl, rfl⟩) ?_
  refine R_iconst (pc' := 11) rfl rfl ?_
  refine KI_iv (as := [vI 0]) (rest := []) (pc' := 14) rfl rfl rfl rfl rfl (Nat.le_of_ble_eq_true rfl) rfl (CI_mono h ?_)
  intro z4 I5 D6 h
  refine R_istore_n (ls' := [vR (some A), vR (some q1), vI x2, vI z4, vJ, vJ]) (pc' := 15) rfl rfl rfl ?_
  refine R_iconst (pc' := 16) rfl rfl ?_
  refine R_istore (ls' := [vR (some A), vR (some q1), vI x2, vI z4, vI 0, vJ]) (pc' := 18) rfl rfl rfl ?_
  exact R_forget (ls' := [vR (some A), vJ, vJ, vI z4, vI 0, vJ]) ⟨Or.inl rfl, Or.inr rfl, Or.inr rfl, Or.inl rfl, Or.inl rfl, Or.inl rfl, trivial⟩ h
theorem S24_18 {e : En} {I : HI} {D : HD} {Q : HI → HD → Prop} {A : Nat} {x3 : Int} {x4 : Int} (he : HS e) (hA : isA A)
    (h : (((3000 : Int) < x4 → RV 24 89 [vR (some A), vJ, vJ, vJ, vJ, vJ] [] e I D Q) ∧ (¬ ((3000 : Int) < x4) → CI 53 [vR (some 1), vI x3] e I D (fun z1 I2 D3 => ((z1 = 0 → RV 24 89 [vR (some A), vJ, vJ, vJ, vJ, vJ] [] e I2 D3 Q) ∧ (¬ (z1 = 0) → CI 53 [vR (some 1), vI x3] e I2 D3 (fun z4 I5 D6 => ((¬ z4 = 5 → ((¬ z4 = 7 → RV 24 74 [vR (some A), vJ, vJ, vI x3, vI x4, vJ] [] e I5 D6 Q) ∧ (¬ (¬ z4 = 7) → CV 34 [vR (some A), vI x3] e I5 D6 (fun I8 D9 => RV 24 74 [vR (some A), vJ, vJ, vI x3, vI x4, vJ] [] e I8 D9 Q)))) ∧ (¬ (¬ z4 = 5) → CI 27 [vR (some A), vI x3] e I5 D6 (fun z10 I11 D12 => RV 24 83 [vR (some A), vJ, vJ, vI z10, vI x4, vJ] [] e I11 D12 Q)))))))))) :
    RV 24 18 [vR (some A), vJ, vJ, vI x3, vI x4, vJ] [] e I D Q := by
  show Run 24 18 [vR (some A), vJ, vJ, vI x3, vI x4, vJ] [] (mk e I D) (pV e Q)
  refine R_iload (pc' := 20) rfl rfl rfl ?_
  refine R_sipush (pc' := 23) rfl rfl ?_
  refine R_icgt (pc' := 26) rfl rfl (fun hc => ?_) (fun hc => ?_)
  · replace h := h.1 hc
    exact R_forget (ls' := [vR (some A), vJ, vJ, vJ, vJ, vJ]) ⟨Or.inl rfl, Or.inl rfl, Or.inl rfl, Or.inr rfl, Or.inr rfl, Or.inl rfl, trivial⟩ h
  · replace h := h.2 hc
    refine R_aload_n (pc' := 27) rfl rfl rfl ?_
    refine K_getR (pc' := 30) rfl rfl rfl (kA hA 0 6 ⟨rfl, rfl⟩) (gA1 he hA 0 ⟨⟨rfl, rfl⟩, rfl, rfl⟩) ?_
    refine R_iload_n (pc' := 31) rfl rfl rfl ?_
    refine KI_iv (as := [vI x3]) (rest := []) (pc' := 34) rfl rfl rfl rfl rfl (Nat.le_of_ble_eq_true rfl) rfl (CI_mono h ?_)
    intro z1 I2 D3 h
    refine R_ifeq (pc' := 37) rfl rfl (fun hc => ?_) (fun hc => ?_)
    · replace h := h.1 hc
      exact R_forget (ls' := [vR (some A), vJ, vJ, vJ, vJ, vJ]) ⟨Or.inl rfl, Or.inl rfl, Or.inl rfl, Or.inr rfl, Or.inr rfl, Or.inl rfl, trivial⟩ h
    · replace h := h.2 hc
      refine R_aload_n (pc' := 38) rfl rfl rfl ?_
      refine K_getR (pc' := 41) rfl rfl rfl (kA hA 0 6 ⟨rfl, rfl⟩) (gA1 he hA 0 ⟨⟨rfl, rfl⟩, rfl, rfl⟩) ?_
      refine R_iload_n (pc' := 42) rfl rfl rfl ?_
      refine KI_iv (as := [vI x3]) (rest := []) (pc' := 45) rfl rfl rfl rfl rfl (Nat.le_of_ble_eq_true rfl) rfl (CI_mono h ?_)
      intro z4 I5 D6 h
      refine R_istore (ls' := [vR (some A), vJ, vJ, vI x3, vI x4, vI z4]) (pc' := 47) rfl rfl rfl ?_
      refine R_iload (pc' := 49) rfl rfl rfl ?_
      refine R_iconst (pc' := 50) rfl rfl ?_
      refine R_icne (pc' := 53) rfl rfl (fun hc => ?_) (fun hc => ?_)
      · replace h := h.1 hc
        refine R_iload (pc' := 64) rfl rfl rfl ?_
        refine R_bipush (pc' := 66) rfl rfl ?_
        refine R_icne (pc' := 69) rfl rfl (fun hc => ?_) (fun hc => ?_)
        · replace h := h.1 hc
          exact R_forget (ls' := [vR (some A), vJ, vJ, vI x3, vI x4, vJ]) ⟨Or.inl rfl, Or.inl rfl, Or.inl rfl, Or.inl rfl, Or.inl rfl, Or.inr rfl, trivial⟩ h
        · replace h := h.2 hc
          refine R_aload_n (pc' := 70) rfl rfl rfl ?_
          refine R_iload_n (pc' := 71) rfl rfl rfl ?_
          refine KV_iv (as := [vI x3]) (rest := []) (pc' := 74) rfl rfl rfl (kA hA 0 6 ⟨rfl, rfl⟩) rfl (Nat.le_of_ble_eq_true rfl) rfl (CV_mono h ?_)
          intro I8 D9 h
          exact R_forget (ls' := [vR (some A), vJ, vJ, vI x3, vI x4, vJ]) ⟨Or.inl rfl, Or.inl rfl, Or.inl rfl, Or.inl rfl, Or.inl rfl, Or.inr rfl, trivial⟩ h
      · replace h := h.2 hc
        refine R_aload_n (pc' := 54) rfl rfl rfl ?_
        refine R_iload_n (pc' := 55) rfl rfl rfl ?_
        refine KI_iv (as := [vI x3]) (rest := []) (pc' := 58) rfl rfl rfl (kA hA 0 6 ⟨rfl, rfl⟩) rfl (Nat.le_of_ble_eq_true rfl) rfl (CI_mono h ?_)
        intro z10 I11 D12 h
        refine R_istore_n (ls' := [vR (some A), vJ, vJ, vI z10, vI x4, vI z4]) (pc' := 59) rfl rfl rfl ?_
        refine R_goto rfl ?_
        exact R_forget (ls' := [vR (some A), vJ, vJ, vI z10, vI x4, vJ]) ⟨Or.inl rfl, Or.inl rfl, Or.inl rfl, Or.inl rfl, Or.inl rfl, Or.inr rfl, trivial⟩ h
theorem S24_74 {e : En} {I : HI} {D : HD} {Q : HI → HD → Prop} {A : Nat} {x3 : Int} {x4 : Int} (he : HS e) (hA : isA A)
    (h : CI 55 [vR (some 1), vI x3] e I D (fun z1 I2 D3 => RV 24 83 [vR (some A), vJ, vJ, vI z1, vI x4, vJ] [] e I2 D3 Q)) :
    RV 24 74 [vR (some A), vJ, vJ, vI x3, vI x4, vJ] [] e I D Q := by
  show Run 24 74 [vR (some A), vJ, vJ, vI x3, vI x4, vJ] [] (mk e I D) (pV e Q)
  refine R_aload_n (pc' := 75) rfl rfl rfl ?_
  refine K_getR (pc' := 78) rfl rfl rfl (kA hA 0 6 ⟨rfl, rfl⟩) (gA1 he hA 0 ⟨⟨rfl, rfl⟩, rfl, rfl⟩) ?_
  refine R_iload_n (pc' := 79) rfl rfl rfl ?_
  refine KI_iv (as := [vI x3]) (rest := []) (pc' := 82) rfl rfl rfl rfl rfl (Nat.le_of_ble_eq_true rfl) rfl (CI_mono h ?_)
  intro z1 I2 D3 h
  refine R_istore_n (ls' := [vR (some A), vJ, vJ, vI z1, vI x4, vJ]) (pc' := 83) rfl rfl rfl ?_
  exact h
theorem S24_83 {e : En} {I : HI} {D : HD} {Q : HI → HD → Prop} {A : Nat} {x3 : Int} {x4 : Int} (he : HS e) (hA : isA A)
    (h : (-2147483648 ≤ (x4 + 1) ∧ (x4 + 1) < 2147483648) ∧ RV 24 18 [vR (some A), vJ, vJ, vI x3, vI (x4 + 1), vJ] [] e I D Q) :
    RV 24 83 [vR (some A), vJ, vJ, vI x3, vI x4, vJ] [] e I D Q := by
  show Run 24 83 [vR (some A), vJ, vJ, vI x3, vI x4, vJ] [] (mk e I D) (pV e Q)
  have g1 := h.1
  replace h := h.2
  refine R_iinc (ls' := [vR (some A), vJ, vJ, vI x3, vI (x4 + 1), vJ]) (pc' := 86) rfl rfl rfl g1 rfl ?_
  refine R_goto rfl ?_
  exact h
theorem S24_89 {e : En} {I : HI} {D : HD} {Q : HI → HD → Prop} {A : Nat} (he : HS e) (hA : isA A)
    (h : CV 38 [vR (some A)] e I D (fun I2 D3 => CV 39 [vR (some A)] e I2 D3 (fun I5 D6 => CV 41 [vR (some A)] e I5 D6 (fun I8 D9 => Q I8 D9)))) :
    RV 24 89 [vR (some A), vJ, vJ, vJ, vJ, vJ] [] e I D Q := by
  show Run 24 89 [vR (some A), vJ, vJ, vJ, vJ, vJ] [] (mk e I D) (pV e Q)
  refine R_aload_n (pc' := 90) rfl rfl rfl ?_
  refine KV_iv (as := []) (rest := []) (pc' := 93) rfl rfl rfl (kA hA 0 6 ⟨rfl, rfl⟩) rfl (Nat.le_of_ble_eq_true rfl) rfl (CV_mono h ?_)
  intro I2 D3 h
  refine R_aload_n (pc' := 94) rfl rfl rfl ?_
  refine KV_iv (as := []) (rest := []) (pc' := 97) rfl rfl rfl (kA hA 0 6 ⟨rfl, rfl⟩) rfl (Nat.le_of_ble_eq_true rfl) rfl (CV_mono h ?_)
  intro I5 D6 h
  refine R_aload_n (pc' := 98) rfl rfl rfl ?_
  refine KV_iv (as := []) (rest := []) (pc' := 101) rfl rfl rfl (kA hA 0 6 ⟨rfl, rfl⟩) rfl (Nat.le_of_ble_eq_true rfl) rfl (CV_mono h ?_)
  intro I8 D9 h
  exact R_vret rfl rfl ⟨_, _, rfl, rfl, h⟩
/-! 25 X5_takeBytes -/
theorem S25 {e : En} {I : HI} {D : HD} {Q : HI → HD → Prop} {A : Nat} {q1 : Nat} {x2 : Int} (he : HS e) (hA : isA A) (hq1 : K0 q1 = 22)
    (h : (0 ≤ ((uI I A 2 (max 0 (min x2 (min ((L0 q1) : Int) ((L0 (A + 1)) : Int))))) A 2) ∧ ((uI I A 2 (max 0 (min x2 (min ((L0 q1) : Int) ((L0 (A + 1)) : Int))))) A 2) ≤ (L0 q1 : Int) ∧ ((uI I A 2 (max 0 (min x2 (min ((L0 q1) : Int) ((L0 (A + 1)) : Int))))) A 2) ≤ (L0 (A + 1) : Int)) ∧ CV 43 [vR (some 1), vR (some (A + 1)), vI ((cI (uI I A 2 (max 0 (min x2 (min ((L0 q1) : Int) ((L0 (A + 1)) : Int))))) q1 0 (A + 1) 0 (((uI I A 2 (max 0 (min x2 (min ((L0 q1) : Int) ((L0 (A + 1)) : Int))))) A 2) : Int).toNat) A 2)] e (cI (uI I A 2 (max 0 (min x2 (min ((L0 q1) : Int) ((L0 (A + 1)) : Int))))) q1 0 (A + 1) 0 (((uI I A 2 (max 0 (min x2 (min ((L0 q1) : Int) ((L0 (A + 1)) : Int))))) A 2) : Int).toNat) D (fun I3 D4 => CV 12 [vR (some (A + 2)), vI 0] e I3 D4 (fun I6 D7 => CV 12 [vR (some (A + 6)), vI 0] e I6 D7 (fun I9 D10 => CV 12 [vR (some (A + 10)), vI 0] e I9 D10 (fun I12 D13 => CV 12 [vR (some (A + 14)), vI 0] e I12 D13 (fun I15 D16 => RV 25 85 [vR (some A), vJ, vJ, vI 0] [] e I15 D16 Q)))))) :
    CV 25 [vR (some A), vR (some q1), vI x2] e I D Q := by
  refine Call_run (ls := [vR (some A), vR (some q1), vI x2, vJ]) rfl rfl ?_
  refine R_aload_n (pc' := 1) rfl rfl rfl ?_
  refine R_iconst (pc' := 2) rfl rfl ?_
  refine R_iload_n (pc' := 3) rfl rfl rfl ?_
  refine R_aload_n (pc' := 4) rfl rfl rfl ?_
  refine K_alen (pc' := 5) rfl rfl 1 hq1 (by decide) rfl ?_
  refine R_aload_n (pc' := 6) rfl rfl rfl ?_
  refine K_getR (pc' := 9) rfl rfl rfl (kA hA 0 6 ⟨rfl, rfl⟩) (gA he hA 0 1 1 ⟨⟨rfl, rfl⟩, rfl, rfl⟩) ?_
  refine K_alen (pc' := 10) rfl rfl 1 (kA hA 1 22 ⟨rfl, rfl⟩) (by decide) rfl ?_
  refine R_min (pc' := 13) rfl rfl (Nat.le_of_ble_eq_true rfl) ?_
  refine R_min (pc' := 16) rfl rfl (Nat.le_of_ble_eq_true rfl) ?_
  refine R_max (pc' := 19) rfl rfl (Nat.le_of_ble_eq_true rfl) ?_
  refine K_putI (pc' := 22) rfl rfl (by decide) (fun h => absurd h (by decide)) (kA hA 0 6 ⟨rfl, rfl⟩) ?_
  refine R_aload_n (pc' := 23) rfl rfl rfl ?_
  refine R_iconst (pc' := 24) rfl rfl ?_
  refine R_aload_n (pc' := 25) rfl rfl rfl ?_
  refine K_getR (pc' := 28) rfl rfl rfl (kA hA 0 6 ⟨rfl, rfl⟩) (gA he hA 0 1 1 ⟨⟨rfl, rfl⟩, rfl, rfl⟩) ?_
  refine R_iconst (pc' := 29) rfl rfl ?_
  refine R_aload_n (pc' := 30) rfl rfl rfl ?_
  refine K_getI (pc' := 33) rfl rfl (by decide) (kA hA 0 6 ⟨rfl, rfl⟩) rfl ?_
  have g1 := h.1
  replace h := h.2
  refine K_copy (pc' := 36) rfl rfl hq1 (kA hA 1 22 ⟨rfl, rfl⟩) (by decide) (by decide) g1.1 (by have := g1.2.1; omega) (by have := g1.2.2; omega) (by decide) (Nat.le_of_ble_eq_true rfl) ?_
  refine R_aload_n (pc' := 37) rfl rfl rfl ?_
  refine K_getR (pc' := 40) rfl rfl rfl (kA hA 0 6 ⟨rfl, rfl⟩) (gA1 he hA 0 ⟨⟨rfl, rfl⟩, rfl, rfl⟩) ?_
  refine R_aload_n (pc' := 41) rfl rfl rfl ?_
  refine K_getR (pc' := 44) rfl rfl rfl (kA hA 0 6 ⟨rfl, rfl⟩) (gA he hA 0 1 1 ⟨⟨rfl, rfl⟩, rfl, rfl⟩) ?_
  refine R_aload_n (pc' := 45) rfl rfl rfl ?_
  refine K_getI (pc' := 48) rfl rfl (by decide) (kA hA 0 6 ⟨rfl, rfl⟩) rfl ?_
  refine KV_iv (as := [vR (some (A + 1)), vI ((cI (uI I A 2 (max 0 (min x2 (min ((L0 q1) : Int) ((L0 (A + 1)) : Int))))) q1 0 (A + 1) 0 (((uI I A 2 (max 0 (min x2 (min ((L0 q1) : Int) ((L0 (A + 1)) : Int))))) A 2) : Int).toNat) A 2)]) (rest := []) (pc' := 51) rfl rfl rfl rfl rfl (Nat.le_of_ble_eq_true rfl) rfl (CV_mono h ?_)
  intro I3 D4 h
  refine R_aload_n (pc' := 52) rfl rfl rfl ?_
  refine K_getR (pc' := 55) rfl rfl rfl (kA hA 0 6 ⟨rfl, rfl⟩) (gA he hA 0 3 2 ⟨⟨rfl, rfl⟩, rfl, rfl⟩) ?_
  refine R_iconst (pc' := 56) rfl rfl ?_
  refine KV_iv (as := [vI 0]) (rest := []) (pc' := 59) rfl rfl rfl (kA hA 2 4 ⟨rfl, rfl⟩) rfl (Nat.le_of_ble_eq_true rfl) rfl (CV_mono h ?_)
  intro I6 D7 h
  refine R_aload_n (pc' := 60) rfl rfl rfl ?_
  refine K_getR (pc' := 63) rfl rfl rfl (kA hA 0 6 ⟨rfl, rfl⟩) (gA he hA 0 4 6 ⟨⟨rfl, rfl⟩, rfl, rfl⟩) ?_
  refine R_iconst (pc' := 64) rfl rfl ?_
  refine KV_iv (as := [vI 0]) (rest := []) (pc' := 67) rfl rfl rfl (kA hA 6 4 ⟨rfl, rfl⟩) rfl (Nat.le_of_ble_eq_true rfl) rfl (CV_mono h ?_)
  intro I9 D10 h
  refine R_aload_n (pc' := 68) rfl rfl rfl ?_
  refine K_getR (pc' := 71) rfl rfl rfl (kA hA 0 6 ⟨rfl, rfl⟩) (gA he hA 0 5 10 ⟨⟨rfl, rfl⟩, rfl, rfl⟩) ?_
  refine R_iconst (pc' := 72) rfl rfl ?_
  refine KV_iv (as := [vI 0]) (rest := []) (pc' := 75) rfl rfl rfl (kA hA 10 4 ⟨rfl, rfl⟩) rfl (Nat.le_of_ble_eq_true rfl) rfl (CV_mono h ?_)
  intro I12 D13 h
  refine R_aload_n (pc' := 76) rfl rfl rfl ?_
  refine K_getR (pc' := 79) rfl rfl rfl (kA hA 0 6 ⟨rfl, rfl⟩) (gA he hA 0 6 14 ⟨⟨rfl, rfl⟩, rfl, rfl⟩) ?_
  refine R_iconst (pc' := 80) rfl rfl ?_
  refine KV_iv (as := [vI 0]) (rest := []) (pc' := 83) rfl rfl rfl (kA hA 14 4 ⟨rfl, rfl⟩) rfl (Nat.le_of_ble_eq_true rfl) rfl (CV_mono h ?_)
  intro I15 D16 h
  refine R_iconst (pc' := 84) rfl rfl ?_
  refine R_istore_n (ls' := [vR (some A), vR (some q1), vI x2, vI 0]) (pc' := 85) rfl rfl rfl ?_
  exact R_forget (ls' := [vR (some A), vJ, vJ, vI 0]) ⟨Or.inl rfl, Or.inr rfl, Or.inr rfl, Or.inl rfl, trivial⟩ h
theorem S25_85 {e : En} {I : HI} {D : HD} {Q : HI → HD → Prop} {A : Nat} {x3 : Int} (he : HS e) (hA : isA A)
    (h : (((61 : Int) ≤ x3 → CI 58 [vR (some 1), vI 0, vS 14] e (uI (uI (uI (uI (uI I A 11 0) A 12 0) A 13 0) A 14 0) A 15 0) D (fun z1 I2 D3 => ((¬ z1 = 0 → Q I2 D3) ∧ (¬ (¬ z1 = 0) → CV 26 [vR (some A), vI 9, vI 0] e I2 D3 (fun I5 D6 => Q I5 D6))))) ∧ (¬ ((61 : Int) ≤ x3) → (0 ≤ x3 ∧ x3 < 61) ∧ (K0 (D (A + 21) (x3.toNat)) = 3) ∧ (-2147483648 ≤ (x3 + 1) ∧ (x3 + 1) < 2147483648) ∧ RV 25 85 [vR (some A), vJ, vJ, vI (x3 + 1)] [] e (uI I (D (A + 21) (x3.toNat)) 1 0) D Q))) :
    RV 25 85 [vR (some A), vJ, vJ, vI x3] [] e I D Q := by
  show Run 25 85 [vR (some A), vJ, vJ, vI x3] [] (mk e I D) (pV e Q)
  refine R_iload_n (pc' := 86) rfl rfl rfl ?_
  refine R_aload_n (pc' := 87) rfl rfl rfl ?_
  refine K_getR (pc' := 90) rfl rfl rfl (kA hA 0 6 ⟨rfl, rfl⟩) (gA he hA 0 9 21 ⟨⟨rfl, rfl⟩, rfl, rfl⟩) ?_
  refine K_alen (pc' := 91) rfl rfl 4 (kA hA 21 25 ⟨rfl, rfl⟩) (by decide) (lA hA 21 61 ⟨rfl, rfl⟩) ?_
  refine R_icge (pc' := 94) rfl rfl (fun hc => ?_) (fun hc => ?_)
  · replace h := h.1 hc
    refine R_aload_n (pc' := 111) rfl rfl rfl ?_
    refine R_iconst (pc' := 112) rfl rfl ?_
    refine K_putI (pc' := 115) rfl rfl (by decide) (fun h => absurd h (by decide)) (kA hA 0 6 ⟨rfl, rfl⟩) ?_
    refine R_aload_n (pc' := 116) rfl rfl rfl ?_
    refine R_iconst (pc' := 117) rfl rfl ?_
    refine K_putI (pc' := 120) rfl rfl (by decide) (fun h => absurd h (by decide)) (kA hA 0 6 ⟨rfl, rfl⟩) ?_
    refine R_aload_n (pc' := 121) rfl rfl rfl ?_
    refine R_iconst (pc' := 122) rfl rfl ?_
    refine K_putI (pc' := 125) rfl rfl (by decide) (fun h => absurd h (by decide)) (kA hA 0 6 ⟨rfl, rfl⟩) ?_
    refine R_aload_n (pc' := 126) rfl rfl rfl ?_
    refine R_iconst (pc' := 127) rfl rfl ?_
    refine K_putI (pc' := 130) rfl rfl (by decide) (fun h => absurd h (by decide)) (kA hA 0 6 ⟨rfl, rfl⟩) ?_
    refine R_aload_n (pc' := 131) rfl rfl rfl ?_
    refine R_iconst (pc' := 132) rfl rfl ?_
    refine K_putI (pc' := 135) rfl rfl (by decide) (fun h => absurd h (by decide)) (kA hA 0 6 ⟨rfl, rfl⟩) ?_
    refine R_aload_n (pc' := 136) rfl rfl rfl ?_
    refine K_getR (pc' := 139) rfl rfl rfl (kA hA 0 6 ⟨rfl, rfl⟩) (gA1 he hA 0 ⟨⟨rfl, rfl⟩, rfl, rfl⟩) ?_
    refine R_iconst (pc' := 140) rfl rfl ?_
    refine R_ldcS (pc' := 142) rfl rfl ?_
    refine KI_iv (as := [vI 0, vS 14]) (rest := []) (pc' := 145) rfl rfl rfl rfl rfl (Nat.le_of_ble_eq_true rfl) rfl (CI_mono h ?_)
    intro z1 I2 D3 h
    refine R_ifne (pc' := 148) rfl rfl (fun hc => ?_) (fun hc => ?_)
    · replace h := h.1 hc
      exact R_vret rfl rfl ⟨_, _, rfl, rfl, h⟩
    · replace h := h.2 hc
      refine R_aload_n (pc' := 149) rfl rfl rfl ?_
      refine R_bipush (pc' := 151) rfl rfl ?_
      refine R_iconst (pc' := 152) rfl rfl ?_
      refine KV_iv (as := [vI 9, vI 0]) (rest := []) (pc' := 155) rfl rfl rfl (kA hA 0 6 ⟨rfl, rfl⟩) rfl (Nat.le_of_ble_eq_true rfl) rfl (CV_mono h ?_)
      intro I5 D6 h
      exact R_vret rfl rfl ⟨_, _, rfl, rfl, h⟩
  · replace h := h.2 hc
    refine R_aload_n (pc' := 95) rfl rfl rfl ?_
    refine K_getR (pc' := 98) rfl rfl rfl (kA hA 0 6 ⟨rfl, rfl⟩) (gA he hA 0 9 21 ⟨⟨rfl, rfl⟩, rfl, rfl⟩) ?_
    refine R_iload_n (pc' := 99) rfl rfl rfl ?_
    have g7 := h.1
    replace h := h.2
    refine K_aald (pc' := 100) rfl rfl (kA hA 21 25 ⟨rfl, rfl⟩) g7.1 (by rw [(lA hA 21 61 ⟨rfl, rfl⟩)]; exact g7.2) (dO hA (by have := g7.1; have := g7.2; omega)) ?_
    refine R_iconst (pc' := 101) rfl rfl ?_
    have g8 := h.1
    replace h := h.2
    refine K_putIN (pc' := 104) rfl rfl (by decide) (fun _ => Or.inl rfl) g8 ?_
    have g9 := h.1
    replace h := h.2
    refine R_iinc (ls' := [vR (some A), vJ, vJ, vI (x3 + 1)]) (pc' := 107) rfl rfl rfl g9 rfl ?_
    refine R_goto rfl ?_
    exact h
/-! 26 X5_mend -/
theorem S26 {e : En} {I : HI} {D : HD} {Q : HI → HD → Prop} {A : Nat} {x1 : Int} {x2 : Int} (he : HS e) (hA : isA A)
    (h : CV 11 [vR (some (A + 10)), vI x1, vI x2, vI x2] e I D (fun I2 D3 => Q I2 D3)) :
    CV 26 [vR (some A), vI x1, vI x2] e I D Q := by
  refine Call_run (ls := [vR (some A), vI x1, vI x2]) rfl rfl ?_
  refine R_aload_n (pc' := 1) rfl rfl rfl ?_
  refine K_getR (pc' := 4) rfl rfl rfl (kA hA 0 6 ⟨rfl, rfl⟩) (gA he hA 0 5 10 ⟨⟨rfl, rfl⟩, rfl, rfl⟩) ?_
  refine R_iload_n (pc' := 5) rfl rfl rfl ?_
  refine R_iload_n (pc' := 6) rfl rfl rfl ?_
  refine R_iload_n (pc' := 7) rfl rfl rfl ?_
  refine KV_iv (as := [vI x1, vI x2, vI x2]) (rest := []) (pc' := 10) rfl rfl rfl (kA hA 10 4 ⟨rfl, rfl⟩) rfl (Nat.le_of_ble_eq_true rfl) rfl (CV_mono h ?_)
  intro I2 D3 h
  exact R_vret rfl rfl ⟨_, _, rfl, rfl, h⟩
/-! 27 X5_takeObject -/
theorem S27 {e : En} {I : HI} {D : HD} {Q : Int → HI → HD → Prop} {A : Nat} {x1 : Int} (he : HS e) (hA : isA A)
    (h : CI 56 [vR (some 1), vI x1] e I D (fun z1 I2 D3 => CI 51 [vR (some 1), vI z1] e I2 D3 (fun z4 I5 D6 => (K0 (D6 A 10) = 3) ∧ CV 9 [vR (some (D6 A 10)), vI x1, vI z1, vI (I5 (A + 2) 3), vI (I5 (A + 6) 3)] e I5 D6 (fun I9 D10 => CI 53 [vR (some 1), vI z4] e I9 D10 (fun z11 I12 D13 => ((¬ z11 = 9 → RI 27 158 [vR (some A), vI x1, vJ, vI z4, vJ] [] e I12 D13 Q) ∧ (¬ (¬ z11 = 9) → (K0 (D13 A 10) = 3) ∧ CI 4 [vR (some (A + 18)), vR (some ((D13 A 10) + 1)), vI z4, vI 1] e I12 D13 (fun z15 I16 D17 => CI 51 [vR (some 1), vI z15] e I16 D17 (fun z18 I19 D20 => (K0 (D20 A 10) = 3) ∧ (((I19 ((D20 A 10) + 1) 2) = 0 → RI 27 108 [vR (some A), vI x1, vJ, vI z18, vJ] [] e I19 D20 Q) ∧ (¬ ((I19 ((D20 A 10) + 1) 2) = 0) → CI 57 [vR (some 1), vI z18, vS 23] e I19 D20 (fun z22 I23 D24 => ((z22 = 0 → RI 27 108 [vR (some A), vI x1, vJ, vI z18, vJ] [] e I23 D24 Q) ∧ (¬ (z22 = 0) → RI 27 109 [vR (some A), vI x1, vJ, vI z18, vJ] [vI 1] e I23 D24 Q)))))))))))))) :
    CI 27 [vR (some A), vI x1] e I D Q := by
  refine Call_run (ls := [vR (some A), vI x1, vJ, vJ, vJ]) rfl rfl ?_
  refine R_aload_n (pc' := 1) rfl rfl rfl ?_
  refine K_getR (pc' := 4) rfl rfl rfl (kA hA 0 6 ⟨rfl, rfl⟩) (gA1 he hA 0 ⟨⟨rfl, rfl⟩, rfl, rfl⟩) ?_
  refine R_iload_n (pc' := 5) rfl rfl rfl ?_
  refine KI_iv (as := [vI x1]) (rest := []) (pc' := 8) rfl rfl rfl rfl rfl (Nat.le_of_ble_eq_true rfl) rfl (CI_mono h ?_)
  intro z1 I2 D3 h
  refine R_istore_n (ls' := [vR (some A), vI x1, vI z1, vJ, vJ]) (pc' := 9) rfl rfl rfl ?_
  refine R_aload_n (pc' := 10) rfl rfl rfl ?_
  refine K_getR (pc' := 13) rfl rfl rfl (kA hA 0 6 ⟨rfl, rfl⟩) (gA1 he hA 0 ⟨⟨rfl, rfl⟩, rfl, rfl⟩) ?_
  refine R_iload_n (pc' := 14) rfl rfl rfl ?_
  refine KI_iv (as := [vI z1]) (rest := []) (pc' := 17) rfl rfl rfl rfl rfl (Nat.le_of_ble_eq_true rfl) rfl (CI_mono h ?_)
  intro z4 I5 D6 h
  refine R_istore_n (ls' := [vR (some A), vI x1, vI z1, vI z4, vJ]) (pc' := 18) rfl rfl rfl ?_
  refine R_aload_n (pc' := 19) rfl rfl rfl ?_
  refine K_getR (pc' := 22) rfl rfl rfl (kA hA 0 6 ⟨rfl, rfl⟩) (dy_at (dA hA 0 10 ⟨rfl, rfl⟩)) ?_
  refine R_iload_n (pc' := 23) rfl rfl rfl ?_
  refine R_iload_n (pc' := 24) rfl rfl rfl ?_
  refine R_aload_n (pc' := 25) rfl rfl rfl ?_
  refine K_getR (pc' := 28) rfl rfl rfl (kA hA 0 6 ⟨rfl, rfl⟩) (gA he hA 0 3 2 ⟨⟨rfl, rfl⟩, rfl, rfl⟩) ?_
  refine K_getIN (pc' := 31) rfl rfl (by decide) (kA hA 2 4 ⟨rfl, rfl⟩) rfl ?_
  refine R_aload_n (pc' := 32) rfl rfl rfl ?_
  refine K_getR (pc' := 35) rfl rfl rfl (kA hA 0 6 ⟨rfl, rfl⟩) (gA he hA 0 4 6 ⟨⟨rfl, rfl⟩, rfl, rfl⟩) ?_
  refine K_getIN (pc' := 38) rfl rfl (by decide) (kA hA 6 4 ⟨rfl, rfl⟩) rfl ?_
  have g7 := h.1
  replace h := h.2
  refine KV_iv (as := [vI x1, vI z1, vI (I5 (A + 2) 3), vI (I5 (A + 6) 3)]) (rest := []) (pc' := 41) rfl rfl rfl g7 rfl (Nat.le_of_ble_eq_true rfl) rfl (CV_mono h ?_)
  intro I9 D10 h
  refine R_aload_n (pc' := 42) rfl rfl rfl ?_
  refine K_getR (pc' := 45) rfl rfl rfl (kA hA 0 6 ⟨rfl, rfl⟩) (gA1 he hA 0 ⟨⟨rfl, rfl⟩, rfl, rfl⟩) ?_
  refine R_iload_n (pc' := 46) rfl rfl rfl ?_
  refine KI_iv (as := [vI z4]) (rest := []) (pc' := 49) rfl rfl rfl rfl rfl (Nat.le_of_ble_eq_true rfl) rfl (CI_mono h ?_)
  intro z11 I12 D13 h
  refine R_bipush (pc' := 51) rfl rfl ?_
  refine R_icne (pc' := 54) rfl rfl (fun hc => ?_) (fun hc => ?_)
  · replace h := h.1 hc
    exact R_forget (ls' := [vR (some A), vI x1, vJ, vI z4, vJ]) ⟨Or.inl rfl, Or.inl rfl, Or.inr rfl, Or.inl rfl, Or.inl rfl, trivial⟩ h
  · replace h := h.2 hc
    refine R_aload_n (pc' := 55) rfl rfl rfl ?_
    refine K_getR (pc' := 58) rfl rfl rfl (kA hA 0 6 ⟨rfl, rfl⟩) (gA1 he hA 0 ⟨⟨rfl, rfl⟩, rfl, rfl⟩) ?_
    refine R_aload_n (pc' := 59) rfl rfl rfl ?_
    refine K_getR (pc' := 62) rfl rfl rfl (kA hA 0 6 ⟨rfl, rfl⟩) (gA he hA 0 7 18 ⟨⟨rfl, rfl⟩, rfl, rfl⟩) ?_
    refine R_aload_n (pc' := 63) rfl rfl rfl ?_
    refine K_getR (pc' := 66) rfl rfl rfl (kA hA 0 6 ⟨rfl, rfl⟩) (dy_at (dA hA 0 10 ⟨rfl, rfl⟩)) ?_
    have g14 := h.1
    replace h := h.2
    refine K_getRN (pc' := 69) rfl rfl rfl g14 (gF0 he g14) ?_
    refine R_iload_n (pc' := 70) rfl rfl rfl ?_
    refine R_iconst (pc' := 71) rfl rfl ?_
    refine KI_iv (as := [vR (some ((D13 A 10) + 1)), vI z4, vI 1]) (rest := [vR (some 1)]) (pc' := 74) rfl rfl rfl (kA hA 18 2 ⟨rfl, rfl⟩) rfl (Nat.le_of_ble_eq_true rfl) rfl (CI_mono h ?_)
    intro z15 I16 D17 h
    refine KI_iv (as := [vI z15]) (rest := []) (pc' := 77) rfl rfl rfl rfl rfl (Nat.le_of_ble_eq_true rfl) rfl (CI_mono h ?_)
    intro z18 I19 D20 h
    refine R_istore_n (ls' := [vR (some A), vI x1, vI z1, vI z18, vJ]) (pc' := 78) rfl rfl rfl ?_
    refine R_aload_n (pc' := 79) rfl rfl rfl ?_
    refine K_getR (pc' := 82) rfl rfl rfl (kA hA 0 6 ⟨rfl, rfl⟩) (dy_at (dA hA 0 10 ⟨rfl, rfl⟩)) ?_
    have g21 := h.1
    replace h := h.2
    refine K_getRN (pc' := 85) rfl rfl rfl g21 (gF0 he g21) ?_
    refine K_getIN (pc' := 88) rfl rfl (by decide) (kF g21).1 rfl ?_
    refine R_ifeq (pc' := 91) rfl rfl (fun hc => ?_) (fun hc => ?_)
    · replace h := h.1 hc
      exact R_forget (ls' := [vR (some A), vI x1, vJ, vI z18, vJ]) ⟨Or.inl rfl, Or.inl rfl, Or.inr rfl, Or.inl rfl, Or.inl rfl, trivial⟩ h
    · replace h := h.2 hc
      refine R_aload_n (pc' := 92) rfl rfl rfl ?_
      refine K_getR (pc' := 95) rfl rfl rfl (kA hA 0 6 ⟨rfl, rfl⟩) (gA1 he hA 0 ⟨⟨rfl, rfl⟩, rfl, rfl⟩) ?_
      refine R_iload_n (pc' := 96) rfl rfl rfl ?_
      refine R_ldcS (pc' := 98) rfl rfl ?_
      refine KI_iv (as := [vI z18, vS 23]) (rest := []) (pc' := 101) rfl rfl rfl rfl rfl (Nat.le_of_ble_eq_true rfl) rfl (CI_mono h ?_)
      intro z22 I23 D24 h
      refine R_ifeq (pc' := 104) rfl rfl (fun hc => ?_) (fun hc => ?_)
      · replace h := h.1 hc
        exact R_forget (ls' := [vR (some A), vI x1, vJ, vI z18, vJ]) ⟨Or.inl rfl, Or.inl rfl, Or.inr rfl, Or.inl rfl, Or.inl rfl, trivial⟩ h
      · replace h := h.2 hc
        refine R_iconst (pc' := 105) rfl rfl ?_
        refine R_goto rfl ?_
        exact R_forget (ls' := [vR (some A), vI x1, vJ, vI z18, vJ]) ⟨Or.inl rfl, Or.inl rfl, Or.inr rfl, Or.inl rfl, Or.inl rfl, trivial⟩ h
theorem S27_108 {e : En} {I : HI} {D : HD} {Q : Int → HI → HD → Prop} {A : Nat} {x1 : Int} {x3 : Int} (he : HS e) (hA : isA A)
    (h : RI 27 109 [vR (some A), vI x1, vJ, vI x3, vJ] [vI 0] e I D Q) :
    RI 27 108 [vR (some A), vI x1, vJ, vI x3, vJ] [] e I D Q := by
  show Run 27 108 [vR (some A), vI x1, vJ, vI x3, vJ] [] (mk e I D) (pI e Q)
  refine R_iconst (pc' := 109) rfl rfl ?_
  exact h
theorem S27_109 {e : En} {I : HI} {D : HD} {Q : Int → HI → HD → Prop} {A : Nat} {x1 : Int} {x3 : Int} {y0 : Int} (he : HS e) (hA : isA A)
    (h : ((y0 = 0 → RI 27 158 [vR (some A), vI x1, vJ, vI x3, vJ] [] e I D Q) ∧ (¬ (y0 = 0) → CI 52 [vR (some 1), vI x3] e I D (fun z1 I2 D3 => CI 50 [vR (some 1), vI z1] e I2 D3 (fun z4 I5 D6 => ((¬ z4 = 10 → RI 27 158 [vR (some A), vI x1, vJ, vI x3, vJ] [] e I5 D6 Q) ∧ (¬ (¬ z4 = 10) → CI 52 [vR (some 1), vI x3] e I5 D6 (fun z7 I8 D9 => (-2147483648 ≤ (z7 + 1) ∧ (z7 + 1) < 2147483648) ∧ CI 29 [vR (some A), vI (z7 + 1)] e I8 D9 (fun z11 I12 D13 => CI 51 [vR (some 1), vI z11] e I12 D13 (fun z14 I15 D16 => RI 27 158 [vR (some A), vI x1, vJ, vI z14, vJ] [] e I15 D16 Q)))))))))) :
    RI 27 109 [vR (some A), vI x1, vJ, vI x3, vJ] [vI y0] e I D Q := by
  show Run 27 109 [vR (some A), vI x1, vJ, vI x3, vJ] [vI y0] (mk e I D) (pI e Q)
  refine R_istore (ls' := [vR (some A), vI x1, vJ, vI x3, vI y0]) (pc' := 111) rfl rfl rfl ?_
  refine R_iload (pc' := 113) rfl rfl rfl ?_
  refine R_ifeq (pc' := 116) rfl rfl (fun hc => ?_) (fun hc => ?_)
  · replace h := h.1 hc
    exact R_forget (ls' := [vR (some A), vI x1, vJ, vI x3, vJ]) ⟨Or.inl rfl, Or.inl rfl, Or.inl rfl, Or.inl rfl, Or.inr rfl, trivial⟩ h
  · replace h := h.2 hc
    refine R_aload_n (pc' := 117) rfl rfl rfl ?_
    refine K_getR (pc' := 120) rfl rfl rfl (kA hA 0 6 ⟨rfl, rfl⟩) (gA1 he hA 0 ⟨⟨rfl, rfl⟩, rfl, rfl⟩) ?_
    refine R_aload_n (pc' := 121) rfl rfl rfl ?_
    refine K_getR (pc' := 124) rfl rfl rfl (kA hA 0 6 ⟨rfl, rfl⟩) (gA1 he hA 0 ⟨⟨rfl, rfl⟩, rfl, rfl⟩) ?_
    refine R_iload_n (pc' := 125) rfl rfl rfl ?_
    refine KI_iv (as := [vI x3]) (rest := [vR (some 1)]) (pc' := 128) rfl rfl rfl rfl rfl (Nat.le_of_ble_eq_true rfl) rfl (CI_mono h ?_)
    intro z1 I2 D3 h
    refine KI_iv (as := [vI z1]) (rest := []) (pc' := 131) rfl rfl rfl rfl rfl (Nat.le_of_ble_eq_true rfl) rfl (CI_mono h ?_)
    intro z4 I5 D6 h
    refine R_bipush (pc' := 133) rfl rfl ?_
    refine R_icne (pc' := 136) rfl rfl (fun hc => ?_) (fun hc => ?_)
    · replace h := h.1 hc
      exact R_forget (ls' := [vR (some A), vI x1, vJ, vI x3, vJ]) ⟨Or.inl rfl, Or.inl rfl, Or.inl rfl, Or.inl rfl, Or.inr rfl, trivial⟩ h
    · replace h := h.2 hc
      refine R_aload_n (pc' := 137) rfl rfl rfl ?_
      refine K_getR (pc' := 140) rfl rfl rfl (kA hA 0 6 ⟨rfl, rfl⟩) (gA1 he hA 0 ⟨⟨rfl, rfl⟩, rfl, rfl⟩) ?_
      refine R_aload_n (pc' := 141) rfl rfl rfl ?_
      refine R_aload_n (pc' := 142) rfl rfl rfl ?_
      refine K_getR (pc' := 145) rfl rfl rfl (kA hA 0 6 ⟨rfl, rfl⟩) (gA1 he hA 0 ⟨⟨rfl, rfl⟩, rfl, rfl⟩) ?_
      refine R_iload_n (pc' := 146) rfl rfl rfl ?_
      refine KI_iv (as := [vI x3]) (rest := [vR (some A), vR (some 1)]) (pc' := 149) rfl rfl rfl rfl rfl (Nat.le_of_ble_eq_true rfl) rfl (CI_mono h ?_)
      intro z7 I8 D9 h
      refine R_iconst (pc' := 150) rfl rfl ?_
      have g10 := h.1
      replace h := h.2
      refine R_iadd (pc' := 151) rfl rfl g10 ?_
      refine KI_iv (as := [vI (z7 + 1)]) (rest := [vR (some 1)]) (pc' := 154) rfl rfl rfl (kA hA 0 6 ⟨rfl, rfl⟩) rfl (Nat.le_of_ble_eq_true rfl) rfl (CI_mono h ?_)
      intro z11 I12 D13 h
      refine KI_iv (as := [vI z11]) (rest := []) (pc' := 157) rfl rfl rfl rfl rfl (Nat.le_of_ble_eq_true rfl) rfl (CI_mono h ?_)
      intro z14 I15 D16 h
      refine R_istore_n (ls' := [vR (some A), vI x1, vJ, vI z14, vI y0]) (pc' := 158) rfl rfl rfl ?_
      exact R_forget (ls' := [vR (some A), vI x1, vJ, vI z14, vJ]) ⟨Or.inl rfl, Or.inl rfl, Or.inl rfl, Or.inl rfl, Or.inr rfl, trivial⟩ h
theorem S27_158 {e : En} {I : HI} {D : HD} {Q : Int → HI → HD → Prop} {A : Nat} {x1 : Int} {x3 : Int} (he : HS e) (hA : isA A)
    (h : RI 27 161 [vR (some A), vI x1, vJ, vI x3, vI 0] [] e I D Q) :
    RI 27 158 [vR (some A), vI x1, vJ, vI x3, vJ] [] e I D Q := by
  show Run 27 158 [vR (some A), vI x1, vJ, vI x3, vJ] [] (mk e I D) (pI e Q)
  refine R_iconst (pc' := 159) rfl rfl ?_
  refine R_istore (ls' := [vR (some A), vI x1, vJ, vI x3, vI 0]) (pc' := 161) rfl rfl rfl ?_
  exact h
theorem S27_161 {e : En} {I : HI} {D : HD} {Q : Int → HI → HD → Prop} {A : Nat} {x1 : Int} {x3 : Int} {x4 : Int} (he : HS e) (hA : isA A)
    (h : (((3000 : Int) < x4 → RI 27 198 [vR (some A), vI x1, vJ, vI x3, vJ] [] e I D Q) ∧ (¬ ((3000 : Int) < x4) → CI 53 [vR (some 1), vI x3] e I D (fun z1 I2 D3 => CI 28 [vI z1] e I2 D3 (fun z4 I5 D6 => ((¬ z4 = 0 → RI 27 198 [vR (some A), vI x1, vJ, vI x3, vJ] [] e I5 D6 Q) ∧ (¬ (¬ z4 = 0) → CI 55 [vR (some 1), vI x3] e I5 D6 (fun z7 I8 D9 => (-2147483648 ≤ (x4 + 1) ∧ (x4 + 1) < 2147483648) ∧ RI 27 161 [vR (some A), vI x1, vJ, vI z7, vI (x4 + 1)] [] e I8 D9 Q)))))))) :
    RI 27 161 [vR (some A), vI x1, vJ, vI x3, vI x4] [] e I D Q := by
  show Run 27 161 [vR (some A), vI x1, vJ, vI x3, vI x4] [] (mk e I D) (pI e Q)
  refine R_iload (pc' := 163) rfl rfl rfl ?_
  refine R_sipush (pc' := 166) rfl rfl ?_
  refine R_icgt (pc' := 169) rfl rfl (fun hc => ?_) (fun hc => ?_)
  · replace h := h.1 hc
    exact R_forget (ls' := [vR (some A), vI x1, vJ, vI x3, vJ]) ⟨Or.inl rfl, Or.inl rfl, Or.inl rfl, Or.inl rfl, Or.inr rfl, trivial⟩ h
  · replace h := h.2 hc
    refine R_aload_n (pc' := 170) rfl rfl rfl ?_
    refine K_getR (pc' := 173) rfl rfl rfl (kA hA 0 6 ⟨rfl, rfl⟩) (gA1 he hA 0 ⟨⟨rfl, rfl⟩, rfl, rfl⟩) ?_
    refine R_iload_n (pc' := 174) rfl rfl rfl ?_
    refine KI_iv (as := [vI x3]) (rest := []) (pc' := 177) rfl rfl rfl rfl rfl (Nat.le_of_ble_eq_true rfl) rfl (CI_mono h ?_)
    intro z1 I2 D3 h
    refine KI_st (as := [vI z1]) (rest := []) (pc' := 180) rfl rfl rfl (Nat.le_of_ble_eq_true rfl) rfl (CI_mono h ?_)
    intro z4 I5 D6 h
    refine R_ifne (pc' := 183) rfl rfl (fun hc => ?_) (fun hc => ?_)
    · replace h := h.1 hc
      exact R_forget (ls' := [vR (some A), vI x1, vJ, vI x3, vJ]) ⟨Or.inl rfl, Or.inl rfl, Or.inl rfl, Or.inl rfl, Or.inr rfl, trivial⟩ h
    · replace h := h.2 hc
      refine R_aload_n (pc' := 184) rfl rfl rfl ?_
      refine K_getR (pc' := 187) rfl rfl rfl (kA hA 0 6 ⟨rfl, rfl⟩) (gA1 he hA 0 ⟨⟨rfl, rfl⟩, rfl, rfl⟩) ?_
      refine R_iload_n (pc' := 188) rfl rfl rfl ?_
      refine KI_iv (as := [vI x3]) (rest := []) (pc' := 191) rfl rfl rfl rfl rfl (Nat.le_of_ble_eq_true rfl) rfl (CI_mono h ?_)
      intro z7 I8 D9 h
      refine R_istore_n (ls' := [vR (some A), vI x1, vJ, vI z7, vI x4]) (pc' := 192) rfl rfl rfl ?_
      have g10 := h.1
      replace h := h.2
      refine R_iinc (ls' := [vR (some A), vI x1, vJ, vI z7, vI (x4 + 1)]) (pc' := 195) rfl rfl rfl g10 rfl ?_
      refine R_goto rfl ?_
      exact h
theorem S27_198 {e : En} {I : HI} {D : HD} {Q : Int → HI → HD → Prop} {A : Nat} {x1 : Int} {x3 : Int} (he : HS e) (hA : isA A)
    (h : CI 54 [vR (some 1), vI x1] e I D (fun z1 I2 D3 => CV 32 [vR (some A), vI z1, vI x3] e I2 D3 (fun I5 D6 => CI 53 [vR (some 1), vI x3] e I5 D6 (fun z7 I8 D9 => ((¬ z7 = 6 → Q x3 I8 D9) ∧ (¬ (¬ z7 = 6) → CI 55 [vR (some 1), vI x3] e I8 D9 (fun z10 I11 D12 => Q z10 I11 D12))))))) :
    RI 27 198 [vR (some A), vI x1, vJ, vI x3, vJ] [] e I D Q := by
  show Run 27 198 [vR (some A), vI x1, vJ, vI x3, vJ] [] (mk e I D) (pI e Q)
  refine R_aload_n (pc' := 199) rfl rfl rfl ?_
  refine R_aload_n (pc' := 200) rfl rfl rfl ?_
  refine K_getR (pc' := 203) rfl rfl rfl (kA hA 0 6 ⟨rfl, rfl⟩) (gA1 he hA 0 ⟨⟨rfl, rfl⟩, rfl, rfl⟩) ?_
  refine R_iload_n (pc' := 204) rfl rfl rfl ?_
  refine KI_iv (as := [vI x1]) (rest := [vR (some A)]) (pc' := 207) rfl rfl rfl rfl rfl (Nat.le_of_ble_eq_true rfl) rfl (CI_mono h ?_)
  intro z1 I2 D3 h
  refine R_iload_n (pc' := 208) rfl rfl rfl ?_
  refine KV_iv (as := [vI z1, vI x3]) (rest := []) (pc' := 211) rfl rfl rfl (kA hA 0 6 ⟨rfl, rfl⟩) rfl (Nat.le_of_ble_eq_true rfl) rfl (CV_mono h ?_)
  intro I5 D6 h
  refine R_aload_n (pc' := 212) rfl rfl rfl ?_
  refine K_getR (pc' := 215) rfl rfl rfl (kA hA 0 6 ⟨rfl, rfl⟩) (gA1 he hA 0 ⟨⟨rfl, rfl⟩, rfl, rfl⟩) ?_
  refine R_iload_n (pc' := 216) rfl rfl rfl ?_
  refine KI_iv (as := [vI x3]) (rest := []) (pc' := 219) rfl rfl rfl rfl rfl (Nat.le_of_ble_eq_true rfl) rfl (CI_mono h ?_)
  intro z7 I8 D9 h
  refine R_bipush (pc' := 221) rfl rfl ?_
  refine R_icne (pc' := 224) rfl rfl (fun hc => ?_) (fun hc => ?_)
  · replace h := h.1 hc
    refine R_iload_n (pc' := 236) rfl rfl rfl ?_
    exact R_iret rfl rfl ⟨_, _, _, rfl, rfl, h⟩
  · replace h := h.2 hc
    refine R_aload_n (pc' := 225) rfl rfl rfl ?_
    refine K_getR (pc' := 228) rfl rfl rfl (kA hA 0 6 ⟨rfl, rfl⟩) (gA1 he hA 0 ⟨⟨rfl, rfl⟩, rfl, rfl⟩) ?_
    refine R_iload_n (pc' := 229) rfl rfl rfl ?_
    refine KI_iv (as := [vI x3]) (rest := []) (pc' := 232) rfl rfl rfl rfl rfl (Nat.le_of_ble_eq_true rfl) rfl (CI_mono h ?_)
    intro z10 I11 D12 h
    refine R_goto rfl ?_
    exact R_iret rfl rfl ⟨_, _, _, rfl, rfl, h⟩
/-! 28 X5_isEnd -/
theorem S28 {e : En} {I : HI} {D : HD} {Q : Int → HI → HD → Prop} {x0 : Int} (he : HS e)
    (h : ((x0 = 0 → RI 28 11 [vJ] [] e I D Q) ∧ (¬ (x0 = 0) → CI 84 [vI x0] e I D (fun z1 I2 D3 => ((z1 = 0 → Q 0 I2 D3) ∧ (¬ (z1 = 0) → RI 28 11 [vJ] [] e I2 D3 Q)))))) :
    CI 28 [vI x0] e I D Q := by
  refine Call_run (ls := [vI x0]) rfl rfl ?_
  refine R_iload_n (pc' := 1) rfl rfl rfl ?_
  refine R_ifeq (pc' := 4) rfl rfl (fun hc => ?_) (fun hc => ?_)
  · replace h := h.1 hc
    exact R_forget (ls' := [vJ]) ⟨Or.inr rfl, trivial⟩ h
  · replace h := h.2 hc
    refine R_iload_n (pc' := 5) rfl rfl rfl ?_
    refine KI_stN (as := [vI x0]) (rest := []) (pc' := 8) rfl rfl rfl rfl (Nat.le_of_ble_eq_true rfl) rfl (CI_mono h ?_)
    intro z1 I2 D3 h
    refine R_ifeq (pc' := 11) rfl rfl (fun hc => ?_) (fun hc => ?_)
    · replace h := h.1 hc
      refine R_iconst (pc' := 16) rfl rfl ?_
      exact R_zret rfl rfl (Or.inl rfl) ⟨_, _, _, rfl, rfl, h⟩
    · replace h := h.2 hc
      exact R_forget (ls' := [vJ]) ⟨Or.inr rfl, trivial⟩ h
theorem S28_11 {e : En} {I : HI} {D : HD} {Q : Int → HI → HD → Prop} (he : HS e)
    (h : Q 1 I D) :
    RI 28 11 [vJ] [] e I D Q := by
  show Run 28 11 [vJ] [] (mk e I D) (pI e Q)
  refine R_iconst (pc' := 12) rfl rfl ?_
  refine R_goto rfl ?_
  exact R_zret rfl rfl (Or.inr rfl) ⟨_, _, _, rfl, rfl, h⟩
/-! 29 X5_takeStream -/
theorem S29 {e : En} {I : HI} {D : HD} {Q : Int → HI → HD → Prop} {A : Nat} {x1 : Int} (he : HS e) (hA : isA A)
    (h : (K0 (D A 10) = 3) ∧ CI 30 [vR (some A), vI x1] e (uI (uI I (D A 10) 6 1) (D A 10) 9 x1) D (fun z2 I3 D4 => ((z2 < 0 → RI 29 35 [vR (some A), vI x1, vI z2, vJ] [vI 0, vR (some (D4 A 10))] e I3 D4 Q) ∧ (¬ (z2 < 0) → RI 29 35 [vR (some A), vI x1, vI z2, vJ] [vI 1, vR (some (D4 A 10))] e I3 D4 Q)))) :
    CI 29 [vR (some A), vI x1] e I D Q := by
  refine Call_run (ls := [vR (some A), vI x1, vJ, vJ]) rfl rfl ?_
  refine R_aload_n (pc' := 1) rfl rfl rfl ?_
  refine K_getR (pc' := 4) rfl rfl rfl (kA hA 0 6 ⟨rfl, rfl⟩) (dy_at (dA hA 0 10 ⟨rfl, rfl⟩)) ?_
  refine R_iconst (pc' := 5) rfl rfl ?_
  have g1 := h.1
  replace h := h.2
  refine K_putIN (pc' := 8) rfl rfl (by decide) (fun _ => Or.inr rfl) g1 ?_
  refine R_aload_n (pc' := 9) rfl rfl rfl ?_
  refine K_getR (pc' := 12) rfl rfl rfl (kA hA 0 6 ⟨rfl, rfl⟩) (dy_at (dA hA 0 10 ⟨rfl, rfl⟩)) ?_
  refine R_iload_n (pc' := 13) rfl rfl rfl ?_
  refine K_putIN (pc' := 16) rfl rfl (by decide) (fun h => absurd h (by decide)) g1 ?_
  refine R_aload_n (pc' := 17) rfl rfl rfl ?_
  refine R_iload_n (pc' := 18) rfl rfl rfl ?_
  refine KI_iv (as := [vI x1]) (rest := []) (pc' := 21) rfl rfl rfl (kA hA 0 6 ⟨rfl, rfl⟩) rfl (Nat.le_of_ble_eq_true rfl) rfl (CI_mono h ?_)
  intro z2 I3 D4 h
  refine R_istore_n (ls' := [vR (some A), vI x1, vI z2, vJ]) (pc' := 22) rfl rfl rfl ?_
  refine R_aload_n (pc' := 23) rfl rfl rfl ?_
  refine K_getR (pc' := 26) rfl rfl rfl (kA hA 0 6 ⟨rfl, rfl⟩) (dy_at (dA hA 0 10 ⟨rfl, rfl⟩)) ?_
  refine R_iload_n (pc' := 27) rfl rfl rfl ?_
  refine R_iflt (pc' := 30) rfl rfl (fun hc => ?_) (fun hc => ?_)
  · replace h := h.1 hc
    refine R_iconst (pc' := 35) rfl rfl ?_
    exact h
  · replace h := h.2 hc
    refine R_iconst (pc' := 31) rfl rfl ?_
    refine R_goto rfl ?_
    exact h
theorem S29_35 {e : En} {I : HI} {D : HD} {Q : Int → HI → HD → Prop} {A : Nat} {x1 : Int} {x2 : Int} {p0 : Nat} {y1 : Int} (he : HS e) (hA : isA A) (hp0 : K0 p0 = 3)
    (h : (y1 = 0 ∨ y1 = 1) ∧ (K0 (D A 10) = 3) ∧ ((((uI I p0 7 y1) (D A 10) 7) = 0 → CV 26 [vR (some A), vI 3, vI x1] e (uI I p0 7 y1) D (fun I4 D5 => CI 31 [vR (some A), vI x1] e I4 D5 (fun z6 I7 D8 => ((z6 ≤ x1 → RI 29 106 [vR (some A), vI x1, vI z6, vJ] [] e I7 D8 Q) ∧ (¬ (z6 ≤ x1) → (-2147483648 ≤ (z6 - 1) ∧ (z6 - 1) < 2147483648) ∧ CI 50 [vR (some 1), vI (z6 - 1)] e I7 D8 (fun z10 I11 D12 => ((¬ z10 = 10 → RI 29 106 [vR (some A), vI x1, vI z6, vJ] [] e I11 D12 Q) ∧ (¬ (¬ z10 = 10) → RI 29 107 [vR (some A), vI x1, vI z6, vJ] [vI 1] e I11 D12 Q)))))))) ∧ (¬ (((uI I p0 7 y1) (D A 10) 7) = 0) → (-2147483648 ≤ (x1 + ((uI I p0 7 y1) ((D A 10) + 1) 5)) ∧ (x1 + ((uI I p0 7 y1) ((D A 10) + 1) 5)) < 2147483648) ∧ RI 29 126 [vR (some A), vI x1, vI x2, vJ] [] e (uI (uI I p0 7 y1) (D A 10) 10 (x1 + ((uI I p0 7 y1) ((D A 10) + 1) 5))) D Q))) :
    RI 29 35 [vR (some A), vI x1, vI x2, vJ] [vI y1, vR (some p0)] e I D Q := by
  show Run 29 35 [vR (some A), vI x1, vI x2, vJ] [vI y1, vR (some p0)] (mk e I D) (pI e Q)
  have g1 := h.1
  replace h := h.2
  refine K_putIN (pc' := 38) rfl rfl (by decide) (fun _ => g1) hp0 ?_
  refine R_aload_n (pc' := 39) rfl rfl rfl ?_
  refine K_getR (pc' := 42) rfl rfl rfl (kA hA 0 6 ⟨rfl, rfl⟩) (dy_at (dA hA 0 10 ⟨rfl, rfl⟩)) ?_
  have g2 := h.1
  replace h := h.2
  refine K_getIN (pc' := 45) rfl rfl (by decide) g2 rfl ?_
  refine R_ifeq (pc' := 48) rfl rfl (fun hc => ?_) (fun hc => ?_)
  · replace h := h.1 hc
    refine R_aload_n (pc' := 71) rfl rfl rfl ?_
    refine R_iconst (pc' := 72) rfl rfl ?_
    refine R_iload_n (pc' := 73) rfl rfl rfl ?_
    refine KV_iv (as := [vI 3, vI x1]) (rest := []) (pc' := 76) rfl rfl rfl (kA hA 0 6 ⟨rfl, rfl⟩) rfl (Nat.le_of_ble_eq_true rfl) rfl (CV_mono h ?_)
    intro I4 D5 h
    refine R_aload_n (pc' := 77) rfl rfl rfl ?_
    refine R_iload_n (pc' := 78) rfl rfl rfl ?_
    refine KI_iv (as := [vI x1]) (rest := []) (pc' := 81) rfl rfl rfl (kA hA 0 6 ⟨rfl, rfl⟩) rfl (Nat.le_of_ble_eq_true rfl) rfl (CI_mono h ?_)
    intro z6 I7 D8 h
    refine R_istore_n (ls' := [vR (some A), vI x1, vI z6, vJ]) (pc' := 82) rfl rfl rfl ?_
    refine R_iload_n (pc' := 83) rfl rfl rfl ?_
    refine R_iload_n (pc' := 84) rfl rfl rfl ?_
    refine R_icle (pc' := 87) rfl rfl (fun hc => ?_) (fun hc => ?_)
    · replace h := h.1 hc
      exact h
    · replace h := h.2 hc
      refine R_aload_n (pc' := 88) rfl rfl rfl ?_
      refine K_getR (pc' := 91) rfl rfl rfl (kA hA 0 6 ⟨rfl, rfl⟩) (gA1 he hA 0 ⟨⟨rfl, rfl⟩, rfl, rfl⟩) ?_
      refine R_iload_n (pc' := 92) rfl rfl rfl ?_
      refine R_iconst (pc' := 93) rfl rfl ?_
      have g9 := h.1
      replace h := h.2
      refine R_isub (pc' := 94) rfl rfl g9 ?_
      refine KI_iv (as := [vI (z6 - 1)]) (rest := []) (pc' := 97) rfl rfl rfl rfl rfl (Nat.le_of_ble_eq_true rfl) rfl (CI_mono h ?_)
      intro z10 I11 D12 h
      refine R_bipush (pc' := 99) rfl rfl ?_
      refine R_icne (pc' := 102) rfl rfl (fun hc => ?_) (fun hc => ?_)
      · replace h := h.1 hc
        exact h
      · replace h := h.2 hc
        refine R_iconst (pc' := 103) rfl rfl ?_
        refine R_goto rfl ?_
        exact h
  · replace h := h.2 hc
    refine R_aload_n (pc' := 49) rfl rfl rfl ?_
    refine K_getR (pc' := 52) rfl rfl rfl (kA hA 0 6 ⟨rfl, rfl⟩) (dy_at (dA hA 0 10 ⟨rfl, rfl⟩)) ?_
    refine R_iload_n (pc' := 53) rfl rfl rfl ?_
    refine R_aload_n (pc' := 54) rfl rfl rfl ?_
    refine K_getR (pc' := 57) rfl rfl rfl (kA hA 0 6 ⟨rfl, rfl⟩) (dy_at (dA hA 0 10 ⟨rfl, rfl⟩)) ?_
    refine K_getRN (pc' := 60) rfl rfl rfl g2 (gF0 he g2) ?_
    refine K_getIN (pc' := 63) rfl rfl (by decide) (kF g2).1 rfl ?_
    have g13 := h.1
    replace h := h.2
    refine R_iadd (pc' := 64) rfl rfl g13 ?_
    refine K_putIN (pc' := 67) rfl rfl (by decide) (fun h => absurd h (by decide)) g2 ?_
    refine R_goto rfl ?_
    exact h
theorem S29_106 {e : En} {I : HI} {D : HD} {Q : Int → HI → HD → Prop} {A : Nat} {x1 : Int} {x2 : Int} (he : HS e) (hA : isA A)
    (h : RI 29 107 [vR (some A), vI x1, vI x2, vJ] [vI 0] e I D Q) :
    RI 29 106 [vR (some A), vI x1, vI x2, vJ] [] e I D Q := by
  show Run 29 106 [vR (some A), vI x1, vI x2, vJ] [] (mk e I D) (pI e Q)
  refine R_iconst (pc' := 107) rfl rfl ?_
  exact h
theorem S29_107 {e : En} {I : HI} {D : HD} {Q : Int → HI → HD → Prop} {A : Nat} {x1 : Int} {x2 : Int} {y0 : Int} (he : HS e) (hA : isA A)
    (h : ((y0 = 0 → RI 29 123 [vR (some A), vI x1, vI x2, vJ] [vI x2, vR (some (D A 10))] e I D Q) ∧ (¬ (y0 = 0) → (-2147483648 ≤ (x2 - 1) ∧ (x2 - 1) < 2147483648) ∧ RI 29 123 [vR (some A), vI x1, vI x2, vJ] [vI (x2 - 1), vR (some (D A 10))] e I D Q))) :
    RI 29 107 [vR (some A), vI x1, vI x2, vJ] [vI y0] e I D Q := by
  show Run 29 107 [vR (some A), vI x1, vI x2, vJ] [vI y0] (mk e I D) (pI e Q)
  refine R_istore_n (ls' := [vR (some A), vI x1, vI x2, vI y0]) (pc' := 108) rfl rfl rfl ?_
  refine R_aload_n (pc' := 109) rfl rfl rfl ?_
  refine K_getR (pc' := 112) rfl rfl rfl (kA hA 0 6 ⟨rfl, rfl⟩) (dy_at (dA hA 0 10 ⟨rfl, rfl⟩)) ?_
  refine R_iload_n (pc' := 113) rfl rfl rfl ?_
  refine R_ifeq (pc' := 116) rfl rfl (fun hc => ?_) (fun hc => ?_)
  · replace h := h.1 hc
    refine R_iload_n (pc' := 123) rfl rfl rfl ?_
    exact R_forget (ls' := [vR (some A), vI x1, vI x2, vJ]) ⟨Or.inl rfl, Or.inl rfl, Or.inl rfl, Or.inr rfl, trivial⟩ h
  · replace h := h.2 hc
    refine R_iload_n (pc' := 117) rfl rfl rfl ?_
    refine R_iconst (pc' := 118) rfl rfl ?_
    have g1 := h.1
    replace h := h.2
    refine R_isub (pc' := 119) rfl rfl g1 ?_
    refine R_goto rfl ?_
    exact R_forget (ls' := [vR (some A), vI x1, vI x2, vJ]) ⟨Or.inl rfl, Or.inl rfl, Or.inl rfl, Or.inr rfl, trivial⟩ h
theorem S29_123 {e : En} {I : HI} {D : HD} {Q : Int → HI → HD → Prop} {A : Nat} {x1 : Int} {x2 : Int} {p0 : Nat} {y1 : Int} (he : HS e) (hA : isA A) (hp0 : K0 p0 = 3)
    (h : RI 29 126 [vR (some A), vI x1, vI x2, vJ] [] e (uI I p0 10 y1) D Q) :
    RI 29 123 [vR (some A), vI x1, vI x2, vJ] [vI y1, vR (some p0)] e I D Q := by
  show Run 29 123 [vR (some A), vI x1, vI x2, vJ] [vI y1, vR (some p0)] (mk e I D) (pI e Q)
  refine K_putIN (pc' := 126) rfl rfl (by decide) (fun h => absurd h (by decide)) hp0 ?_
  exact h
theorem S29_126 {e : En} {I : HI} {D : HD} {Q : Int → HI → HD → Prop} {A : Nat} {x1 : Int} {x2 : Int} (he : HS e) (hA : isA A)
    (h : ((x2 < 0 → RI 29 139 [vR (some A), vI x1, vI x2, vJ] [vI 0, vR (some (D A 10))] e I D Q) ∧ (¬ (x2 < 0) → RI 29 139 [vR (some A), vI x1, vI x2, vJ] [vI 1, vR (some (D A 10))] e I D Q))) :
    RI 29 126 [vR (some A), vI x1, vI x2, vJ] [] e I D Q := by
  show Run 29 126 [vR (some A), vI x1, vI x2, vJ] [] (mk e I D) (pI e Q)
  refine R_aload_n (pc' := 127) rfl rfl rfl ?_
  refine K_getR (pc' := 130) rfl rfl rfl (kA hA 0 6 ⟨rfl, rfl⟩) (dy_at (dA hA 0 10 ⟨rfl, rfl⟩)) ?_
  refine R_iload_n (pc' := 131) rfl rfl rfl ?_
  refine R_iflt (pc' := 134) rfl rfl (fun hc => ?_) (fun hc => ?_)
  · replace h := h.1 hc
    refine R_iconst (pc' := 139) rfl rfl ?_
    exact h
  · replace h := h.2 hc
    refine R_iconst (pc' := 135) rfl rfl ?_
    refine R_goto rfl ?_
    exact h
theorem S29_139 {e : En} {I : HI} {D : HD} {Q : Int → HI → HD → Prop} {A : Nat} {x1 : Int} {x2 : Int} {p0 : Nat} {y1 : Int} (he : HS e) (hA : isA A) (hp0 : K0 p0 = 3)
    (h : (y1 = 0 ∨ y1 = 1) ∧ (K0 (D A 10) = 3) ∧ ((¬ ((uI I p0 8 y1) (D A 10) 8) = 0 → (-2147483648 ≤ (x2 + ((zstr 24).length : Int)) ∧ (x2 + ((zstr 24).length : Int)) < 2147483648) ∧ Q (x2 + ((zstr 24).length : Int)) (uI I p0 8 y1) D) ∧ (¬ (¬ ((uI I p0 8 y1) (D A 10) 8) = 0) → CV 26 [vR (some A), vI 2, vI x1] e (uI I p0 8 y1) D (fun I5 D6 => (K0 (D6 A 10) = 3) ∧ Q ((uI I5 (D6 A 10) 10 (I5 A 2)) A 2) (uI I5 (D6 A 10) 10 (I5 A 2)) D6)))) :
    RI 29 139 [vR (some A), vI x1, vI x2, vJ] [vI y1, vR (some p0)] e I D Q := by
  show Run 29 139 [vR (some A), vI x1, vI x2, vJ] [vI y1, vR (some p0)] (mk e I D) (pI e Q)
  have g1 := h.1
  replace h := h.2
  refine K_putIN (pc' := 142) rfl rfl (by decide) (fun _ => g1) hp0 ?_
  refine R_aload_n (pc' := 143) rfl rfl rfl ?_
  refine K_getR (pc' := 146) rfl rfl rfl (kA hA 0 6 ⟨rfl, rfl⟩) (dy_at (dA hA 0 10 ⟨rfl, rfl⟩)) ?_
  have g2 := h.1
  replace h := h.2
  refine K_getIN (pc' := 149) rfl rfl (by decide) g2 rfl ?_
  refine R_ifne (pc' := 152) rfl rfl (fun hc => ?_) (fun hc => ?_)
  · replace h := h.1 hc
    refine R_iload_n (pc' := 175) rfl rfl rfl ?_
    refine R_ldcS (pc' := 177) rfl rfl ?_
    refine R_strlen (pc' := 180) rfl rfl (by decide) (Nat.le_of_ble_eq_true rfl) ?_
    have g3 := h.1
    replace h := h.2
    refine R_iadd (pc' := 181) rfl rfl g3 ?_
    exact R_iret rfl rfl ⟨_, _, _, rfl, rfl, h⟩
  · replace h := h.2 hc
    refine R_aload_n (pc' := 153) rfl rfl rfl ?_
    refine R_iconst (pc' := 154) rfl rfl ?_
    refine R_iload_n (pc' := 155) rfl rfl rfl ?_
    refine KV_iv (as := [vI 2, vI x1]) (rest := []) (pc' := 158) rfl rfl rfl (kA hA 0 6 ⟨rfl, rfl⟩) rfl (Nat.le_of_ble_eq_true rfl) rfl (CV_mono h ?_)
    intro I5 D6 h
    refine R_aload_n (pc' := 159) rfl rfl rfl ?_
    refine K_getR (pc' := 162) rfl rfl rfl (kA hA 0 6 ⟨rfl, rfl⟩) (dy_at (dA hA 0 10 ⟨rfl, rfl⟩)) ?_
    refine R_aload_n (pc' := 163) rfl rfl rfl ?_
    refine K_getI (pc' := 166) rfl rfl (by decide) (kA hA 0 6 ⟨rfl, rfl⟩) rfl ?_
    have g7 := h.1
    replace h := h.2
    refine K_putIN (pc' := 169) rfl rfl (by decide) (fun h => absurd h (by decide)) g7 ?_
    refine R_aload_n (pc' := 170) rfl rfl rfl ?_
    refine K_getI (pc' := 173) rfl rfl (by decide) (kA hA 0 6 ⟨rfl, rfl⟩) rfl ?_
    exact R_iret rfl rfl ⟨_, _, _, rfl, rfl, h⟩
/-! 30 X5_endingByLength -/
theorem S30 {e : En} {I : HI} {D : HD} {Q : Int → HI → HD → Prop} {A : Nat} {x1 : Int} (he : HS e) (hA : isA A)
    (h : (K0 (D A 10) = 3) ∧ (((I ((D A 10) + 1) 5) < 0 → Q (-1) I D) ∧ (¬ ((I ((D A 10) + 1) 5) < 0) → (-2147483648 ≤ ((I A 2) - x1) ∧ ((I A 2) - x1) < 2147483648) ∧ (((I ((D A 10) + 1) 5) ≤ ((I A 2) - x1) → (-2147483648 ≤ (x1 + (I ((D A 10) + 1) 5)) ∧ (x1 + (I ((D A 10) + 1) 5)) < 2147483648) ∧ CI 58 [vR (some 1), vI (x1 + (I ((D A 10) + 1) 5)), vS 24] e I D (fun z4 I5 D6 => ((z4 = 0 → CI 50 [vR (some 1), vI (x1 + (I ((D A 10) + 1) 5))] e I5 D6 (fun z7 I8 D9 => ((¬ z7 = 10 → RI 30 78 [vJ, vJ, vJ, vI (x1 + (I ((D A 10) + 1) 5)), vJ] [] e I8 D9 Q) ∧ (¬ (¬ z7 = 10) → (-2147483648 ≤ ((x1 + (I ((D A 10) + 1) 5)) + 1) ∧ ((x1 + (I ((D A 10) + 1) 5)) + 1) < 2147483648) ∧ CI 58 [vR (some 1), vI ((x1 + (I ((D A 10) + 1) 5)) + 1), vS 24] e I8 D9 (fun z11 I12 D13 => ((z11 = 0 → RI 30 78 [vJ, vJ, vJ, vI (x1 + (I ((D A 10) + 1) 5)), vJ] [] e I12 D13 Q) ∧ (¬ (z11 = 0) → RI 30 79 [vJ, vJ, vJ, vI (x1 + (I ((D A 10) + 1) 5)), vJ] [vI 1] e I12 D13 Q))))))) ∧ (¬ (z4 = 0) → Q (x1 + (I ((D A 10) + 1) 5)) I5 D6)))) ∧ (¬ ((I ((D A 10) + 1) 5) ≤ ((I A 2) - x1)) → Q (-1) I D))))) :
    CI 30 [vR (some A), vI x1] e I D Q := by
  refine Call_run (ls := [vR (some A), vI x1, vJ, vJ, vJ]) rfl rfl ?_
  refine R_aload_n (pc' := 1) rfl rfl rfl ?_
  refine K_getR (pc' := 4) rfl rfl rfl (kA hA 0 6 ⟨rfl, rfl⟩) (dy_at (dA hA 0 10 ⟨rfl, rfl⟩)) ?_
  have g1 := h.1
  replace h := h.2
  refine K_getRN (pc' := 7) rfl rfl rfl g1 (gF0 he g1) ?_
  refine K_getIN (pc' := 10) rfl rfl (by decide) (kF g1).1 rfl ?_
  refine R_istore_n (ls' := [vR (some A), vI x1, vI (I ((D A 10) + 1) 5), vJ, vJ]) (pc' := 11) rfl rfl rfl ?_
  refine R_iload_n (pc' := 12) rfl rfl rfl ?_
  refine R_iflt (pc' := 15) rfl rfl (fun hc => ?_) (fun hc => ?_)
  · replace h := h.1 hc
    refine R_iconst (pc' := 26) rfl rfl ?_
    exact R_iret rfl rfl ⟨_, _, _, rfl, rfl, h⟩
  · replace h := h.2 hc
    refine R_iload_n (pc' := 16) rfl rfl rfl ?_
    refine R_aload_n (pc' := 17) rfl rfl rfl ?_
    refine K_getI (pc' := 20) rfl rfl (by decide) (kA hA 0 6 ⟨rfl, rfl⟩) rfl ?_
    refine R_iload_n (pc' := 21) rfl rfl rfl ?_
    have g2 := h.1
    replace h := h.2
    refine R_isub (pc' := 22) rfl rfl g2 ?_
    refine R_icle (pc' := 25) rfl rfl (fun hc => ?_) (fun hc => ?_)
    · replace h := h.1 hc
      refine R_iload_n (pc' := 28) rfl rfl rfl ?_
      refine R_iload_n (pc' := 29) rfl rfl rfl ?_
      have g3 := h.1
      replace h := h.2
      refine R_iadd (pc' := 30) rfl rfl g3 ?_
      refine R_istore_n (ls' := [vR (some A), vI x1, vI (I ((D A 10) + 1) 5), vI (x1 + (I ((D A 10) + 1) 5)), vJ]) (pc' := 31) rfl rfl rfl ?_
      refine R_aload_n (pc' := 32) rfl rfl rfl ?_
      refine K_getR (pc' := 35) rfl rfl rfl (kA hA 0 6 ⟨rfl, rfl⟩) (gA1 he hA 0 ⟨⟨rfl, rfl⟩, rfl, rfl⟩) ?_
      refine R_iload_n (pc' := 36) rfl rfl rfl ?_
      refine R_ldcS (pc' := 38) rfl rfl ?_
      refine KI_iv (as := [vI (x1 + (I ((D A 10) + 1) 5)), vS 24]) (rest := []) (pc' := 41) rfl rfl rfl rfl rfl (Nat.le_of_ble_eq_true rfl) rfl (CI_mono h ?_)
      intro z4 I5 D6 h
      refine R_ifeq (pc' := 44) rfl rfl (fun hc => ?_) (fun hc => ?_)
      · replace h := h.1 hc
        refine R_aload_n (pc' := 47) rfl rfl rfl ?_
        refine K_getR (pc' := 50) rfl rfl rfl (kA hA 0 6 ⟨rfl, rfl⟩) (gA1 he hA 0 ⟨⟨rfl, rfl⟩, rfl, rfl⟩) ?_
        refine R_iload_n (pc' := 51) rfl rfl rfl ?_
        refine KI_iv (as := [vI (x1 + (I ((D A 10) + 1) 5))]) (rest := []) (pc' := 54) rfl rfl rfl rfl rfl (Nat.le_of_ble_eq_true rfl) rfl (CI_mono h ?_)
        intro z7 I8 D9 h
        refine R_bipush (pc' := 56) rfl rfl ?_
        refine R_icne (pc' := 59) rfl rfl (fun hc => ?_) (fun hc => ?_)
        · replace h := h.1 hc
          exact R_forget (ls' := [vJ, vJ, vJ, vI (x1 + (I ((D A 10) + 1) 5)), vJ]) ⟨Or.inr rfl, Or.inr rfl, Or.inr rfl, Or.inl rfl, Or.inl rfl, trivial⟩ h
        · replace h := h.2 hc
          refine R_aload_n (pc' := 60) rfl rfl rfl ?_
          refine K_getR (pc' := 63) rfl rfl rfl (kA hA 0 6 ⟨rfl, rfl⟩) (gA1 he hA 0 ⟨⟨rfl, rfl⟩, rfl, rfl⟩) ?_
          refine R_iload_n (pc' := 64) rfl rfl rfl ?_
          refine R_iconst (pc' := 65) rfl rfl ?_
          have g10 := h.1
          replace h := h.2
          refine R_iadd (pc' := 66) rfl rfl g10 ?_
          refine R_ldcS (pc' := 68) rfl rfl ?_
          refine KI_iv (as := [vI ((x1 + (I ((D A 10) + 1) 5)) + 1), vS 24]) (rest := []) (pc' := 71) rfl rfl rfl rfl rfl (Nat.le_of_ble_eq_true rfl) rfl (CI_mono h ?_)
          intro z11 I12 D13 h
          refine R_ifeq (pc' := 74) rfl rfl (fun hc => ?_) (fun hc => ?_)
          · replace h := h.1 hc
            exact R_forget (ls' := [vJ, vJ, vJ, vI (x1 + (I ((D A 10) + 1) 5)), vJ]) ⟨Or.inr rfl, Or.inr rfl, Or.inr rfl, Or.inl rfl, Or.inl rfl, trivial⟩ h
          · replace h := h.2 hc
            refine R_iconst (pc' := 75) rfl rfl ?_
            refine R_goto rfl ?_
            exact R_forget (ls' := [vJ, vJ, vJ, vI (x1 + (I ((D A 10) + 1) 5)), vJ]) ⟨Or.inr rfl, Or.inr rfl, Or.inr rfl, Or.inl rfl, Or.inl rfl, trivial⟩ h
      · replace h := h.2 hc
        refine R_iload_n (pc' := 45) rfl rfl rfl ?_
        exact R_iret rfl rfl ⟨_, _, _, rfl, rfl, h⟩
    · replace h := h.2 hc
      refine R_iconst (pc' := 26) rfl rfl ?_
      exact R_iret rfl rfl ⟨_, _, _, rfl, rfl, h⟩
theorem S30_78 {e : En} {I : HI} {D : HD} {Q : Int → HI → HD → Prop} {x3 : Int} (he : HS e)
    (h : RI 30 79 [vJ, vJ, vJ, vI x3, vJ] [vI 0] e I D Q) :
    RI 30 78 [vJ, vJ, vJ, vI x3, vJ] [] e I D Q := by
  show Run 30 78 [vJ, vJ, vJ, vI x3, vJ] [] (mk e I D) (pI e Q)
  refine R_iconst (pc' := 79) rfl rfl ?_
  exact h
theorem S30_79 {e : En} {I : HI} {D : HD} {Q : Int → HI → HD → Prop} {x3 : Int} {y0 : Int} (he : HS e)
    (h : ((y0 = 0 → Q (-1) I D) ∧ (¬ (y0 = 0) → (-2147483648 ≤ (x3 + 1) ∧ (x3 + 1) < 2147483648) ∧ Q (x3 + 1) I D))) :
    RI 30 79 [vJ, vJ, vJ, vI x3, vJ] [vI y0] e I D Q := by
  show Run 30 79 [vJ, vJ, vJ, vI x3, vJ] [vI y0] (mk e I D) (pI e Q)
  refine R_istore (ls' := [vJ, vJ, vJ, vI x3, vI y0]) (pc' := 81) rfl rfl rfl ?_
  refine R_iload (pc' := 83) rfl rfl rfl ?_
  refine R_ifeq (pc' := 86) rfl rfl (fun hc => ?_) (fun hc => ?_)
  · replace h := h.1 hc
    refine R_iconst (pc' := 93) rfl rfl ?_
    exact R_iret rfl rfl ⟨_, _, _, rfl, rfl, h⟩
  · replace h := h.2 hc
    refine R_iload_n (pc' := 87) rfl rfl rfl ?_
    refine R_iconst (pc' := 88) rfl rfl ?_
    have g1 := h.1
    replace h := h.2
    refine R_iadd (pc' := 89) rfl rfl g1 ?_
    refine R_goto rfl ?_
    exact R_iret rfl rfl ⟨_, _, _, rfl, rfl, h⟩
/-! 31 X5_endingByWord -/
theorem S31 {e : En} {I : HI} {D : HD} {Q : Int → HI → HD → Prop} {A : Nat} {x1 : Int} (he : HS e) (hA : isA A)
    (h : RI 31 2 [vR (some A), vJ, vI x1] [] e I D Q) :
    CI 31 [vR (some A), vI x1] e I D Q := by
  refine Call_run (ls := [vR (some A), vI x1, vJ]) rfl rfl ?_
  refine R_iload_n (pc' := 1) rfl rfl rfl ?_
  refine R_istore_n (ls' := [vR (some A), vI x1, vI x1]) (pc' := 2) rfl rfl rfl ?_
  exact R_forget (ls' := [vR (some A), vJ, vI x1]) ⟨Or.inl rfl, Or.inr rfl, Or.inl rfl, trivial⟩ h
theorem S31_2 {e : En} {I : HI} {D : HD} {Q : Int → HI → HD → Prop} {A : Nat} {x2 : Int} (he : HS e) (hA : isA A)
    (h : (-2147483648 ≤ ((I A 2) - ((zstr 24).length : Int)) ∧ ((I A 2) - ((zstr 24).length : Int)) < 2147483648) ∧ ((((I A 2) - ((zstr 24).length : Int)) < x2 → Q (-1) I D) ∧ (¬ (((I A 2) - ((zstr 24).length : Int)) < x2) → CI 58 [vR (some 1), vI x2, vS 24] e I D (fun z2 I3 D4 => ((z2 = 0 → (-2147483648 ≤ (x2 + 1) ∧ (x2 + 1) < 2147483648) ∧ RI 31 2 [vR (some A), vJ, vI (x2 + 1)] [] e I3 D4 Q) ∧ (¬ (z2 = 0) → Q x2 I3 D4)))))) :
    RI 31 2 [vR (some A), vJ, vI x2] [] e I D Q := by
  show Run 31 2 [vR (some A), vJ, vI x2] [] (mk e I D) (pI e Q)
  refine R_iload_n (pc' := 3) rfl rfl rfl ?_
  refine R_aload_n (pc' := 4) rfl rfl rfl ?_
  refine K_getI (pc' := 7) rfl rfl (by decide) (kA hA 0 6 ⟨rfl, rfl⟩) rfl ?_
  refine R_ldcS (pc' := 9) rfl rfl ?_
  refine R_strlen (pc' := 12) rfl rfl (by decide) (Nat.le_of_ble_eq_true rfl) ?_
  have g1 := h.1
  replace h := h.2
  refine R_isub (pc' := 13) rfl rfl g1 ?_
  refine R_icgt (pc' := 16) rfl rfl (fun hc => ?_) (fun hc => ?_)
  · replace h := h.1 hc
    refine R_iconst (pc' := 38) rfl rfl ?_
    exact R_iret rfl rfl ⟨_, _, _, rfl, rfl, h⟩
  · replace h := h.2 hc
    refine R_aload_n (pc' := 17) rfl rfl rfl ?_
    refine K_getR (pc' := 20) rfl rfl rfl (kA hA 0 6 ⟨rfl, rfl⟩) (gA1 he hA 0 ⟨⟨rfl, rfl⟩, rfl, rfl⟩) ?_
    refine R_iload_n (pc' := 21) rfl rfl rfl ?_
    refine R_ldcS (pc' := 23) rfl rfl ?_
    refine KI_iv (as := [vI x2, vS 24]) (rest := []) (pc' := 26) rfl rfl rfl rfl rfl (Nat.le_of_ble_eq_true rfl) rfl (CI_mono h ?_)
    intro z2 I3 D4 h
    refine R_ifeq (pc' := 29) rfl rfl (fun hc => ?_) (fun hc => ?_)
    · replace h := h.1 hc
      have g5 := h.1
      replace h := h.2
      refine R_iinc (ls' := [vR (some A), vJ, vI (x2 + 1)]) (pc' := 34) rfl rfl rfl g5 rfl ?_
      refine R_goto rfl ?_
      exact h
    · replace h := h.2 hc
      refine R_iload_n (pc' := 30) rfl rfl rfl ?_
      exact R_iret rfl rfl ⟨_, _, _, rfl, rfl, h⟩
/-! 32 X5_endObject -/
theorem S32 {e : En} {I : HI} {D : HD} {Q : HI → HD → Prop} {A : Nat} {x1 : Int} {x2 : Int} (he : HS e) (hA : isA A)
    (h : CI 53 [vR (some 1), vI x2] e I D (fun z1 I2 D3 => (K0 (D3 A 10) = 3) ∧ ((¬ z1 = 6 → RV 32 32 [vR (some A), vI x1, vI x2, vI z1] [vI 0, vR (some (D3 A 10))] e (uI I2 (D3 A 10) 4 x2) D3 Q) ∧ (¬ (¬ z1 = 6) → RV 32 32 [vR (some A), vI x1, vI x2, vI z1] [vI 1, vR (some (D3 A 10))] e (uI I2 (D3 A 10) 4 x2) D3 Q)))) :
    CV 32 [vR (some A), vI x1, vI x2] e I D Q := by
  refine Call_run (ls := [vR (some A), vI x1, vI x2, vJ]) rfl rfl ?_
  refine R_aload_n (pc' := 1) rfl rfl rfl ?_
  refine K_getR (pc' := 4) rfl rfl rfl (kA hA 0 6 ⟨rfl, rfl⟩) (gA1 he hA 0 ⟨⟨rfl, rfl⟩, rfl, rfl⟩) ?_
  refine R_iload_n (pc' := 5) rfl rfl rfl ?_
  refine KI_iv (as := [vI x2]) (rest := []) (pc' := 8) rfl rfl rfl rfl rfl (Nat.le_of_ble_eq_true rfl) rfl (CI_mono h ?_)
  intro z1 I2 D3 h
  refine R_istore_n (ls' := [vR (some A), vI x1, vI x2, vI z1]) (pc' := 9) rfl rfl rfl ?_
  refine R_aload_n (pc' := 10) rfl rfl rfl ?_
  refine K_getR (pc' := 13) rfl rfl rfl (kA hA 0 6 ⟨rfl, rfl⟩) (dy_at (dA hA 0 10 ⟨rfl, rfl⟩)) ?_
  refine R_iload_n (pc' := 14) rfl rfl rfl ?_
  have g4 := h.1
  replace h := h.2
  refine K_putIN (pc' := 17) rfl rfl (by decide) (fun h => absurd h (by decide)) g4 ?_
  refine R_aload_n (pc' := 18) rfl rfl rfl ?_
  refine K_getR (pc' := 21) rfl rfl rfl (kA hA 0 6 ⟨rfl, rfl⟩) (dy_at (dA hA 0 10 ⟨rfl, rfl⟩)) ?_
  refine R_iload_n (pc' := 22) rfl rfl rfl ?_
  refine R_bipush (pc' := 24) rfl rfl ?_
  refine R_icne (pc' := 27) rfl rfl (fun hc => ?_) (fun hc => ?_)
  · replace h := h.1 hc
    refine R_iconst (pc' := 32) rfl rfl ?_
    exact h
  · replace h := h.2 hc
    refine R_iconst (pc' := 28) rfl rfl ?_
    refine R_goto rfl ?_
    exact h
theorem S32_32 {e : En} {I : HI} {D : HD} {Q : HI → HD → Prop} {A : Nat} {x1 : Int} {x2 : Int} {x3 : Int} {p0 : Nat} {y1 : Int} (he : HS e) (hA : isA A) (hp0 : K0 p0 = 3)
    (h : (y1 = 0 ∨ y1 = 1) ∧ ((¬ x3 = 0 → RV 32 68 [vR (some A), vI x1, vI x2, vI x3] [] e (uI I p0 5 y1) D Q) ∧ (¬ (¬ x3 = 0) → (K0 (D A 10) = 3) ∧ ((¬ ((uI I p0 5 y1) (D A 10) 6) = 0 → RV 32 68 [vR (some A), vI x1, vI x2, vI x3] [] e (uI I p0 5 y1) D Q) ∧ (¬ (¬ ((uI I p0 5 y1) (D A 10) 6) = 0) → CV 26 [vR (some A), vI 10, vI ((uI (uI I p0 5 y1) A 12 x1) (D A 10) 2)] e (uI (uI I p0 5 y1) A 12 x1) D (fun I4 D5 => Q I4 D5)))))) :
    RV 32 32 [vR (some A), vI x1, vI x2, vI x3] [vI y1, vR (some p0)] e I D Q := by
  show Run 32 32 [vR (some A), vI x1, vI x2, vI x3] [vI y1, vR (some p0)] (mk e I D) (pV e Q)
  have g1 := h.1
  replace h := h.2
  refine K_putIN (pc' := 35) rfl rfl (by decide) (fun _ => g1) hp0 ?_
  refine R_iload_n (pc' := 36) rfl rfl rfl ?_
  refine R_ifne (pc' := 39) rfl rfl (fun hc => ?_) (fun hc => ?_)
  · replace h := h.1 hc
    exact h
  · replace h := h.2 hc
    refine R_aload_n (pc' := 40) rfl rfl rfl ?_
    refine K_getR (pc' := 43) rfl rfl rfl (kA hA 0 6 ⟨rfl, rfl⟩) (dy_at (dA hA 0 10 ⟨rfl, rfl⟩)) ?_
    have g2 := h.1
    replace h := h.2
    refine K_getIN (pc' := 46) rfl rfl (by decide) g2 rfl ?_
    refine R_ifne (pc' := 49) rfl rfl (fun hc => ?_) (fun hc => ?_)
    · replace h := h.1 hc
      exact h
    · replace h := h.2 hc
      refine R_aload_n (pc' := 50) rfl rfl rfl ?_
      refine R_iload_n (pc' := 51) rfl rfl rfl ?_
      refine K_putI (pc' := 54) rfl rfl (by decide) (fun h => absurd h (by decide)) (kA hA 0 6 ⟨rfl, rfl⟩) ?_
      refine R_aload_n (pc' := 55) rfl rfl rfl ?_
      refine R_bipush (pc' := 57) rfl rfl ?_
      refine R_aload_n (pc' := 58) rfl rfl rfl ?_
      refine K_getR (pc' := 61) rfl rfl rfl (kA hA 0 6 ⟨rfl, rfl⟩) (dy_at (dA hA 0 10 ⟨rfl, rfl⟩)) ?_
      refine K_getIN (pc' := 64) rfl rfl (by decide) g2 rfl ?_
      refine KV_iv (as := [vI 10, vI ((uI (uI I p0 5 y1) A 12 x1) (D A 10) 2)]) (rest := []) (pc' := 67) rfl rfl rfl (kA hA 0 6 ⟨rfl, rfl⟩) rfl (Nat.le_of_ble_eq_true rfl) rfl (CV_mono h ?_)
      intro I4 D5 h
      exact R_vret rfl rfl ⟨_, _, rfl, rfl, h⟩
theorem S32_68 {e : En} {I : HI} {D : HD} {Q : HI → HD → Prop} {A : Nat} {x1 : Int} {x2 : Int} {x3 : Int} (he : HS e) (hA : isA A)
    (h : ((x3 = 6 → RV 32 100 [vR (some A), vI x1, vJ, vJ] [] e I D Q) ∧ (¬ (x3 = 6) → (K0 (D A 10) = 3) ∧ (((I (D A 10) 6) = 0 → RV 32 94 [vR (some A), vI x1, vI x2, vJ] [] e I D Q) ∧ (¬ ((I (D A 10) 6) = 0) → (((I (D A 10) 8) = 0 → RV 32 100 [vR (some A), vI x1, vJ, vJ] [] e I D Q) ∧ (¬ ((I (D A 10) 8) = 0) → RV 32 94 [vR (some A), vI x1, vI x2, vJ] [] e I D Q))))))) :
    RV 32 68 [vR (some A), vI x1, vI x2, vI x3] [] e I D Q := by
  show Run 32 68 [vR (some A), vI x1, vI x2, vI x3] [] (mk e I D) (pV e Q)
  refine R_iload_n (pc' := 69) rfl rfl rfl ?_
  refine R_bipush (pc' := 71) rfl rfl ?_
  refine R_iceq (pc' := 74) rfl rfl (fun hc => ?_) (fun hc => ?_)
  · replace h := h.1 hc
    exact R_forget (ls' := [vR (some A), vI x1, vJ, vJ]) ⟨Or.inl rfl, Or.inl rfl, Or.inr rfl, Or.inr rfl, trivial⟩ h
  · replace h := h.2 hc
    refine R_aload_n (pc' := 75) rfl rfl rfl ?_
    refine K_getR (pc' := 78) rfl rfl rfl (kA hA 0 6 ⟨rfl, rfl⟩) (dy_at (dA hA 0 10 ⟨rfl, rfl⟩)) ?_
    have g1 := h.1
    replace h := h.2
    refine K_getIN (pc' := 81) rfl rfl (by decide) g1 rfl ?_
    refine R_ifeq (pc' := 84) rfl rfl (fun hc => ?_) (fun hc => ?_)
    · replace h := h.1 hc
      exact R_forget (ls' := [vR (some A), vI x1, vI x2, vJ]) ⟨Or.inl rfl, Or.inl rfl, Or.inl rfl, Or.inr rfl, trivial⟩ h
    · replace h := h.2 hc
      refine R_aload_n (pc' := 85) rfl rfl rfl ?_
      refine K_getR (pc' := 88) rfl rfl rfl (kA hA 0 6 ⟨rfl, rfl⟩) (dy_at (dA hA 0 10 ⟨rfl, rfl⟩)) ?_
      refine K_getIN (pc' := 91) rfl rfl (by decide) g1 rfl ?_
      refine R_ifeq (pc' := 94) rfl rfl (fun hc => ?_) (fun hc => ?_)
      · replace h := h.1 hc
        exact R_forget (ls' := [vR (some A), vI x1, vJ, vJ]) ⟨Or.inl rfl, Or.inl rfl, Or.inr rfl, Or.inr rfl, trivial⟩ h
      · replace h := h.2 hc
        exact R_forget (ls' := [vR (some A), vI x1, vI x2, vJ]) ⟨Or.inl rfl, Or.inl rfl, Or.inl rfl, Or.inr rfl, trivial⟩ h
theorem S32_94 {e : En} {I : HI} {D : HD} {Q : HI → HD → Prop} {A : Nat} {x1 : Int} {x2 : Int} (he : HS e) (hA : isA A)
    (h : CV 26 [vR (some A), vI 1, vI x2] e I D (fun I2 D3 => RV 32 100 [vR (some A), vI x1, vJ, vJ] [] e I2 D3 Q)) :
    RV 32 94 [vR (some A), vI x1, vI x2, vJ] [] e I D Q := by
  show Run 32 94 [vR (some A), vI x1, vI x2, vJ] [] (mk e I D) (pV e Q)
  refine R_aload_n (pc' := 95) rfl rfl rfl ?_
  refine R_iconst (pc' := 96) rfl rfl ?_
  refine R_iload_n (pc' := 97) rfl rfl rfl ?_
  refine KV_iv (as := [vI 1, vI x2]) (rest := []) (pc' := 100) rfl rfl rfl (kA hA 0 6 ⟨rfl, rfl⟩) rfl (Nat.le_of_ble_eq_true rfl) rfl (CV_mono h ?_)
  intro I2 D3 h
  exact R_forget (ls' := [vR (some A), vI x1, vJ, vJ]) ⟨Or.inl rfl, Or.inl rfl, Or.inr rfl, Or.inl rfl, trivial⟩ h
theorem S32_100 {e : En} {I : HI} {D : HD} {Q : HI → HD → Prop} {A : Nat} {x1 : Int} (he : HS e) (hA : isA A)
    (h : CV 33 [vR (some A), vI x1] e I D (fun I2 D3 => Q I2 D3)) :
    RV 32 100 [vR (some A), vI x1, vJ, vJ] [] e I D Q := by
  show Run 32 100 [vR (some A), vI x1, vJ, vJ] [] (mk e I D) (pV e Q)
  refine R_aload_n (pc' := 101) rfl rfl rfl ?_
  refine R_iload_n (pc' := 102) rfl rfl rfl ?_
  refine KV_iv (as := [vI x1]) (rest := []) (pc' := 105) rfl rfl rfl (kA hA 0 6 ⟨rfl, rfl⟩) rfl (Nat.le_of_ble_eq_true rfl) rfl (CV_mono h ?_)
  intro I2 D3 h
  exact R_vret rfl rfl ⟨_, _, rfl, rfl, h⟩
/-! 33 X5_keepCurrent -/
theorem S33 {e : En} {I : HI} {D : HD} {Q : HI → HD → Prop} {A : Nat} {x1 : Int} (he : HS e) (hA : isA A)
    (h : ((x1 < 1 → Q I D) ∧ (¬ (x1 < 1) → ((x1 < 61 → (0 ≤ x1 ∧ x1 < 61) ∧ (K0 (D (A + 21) (x1.toNat)) = 3) ∧ (((I (D (A + 21) (x1.toNat)) 1) = 0 → (-2147483648 ≤ ((I A 11) + 1) ∧ ((I A 11) + 1) < 2147483648) ∧ RV 33 73 [vR (some A), vI x1, vR (some (D (A + 21) (x1.toNat)))] [] e (uI I A 11 ((I A 11) + 1)) D Q) ∧ (¬ ((I (D (A + 21) (x1.toNat)) 1) = 0) → CV 26 [vR (some A), vI 4, vI (I (D (A + 21) (x1.toNat)) 2)] e I D (fun I5 D6 => (K0 (D6 A 10) = 3) ∧ CV 11 [vR (some (A + 14)), vI x1, vI (I5 (D6 A 10) 2), vI (I5 (D6 A 10) 4)] e I5 D6 (fun I9 D10 => RV 33 73 [vR (some A), vI x1, vR (some (D (A + 21) (x1.toNat)))] [] e I9 D10 Q))))) ∧ (¬ (x1 < 61) → Q I D))))) :
    CV 33 [vR (some A), vI x1] e I D Q := by
  refine Call_run (ls := [vR (some A), vI x1, vJ]) rfl rfl ?_
  refine R_iload_n (pc' := 1) rfl rfl rfl ?_
  refine R_iconst (pc' := 2) rfl rfl ?_
  refine R_iclt (pc' := 5) rfl rfl (fun hc => ?_) (fun hc => ?_)
  · replace h := h.1 hc
    exact R_vret rfl rfl ⟨_, _, rfl, rfl, h⟩
  · replace h := h.2 hc
    refine R_iload_n (pc' := 6) rfl rfl rfl ?_
    refine R_aload_n (pc' := 7) rfl rfl rfl ?_
    refine K_getR (pc' := 10) rfl rfl rfl (kA hA 0 6 ⟨rfl, rfl⟩) (gA he hA 0 9 21 ⟨⟨rfl, rfl⟩, rfl, rfl⟩) ?_
    refine K_alen (pc' := 11) rfl rfl 4 (kA hA 21 25 ⟨rfl, rfl⟩) (by decide) (lA hA 21 61 ⟨rfl, rfl⟩) ?_
    refine R_iclt (pc' := 14) rfl rfl (fun hc => ?_) (fun hc => ?_)
    · replace h := h.1 hc
      refine R_aload_n (pc' := 16) rfl rfl rfl ?_
      refine K_getR (pc' := 19) rfl rfl rfl (kA hA 0 6 ⟨rfl, rfl⟩) (gA he hA 0 9 21 ⟨⟨rfl, rfl⟩, rfl, rfl⟩) ?_
      refine R_iload_n (pc' := 20) rfl rfl rfl ?_
      have g1 := h.1
      replace h := h.2
      refine K_aald (pc' := 21) rfl rfl (kA hA 21 25 ⟨rfl, rfl⟩) g1.1 (by rw [(lA hA 21 61 ⟨rfl, rfl⟩)]; exact g1.2) (dO hA (by have := g1.1; have := g1.2; omega)) ?_
      refine R_astore_n (ls' := [vR (some A), vI x1, vR (some (D (A + 21) (x1.toNat)))]) (pc' := 22) rfl rfl rfl ?_
      refine R_aload_n (pc' := 23) rfl rfl rfl ?_
      have g2 := h.1
      replace h := h.2
      refine K_getIN (pc' := 26) rfl rfl (by decide) g2 rfl ?_
      refine R_ifeq (pc' := 29) rfl rfl (fun hc => ?_) (fun hc => ?_)
      · replace h := h.1 hc
        refine R_aload_n (pc' := 64) rfl rfl rfl ?_
        refine R_dup (pc' := 65) rfl rfl rfl ?_
        refine K_getI (pc' := 68) rfl rfl (by decide) (kA hA 0 6 ⟨rfl, rfl⟩) rfl ?_
        refine R_iconst (pc' := 69) rfl rfl ?_
        have g3 := h.1
        replace h := h.2
        refine R_iadd (pc' := 70) rfl rfl g3 ?_
        refine K_putI (pc' := 73) rfl rfl (by decide) (fun h => absurd h (by decide)) (kA hA 0 6 ⟨rfl, rfl⟩) ?_
        exact h
      · replace h := h.2 hc
        refine R_aload_n (pc' := 30) rfl rfl rfl ?_
        refine R_iconst (pc' := 31) rfl rfl ?_
        refine R_aload_n (pc' := 32) rfl rfl rfl ?_
        refine K_getIN (pc' := 35) rfl rfl (by decide) g2 rfl ?_
        refine KV_iv (as := [vI 4, vI (I (D (A + 21) (x1.toNat)) 2)]) (rest := []) (pc' := 38) rfl rfl rfl (kA hA 0 6 ⟨rfl, rfl⟩) rfl (Nat.le_of_ble_eq_true rfl) rfl (CV_mono h ?_)
        intro I5 D6 h
        refine R_aload_n (pc' := 39) rfl rfl rfl ?_
        refine K_getR (pc' := 42) rfl rfl rfl (kA hA 0 6 ⟨rfl, rfl⟩) (gA he hA 0 6 14 ⟨⟨rfl, rfl⟩, rfl, rfl⟩) ?_
        refine R_iload_n (pc' := 43) rfl rfl rfl ?_
        refine R_aload_n (pc' := 44) rfl rfl rfl ?_
        refine K_getR (pc' := 47) rfl rfl rfl (kA hA 0 6 ⟨rfl, rfl⟩) (dy_at (dA hA 0 10 ⟨rfl, rfl⟩)) ?_
        have g7 := h.1
        replace h := h.2
        refine K_getIN (pc' := 50) rfl rfl (by decide) g7 rfl ?_
        refine R_aload_n (pc' := 51) rfl rfl rfl ?_
        refine K_getR (pc' := 54) rfl rfl rfl (kA hA 0 6 ⟨rfl, rfl⟩) (dy_at (dA hA 0 10 ⟨rfl, rfl⟩)) ?_
        refine K_getIN (pc' := 57) rfl rfl (by decide) g7 rfl ?_
        refine KV_iv (as := [vI x1, vI (I5 (D6 A 10) 2), vI (I5 (D6 A 10) 4)]) (rest := []) (pc' := 60) rfl rfl rfl (kA hA 14 4 ⟨rfl, rfl⟩) rfl (Nat.le_of_ble_eq_true rfl) rfl (CV_mono h ?_)
        intro I9 D10 h
        refine R_goto rfl ?_
        exact h
    · replace h := h.2 hc
      exact R_vret rfl rfl ⟨_, _, rfl, rfl, h⟩
theorem S33_73 {e : En} {I : HI} {D : HD} {Q : HI → HD → Prop} {A : Nat} {x1 : Int} {q2 : Nat} (he : HS e) (hA : isA A) (hq2 : K0 q2 = 3)
    (h : (K0 (D A 10) = 3) ∧ (0 ≤ x1 ∧ x1 < 61) ∧ Q (uI I (D A 10) 1 1) (uD (uD D (A + 21) (x1.toNat) (D A 10)) A 10 q2)) :
    RV 33 73 [vR (some A), vI x1, vR (some q2)] [] e I D Q := by
  show Run 33 73 [vR (some A), vI x1, vR (some q2)] [] (mk e I D) (pV e Q)
  refine R_aload_n (pc' := 74) rfl rfl rfl ?_
  refine K_getR (pc' := 77) rfl rfl rfl (kA hA 0 6 ⟨rfl, rfl⟩) (dy_at (dA hA 0 10 ⟨rfl, rfl⟩)) ?_
  refine R_iconst (pc' := 78) rfl rfl ?_
  have g1 := h.1
  replace h := h.2
  refine K_putIN (pc' := 81) rfl rfl (by decide) (fun _ => Or.inr rfl) g1 ?_
  refine R_aload_n (pc' := 82) rfl rfl rfl ?_
  refine K_getR (pc' := 85) rfl rfl rfl (kA hA 0 6 ⟨rfl, rfl⟩) (gA he hA 0 9 21 ⟨⟨rfl, rfl⟩, rfl, rfl⟩) ?_
  refine R_iload_n (pc' := 86) rfl rfl rfl ?_
  refine R_aload_n (pc' := 87) rfl rfl rfl ?_
  refine K_getR (pc' := 90) rfl rfl rfl (kA hA 0 6 ⟨rfl, rfl⟩) (dy_at (dA hA 0 10 ⟨rfl, rfl⟩)) ?_
  have g2 := h.1
  replace h := h.2
  refine K_aast (pc' := 91) rfl rfl (kA hA 21 25 ⟨rfl, rfl⟩) g2.1 (by rw [(lA hA 21 61 ⟨rfl, rfl⟩)]; exact g2.2) (dO hA (by have := g2.1; have := g2.2; omega)) g1 ?_
  refine R_aload_n (pc' := 92) rfl rfl rfl ?_
  refine R_aload_n (pc' := 93) rfl rfl rfl ?_
  refine K_putR (pc' := 96) rfl rfl rfl (kA hA 0 6 ⟨rfl, rfl⟩) (dA hA 0 10 ⟨rfl, rfl⟩) ?_
  exact R_vret rfl rfl ⟨_, _, rfl, rfl, h⟩
/-! 34 X5_takeTrailer -/
theorem S34 {e : En} {I : HI} {D : HD} {Q : HI → HD → Prop} {A : Nat} {x1 : Int} (he : HS e) (hA : isA A)
    (h : CI 55 [vR (some 1), vI x1] e I D (fun z1 I2 D3 => CI 53 [vR (some 1), vI z1] e I2 D3 (fun z4 I5 D6 => ((z4 = 9 → CI 4 [vR (some (A + 18)), vR (some (A + 20)), vI z1, vI 0] e I5 D6 (fun z7 I8 D9 => CV 12 [vR (some (A + 2)), vI (I5 (A + 2) 3)] e I8 D9 (fun I11 D12 => CV 12 [vR (some (A + 6)), vI (I5 (A + 6) 3)] e I11 D12 (fun I14 D15 => (((I14 (A + 20) 6) ≤ 0 → RV 34 92 [vR (some A), vJ, vJ, vJ, vJ] [] e I14 D15 Q) ∧ (¬ ((I14 (A + 20) 6) ≤ 0) → RV 34 92 [vR (some A), vJ, vJ, vJ, vJ] [] e (uI I14 A 13 (I14 (A + 20) 6)) D15 Q)))))) ∧ (¬ (z4 = 9) → Q I5 D6))))) :
    CV 34 [vR (some A), vI x1] e I D Q := by
  refine Call_run (ls := [vR (some A), vI x1, vJ, vJ, vJ]) rfl rfl ?_
  refine R_aload_n (pc' := 1) rfl rfl rfl ?_
  refine K_getR (pc' := 4) rfl rfl rfl (kA hA 0 6 ⟨rfl, rfl⟩) (gA1 he hA 0 ⟨⟨rfl, rfl⟩, rfl, rfl⟩) ?_
  refine R_iload_n (pc' := 5) rfl rfl rfl ?_
  refine KI_iv (as := [vI x1]) (rest := []) (pc' := 8) rfl rfl rfl rfl rfl (Nat.le_of_ble_eq_true rfl) rfl (CI_mono h ?_)
  intro z1 I2 D3 h
  refine R_istore_n (ls' := [vR (some A), vI x1, vI z1, vJ, vJ]) (pc' := 9) rfl rfl rfl ?_
  refine R_aload_n (pc' := 10) rfl rfl rfl ?_
  refine K_getR (pc' := 13) rfl rfl rfl (kA hA 0 6 ⟨rfl, rfl⟩) (gA1 he hA 0 ⟨⟨rfl, rfl⟩, rfl, rfl⟩) ?_
  refine R_iload_n (pc' := 14) rfl rfl rfl ?_
  refine KI_iv (as := [vI z1]) (rest := []) (pc' := 17) rfl rfl rfl rfl rfl (Nat.le_of_ble_eq_true rfl) rfl (CI_mono h ?_)
  intro z4 I5 D6 h
  refine R_bipush (pc' := 19) rfl rfl ?_
  refine R_iceq (pc' := 22) rfl rfl (fun hc => ?_) (fun hc => ?_)
  · replace h := h.1 hc
    refine R_aload_n (pc' := 24) rfl rfl rfl ?_
    refine K_getR (pc' := 27) rfl rfl rfl (kA hA 0 6 ⟨rfl, rfl⟩) (gA he hA 0 3 2 ⟨⟨rfl, rfl⟩, rfl, rfl⟩) ?_
    refine K_getIN (pc' := 30) rfl rfl (by decide) (kA hA 2 4 ⟨rfl, rfl⟩) rfl ?_
    refine R_istore_n (ls' := [vR (some A), vI x1, vI z1, vI (I5 (A + 2) 3), vJ]) (pc' := 31) rfl rfl rfl ?_
    refine R_aload_n (pc' := 32) rfl rfl rfl ?_
    refine K_getR (pc' := 35) rfl rfl rfl (kA hA 0 6 ⟨rfl, rfl⟩) (gA he hA 0 4 6 ⟨⟨rfl, rfl⟩, rfl, rfl⟩) ?_
    refine K_getIN (pc' := 38) rfl rfl (by decide) (kA hA 6 4 ⟨rfl, rfl⟩) rfl ?_
    refine R_istore (ls' := [vR (some A), vI x1, vI z1, vI (I5 (A + 2) 3), vI (I5 (A + 6) 3)]) (pc' := 40) rfl rfl rfl ?_
    refine R_aload_n (pc' := 41) rfl rfl rfl ?_
    refine K_getR (pc' := 44) rfl rfl rfl (kA hA 0 6 ⟨rfl, rfl⟩) (gA he hA 0 7 18 ⟨⟨rfl, rfl⟩, rfl, rfl⟩) ?_
    refine R_aload_n (pc' := 45) rfl rfl rfl ?_
    refine K_getR (pc' := 48) rfl rfl rfl (kA hA 0 6 ⟨rfl, rfl⟩) (gA he hA 0 8 20 ⟨⟨rfl, rfl⟩, rfl, rfl⟩) ?_
    refine R_iload_n (pc' := 49) rfl rfl rfl ?_
    refine R_iconst (pc' := 50) rfl rfl ?_
    refine KI_iv (as := [vR (some (A + 20)), vI z1, vI 0]) (rest := []) (pc' := 53) rfl rfl rfl (kA hA 18 2 ⟨rfl, rfl⟩) rfl (Nat.le_of_ble_eq_true rfl) rfl (CI_mono h ?_)
    intro z7 I8 D9 h
    refine R_pop (pc' := 54) rfl rfl rfl ?_
    refine R_aload_n (pc' := 55) rfl rfl rfl ?_
    refine K_getR (pc' := 58) rfl rfl rfl (kA hA 0 6 ⟨rfl, rfl⟩) (gA he hA 0 3 2 ⟨⟨rfl, rfl⟩, rfl, rfl⟩) ?_
    refine R_iload_n (pc' := 59) rfl rfl rfl ?_
    refine KV_iv (as := [vI (I5 (A + 2) 3)]) (rest := []) (pc' := 62) rfl rfl rfl (kA hA 2 4 ⟨rfl, rfl⟩) rfl (Nat.le_of_ble_eq_true rfl) rfl (CV_mono h ?_)
    intro I11 D12 h
    refine R_aload_n (pc' := 63) rfl rfl rfl ?_
    refine K_getR (pc' := 66) rfl rfl rfl (kA hA 0 6 ⟨rfl, rfl⟩) (gA he hA 0 4 6 ⟨⟨rfl, rfl⟩, rfl, rfl⟩) ?_
    refine R_iload (pc' := 68) rfl rfl rfl ?_
    refine KV_iv (as := [vI (I5 (A + 6) 3)]) (rest := []) (pc' := 71) rfl rfl rfl (kA hA 6 4 ⟨rfl, rfl⟩) rfl (Nat.le_of_ble_eq_true rfl) rfl (CV_mono h ?_)
    intro I14 D15 h
    refine R_aload_n (pc' := 72) rfl rfl rfl ?_
    refine K_getR (pc' := 75) rfl rfl rfl (kA hA 0 6 ⟨rfl, rfl⟩) (gA he hA 0 8 20 ⟨⟨rfl, rfl⟩, rfl, rfl⟩) ?_
    refine K_getIN (pc' := 78) rfl rfl (by decide) (kA hA 20 1 ⟨rfl, rfl⟩) rfl ?_
    refine R_ifle (pc' := 81) rfl rfl (fun hc => ?_) (fun hc => ?_)
    · replace h := h.1 hc
      exact R_forget (ls' := [vR (some A), vJ, vJ, vJ, vJ]) ⟨Or.inl rfl, Or.inr rfl, Or.inr rfl, Or.inr rfl, Or.inr rfl, trivial⟩ h
    · replace h := h.2 hc
      refine R_aload_n (pc' := 82) rfl rfl rfl ?_
      refine R_aload_n (pc' := 83) rfl rfl rfl ?_
      refine K_getR (pc' := 86) rfl rfl rfl (kA hA 0 6 ⟨rfl, rfl⟩) (gA he hA 0 8 20 ⟨⟨rfl, rfl⟩, rfl, rfl⟩) ?_
      refine K_getIN (pc' := 89) rfl rfl (by decide) (kA hA 20 1 ⟨rfl, rfl⟩) rfl ?_
      refine K_putI (pc' := 92) rfl rfl (by decide) (fun h => absurd h (by decide)) (kA hA 0 6 ⟨rfl, rfl⟩) ?_
      exact R_forget (ls' := [vR (some A), vJ, vJ, vJ, vJ]) ⟨Or.inl rfl, Or.inr rfl, Or.inr rfl, Or.inr rfl, Or.inr rfl, trivial⟩ h
  · replace h := h.2 hc
    exact R_vret rfl rfl ⟨_, _, rfl, rfl, h⟩
theorem S34_92 {e : En} {I : HI} {D : HD} {Q : HI → HD → Prop} {A : Nat} (he : HS e) (hA : isA A)
    (h : (((I (A + 20) 7) < 0 → Q I D) ∧ (¬ ((I (A + 20) 7) < 0) → Q (uI I A 14 (I (A + 20) 7)) D))) :
    RV 34 92 [vR (some A), vJ, vJ, vJ, vJ] [] e I D Q := by
  show Run 34 92 [vR (some A), vJ, vJ, vJ, vJ] [] (mk e I D) (pV e Q)
  refine R_aload_n (pc' := 93) rfl rfl rfl ?_
  refine K_getR (pc' := 96) rfl rfl rfl (kA hA 0 6 ⟨rfl, rfl⟩) (gA he hA 0 8 20 ⟨⟨rfl, rfl⟩, rfl, rfl⟩) ?_
  refine K_getIN (pc' := 99) rfl rfl (by decide) (kA hA 20 1 ⟨rfl, rfl⟩) rfl ?_
  refine R_iflt (pc' := 102) rfl rfl (fun hc => ?_) (fun hc => ?_)
  · replace h := h.1 hc
    exact R_vret rfl rfl ⟨_, _, rfl, rfl, h⟩
  · replace h := h.2 hc
    refine R_aload_n (pc' := 103) rfl rfl rfl ?_
    refine R_aload_n (pc' := 104) rfl rfl rfl ?_
    refine K_getR (pc' := 107) rfl rfl rfl (kA hA 0 6 ⟨rfl, rfl⟩) (gA he hA 0 8 20 ⟨⟨rfl, rfl⟩, rfl, rfl⟩) ?_
    refine K_getIN (pc' := 110) rfl rfl (by decide) (kA hA 20 1 ⟨rfl, rfl⟩) rfl ?_
    refine K_putI (pc' := 113) rfl rfl (by decide) (fun h => absurd h (by decide)) (kA hA 0 6 ⟨rfl, rfl⟩) ?_
    exact R_vret rfl rfl ⟨_, _, rfl, rfl, h⟩
/-! 35 X5_objectOf -/
theorem S35 {e : En} {I : HI} {D : HD} {Q : Option Nat → HI → HD → Prop} {A : Nat} {x1 : Int} (he : HS e) (hA : isA A)
    (h : ((x1 < 1 → Q none I D) ∧ (¬ (x1 < 1) → ((x1 < 61 → (0 ≤ x1 ∧ x1 < 61) ∧ (K0 (D (A + 21) (x1.toNat)) = 3) ∧ (((I (D (A + 21) (x1.toNat)) 1) = 0 → Q none I D) ∧ (¬ ((I (D (A + 21) (x1.toNat)) 1) = 0) → (0 ≤ x1 ∧ x1 < 61) ∧ Q (some (D (A + 21) (x1.toNat))) I D))) ∧ (¬ (x1 < 61) → Q none I D))))) :
    CR 35 [vR (some A), vI x1] e I D Q := by
  refine Call_run (ls := [vR (some A), vI x1]) rfl rfl ?_
  refine R_iload_n (pc' := 1) rfl rfl rfl ?_
  refine R_iconst (pc' := 2) rfl rfl ?_
  refine R_iclt (pc' := 5) rfl rfl (fun hc => ?_) (fun hc => ?_)
  · replace h := h.1 hc
    refine R_null (pc' := 15) rfl rfl ?_
    exact R_aret rfl _ rfl ⟨_, _, _, rfl, rfl, h⟩
  · replace h := h.2 hc
    refine R_iload_n (pc' := 6) rfl rfl rfl ?_
    refine R_aload_n (pc' := 7) rfl rfl rfl ?_
    refine K_getR (pc' := 10) rfl rfl rfl (kA hA 0 6 ⟨rfl, rfl⟩) (gA he hA 0 9 21 ⟨⟨rfl, rfl⟩, rfl, rfl⟩) ?_
    refine K_alen (pc' := 11) rfl rfl 4 (kA hA 21 25 ⟨rfl, rfl⟩) (by decide) (lA hA 21 61 ⟨rfl, rfl⟩) ?_
    refine R_iclt (pc' := 14) rfl rfl (fun hc => ?_) (fun hc => ?_)
    · replace h := h.1 hc
      refine R_aload_n (pc' := 17) rfl rfl rfl ?_
      refine K_getR (pc' := 20) rfl rfl rfl (kA hA 0 6 ⟨rfl, rfl⟩) (gA he hA 0 9 21 ⟨⟨rfl, rfl⟩, rfl, rfl⟩) ?_
      refine R_iload_n (pc' := 21) rfl rfl rfl ?_
      have g1 := h.1
      replace h := h.2
      refine K_aald (pc' := 22) rfl rfl (kA hA 21 25 ⟨rfl, rfl⟩) g1.1 (by rw [(lA hA 21 61 ⟨rfl, rfl⟩)]; exact g1.2) (dO hA (by have := g1.1; have := g1.2; omega)) ?_
      have g2 := h.1
      replace h := h.2
      refine K_getIN (pc' := 25) rfl rfl (by decide) g2 rfl ?_
      refine R_ifeq (pc' := 28) rfl rfl (fun hc => ?_) (fun hc => ?_)
      · replace h := h.1 hc
        refine R_null (pc' := 38) rfl rfl ?_
        exact R_aret rfl _ rfl ⟨_, _, _, rfl, rfl, h⟩
      · replace h := h.2 hc
        refine R_aload_n (pc' := 29) rfl rfl rfl ?_
        refine K_getR (pc' := 32) rfl rfl rfl (kA hA 0 6 ⟨rfl, rfl⟩) (gA he hA 0 9 21 ⟨⟨rfl, rfl⟩, rfl, rfl⟩) ?_
        refine R_iload_n (pc' := 33) rfl rfl rfl ?_
        have g3 := h.1
        replace h := h.2
        refine K_aald (pc' := 34) rfl rfl (kA hA 21 25 ⟨rfl, rfl⟩) g3.1 (by rw [(lA hA 21 61 ⟨rfl, rfl⟩)]; exact g3.2) (dO hA (by have := g3.1; have := g3.2; omega)) ?_
        refine R_goto rfl ?_
        exact R_aret rfl _ rfl ⟨_, _, _, rfl, rfl, h⟩
    · replace h := h.2 hc
      refine R_null (pc' := 15) rfl rfl ?_
      exact R_aret rfl _ rfl ⟨_, _, _, rfl, rfl, h⟩
/-! 36 X5_kindOf -/
theorem S36 {e : En} {I : HI} {D : HD} {Q : Int → HI → HD → Prop} {A : Nat} {x1 : Int} (he : HS e) (hA : isA A)
    (h : CR 35 [vR (some A), vI x1] e I D (fun z1 I2 D3 => ((z1 = none → Q 0 I2 D3) ∧ (∀ u4, z1 = some u4 → K0 u4 = 3 ∧ Q (I2 (u4 + 1) 3) I2 D3)))) :
    CI 36 [vR (some A), vI x1] e I D Q := by
  refine Call_run (ls := [vR (some A), vI x1, vJ]) rfl rfl ?_
  refine R_aload_n (pc' := 1) rfl rfl rfl ?_
  refine R_iload_n (pc' := 2) rfl rfl rfl ?_
  refine KR_iv (as := [vI x1]) (rest := []) (pc' := 5) rfl rfl rfl (kA hA 0 6 ⟨rfl, rfl⟩) rfl (Nat.le_of_ble_eq_true rfl) rfl (CR_mono h ?_)
  intro z1 I2 D3 h
  refine R_astore_n (ls' := [vR (some A), vI x1, vR z1]) (pc' := 6) rfl rfl rfl ?_
  refine R_aload_n (pc' := 7) rfl rfl rfl ?_
  refine R_ifnonnull (pc' := 10) rfl rfl (fun u4 hn => ?_) (fun hn => ?_)
  · replace h := h.2 u4 hn
    subst hn
    have hu5 := h.1
    replace h := h.2
    refine R_aload_n (pc' := 15) rfl rfl rfl ?_
    refine K_getRN (pc' := 18) rfl rfl rfl hu5 (gF0 he hu5) ?_
    refine K_getIN (pc' := 21) rfl rfl (by decide) (kF hu5).1 rfl ?_
    exact R_iret rfl rfl ⟨_, _, _, rfl, rfl, h⟩
  · replace h := h.1 hn
    subst hn
    refine R_iconst (pc' := 11) rfl rfl ?_
    refine R_goto rfl ?_
    exact R_iret rfl rfl ⟨_, _, _, rfl, rfl, h⟩
/-! 37 X5_byteAt -/
theorem S37 {e : En} {I : HI} {D : HD} {Q : Int → HI → HD → Prop} {A : Nat} {x1 : Int} (he : HS e) (hA : isA A)
    (h : ((x1 < 0 → Q (-1) I D) ∧ (¬ (x1 < 0) → (((I A 2) ≤ x1 → Q (-1) I D) ∧ (¬ ((I A 2) ≤ x1) → ((((L0 (A + 1)) : Int) ≤ x1 → Q (-1) I D) ∧ (¬ (((L0 (A + 1)) : Int) ≤ x1) → (0 ≤ x1 ∧ x1 < ((L0 (A + 1)) : Int)) ∧ Q ((I (A + 1) (x1.toNat)) % 256) I D))))))) :
    CI 37 [vR (some A), vI x1] e I D Q := by
  refine Call_run (ls := [vR (some A), vI x1]) rfl rfl ?_
  refine R_iload_n (pc' := 1) rfl rfl rfl ?_
  refine R_iflt (pc' := 4) rfl rfl (fun hc => ?_) (fun hc => ?_)
  · replace h := h.1 hc
    refine R_iconst (pc' := 35) rfl rfl ?_
    exact R_iret rfl rfl ⟨_, _, _, rfl, rfl, h⟩
  · replace h := h.2 hc
    refine R_iload_n (pc' := 5) rfl rfl rfl ?_
    refine R_aload_n (pc' := 6) rfl rfl rfl ?_
    refine K_getI (pc' := 9) rfl rfl (by decide) (kA hA 0 6 ⟨rfl, rfl⟩) rfl ?_
    refine R_icge (pc' := 12) rfl rfl (fun hc => ?_) (fun hc => ?_)
    · replace h := h.1 hc
      refine R_iconst (pc' := 35) rfl rfl ?_
      exact R_iret rfl rfl ⟨_, _, _, rfl, rfl, h⟩
    · replace h := h.2 hc
      refine R_iload_n (pc' := 13) rfl rfl rfl ?_
      refine R_aload_n (pc' := 14) rfl rfl rfl ?_
      refine K_getR (pc' := 17) rfl rfl rfl (kA hA 0 6 ⟨rfl, rfl⟩) (gA he hA 0 1 1 ⟨⟨rfl, rfl⟩, rfl, rfl⟩) ?_
      refine K_alen (pc' := 18) rfl rfl 1 (kA hA 1 22 ⟨rfl, rfl⟩) (by decide) rfl ?_
      refine R_icge (pc' := 21) rfl rfl (fun hc => ?_) (fun hc => ?_)
      · replace h := h.1 hc
        refine R_iconst (pc' := 35) rfl rfl ?_
        exact R_iret rfl rfl ⟨_, _, _, rfl, rfl, h⟩
      · replace h := h.2 hc
        refine R_aload_n (pc' := 22) rfl rfl rfl ?_
        refine K_getR (pc' := 25) rfl rfl rfl (kA hA 0 6 ⟨rfl, rfl⟩) (gA he hA 0 1 1 ⟨⟨rfl, rfl⟩, rfl, rfl⟩) ?_
        refine R_iload_n (pc' := 26) rfl rfl rfl ?_
        have g1 := h.1
        replace h := h.2
        refine K_bald (pc' := 27) rfl rfl (kA hA 1 22 ⟨rfl, rfl⟩) g1.1 g1.2 rfl ?_
        refine R_sipush (pc' := 30) rfl rfl ?_
        refine R_iand255 (pc' := 31) rfl rfl ?_
        refine R_goto rfl ?_
        exact R_iret rfl rfl ⟨_, _, _, rfl, rfl, h⟩
/-! 38 X5_tellReferencesToNothing -/
theorem S38 {e : En} {I : HI} {D : HD} {Q : HI → HD → Prop} {A : Nat} (he : HS e) (hA : isA A)
    (h : RV 38 2 [vR (some A), vI 1, vJ, vJ] [] e I D Q) :
    CV 38 [vR (some A)] e I D Q := by
  refine Call_run (ls := [vR (some A), vJ, vJ, vJ]) rfl rfl ?_
  refine R_iconst (pc' := 1) rfl rfl ?_
  refine R_istore_n (ls' := [vR (some A), vI 1, vJ, vJ]) (pc' := 2) rfl rfl rfl ?_
  exact h
theorem S38_2 {e : En} {I : HI} {D : HD} {Q : HI → HD → Prop} {A : Nat} {x1 : Int} (he : HS e) (hA : isA A)
    (h : (((60 : Int) < x1 → Q I D) ∧ (¬ ((60 : Int) < x1) → CR 35 [vR (some A), vI x1] e I D (fun z1 I2 D3 => ((z1 = none → RV 38 70 [vR (some A), vI x1, vJ, vJ] [] e I2 D3 Q) ∧ (∀ u4, z1 = some u4 → K0 u4 = 3 ∧ RV 38 29 [vR (some A), vI x1, vR (some u4), vI (I2 (u4 + 1) 10)] [] e I2 D3 Q)))))) :
    RV 38 2 [vR (some A), vI x1, vJ, vJ] [] e I D Q := by
  show Run 38 2 [vR (some A), vI x1, vJ, vJ] [] (mk e I D) (pV e Q)
  refine R_iload_n (pc' := 3) rfl rfl rfl ?_
  refine R_bipush (pc' := 5) rfl rfl ?_
  refine R_icgt (pc' := 8) rfl rfl (fun hc => ?_) (fun hc => ?_)
  · replace h := h.1 hc
    exact R_vret rfl rfl ⟨_, _, rfl, rfl, h⟩
  · replace h := h.2 hc
    refine R_aload_n (pc' := 9) rfl rfl rfl ?_
    refine R_iload_n (pc' := 10) rfl rfl rfl ?_
    refine KR_iv (as := [vI x1]) (rest := []) (pc' := 13) rfl rfl rfl (kA hA 0 6 ⟨rfl, rfl⟩) rfl (Nat.le_of_ble_eq_true rfl) rfl (CR_mono h ?_)
    intro z1 I2 D3 h
    refine R_astore_n (ls' := [vR (some A), vI x1, vR z1, vJ]) (pc' := 14) rfl rfl rfl ?_
    refine R_aload_n (pc' := 15) rfl rfl rfl ?_
    refine R_ifnonnull (pc' := 18) rfl rfl (fun u4 hn => ?_) (fun hn => ?_)
    · replace h := h.2 u4 hn
      subst hn
      have hu5 := h.1
      replace h := h.2
      refine R_aload_n (pc' := 22) rfl rfl rfl ?_
      refine K_getRN (pc' := 25) rfl rfl rfl hu5 (gF0 he hu5) ?_
      refine K_getIN (pc' := 28) rfl rfl (by decide) (kF hu5).1 rfl ?_
      refine R_istore_n (ls' := [vR (some A), vI x1, vR (some u4), vI (I2 (u4 + 1) 10)]) (pc' := 29) rfl rfl rfl ?_
      exact h
    · replace h := h.1 hn
      subst hn
      refine R_goto rfl ?_
      exact R_forget (ls' := [vR (some A), vI x1, vJ, vJ]) ⟨Or.inl rfl, Or.inl rfl, Or.inr rfl, Or.inl rfl, trivial⟩ h
theorem S38_29 {e : En} {I : HI} {D : HD} {Q : HI → HD → Prop} {A : Nat} {x1 : Int} {q2 : Nat} {x3 : Int} (he : HS e) (hA : isA A) (hq2 : K0 q2 = 3)
    (h : (((I (q2 + 1) 11) ≤ x3 → RV 38 70 [vR (some A), vI x1, vJ, vJ] [] e I D Q) ∧ (¬ ((I (q2 + 1) 11) ≤ x3) → CI 13 [vR (some (A + 2)), vI x3] e I D (fun z1 I2 D3 => CR 35 [vR (some A), vI z1] e I2 D3 (fun z4 I5 D6 => ((z4 = none → CV 26 [vR (some A), vI 5, vI (I5 q2 2)] e I5 D6 (fun I10 D11 => RV 38 64 [vR (some A), vI x1, vR (some q2), vI x3] [] e I10 D11 Q)) ∧ (∀ u7, z4 = some u7 → K0 u7 = 3 ∧ RV 38 64 [vR (some A), vI x1, vR (some q2), vI x3] [] e I5 D6 Q))))))) :
    RV 38 29 [vR (some A), vI x1, vR (some q2), vI x3] [] e I D Q := by
  show Run 38 29 [vR (some A), vI x1, vR (some q2), vI x3] [] (mk e I D) (pV e Q)
  refine R_iload_n (pc' := 30) rfl rfl rfl ?_
  refine R_aload_n (pc' := 31) rfl rfl rfl ?_
  refine K_getRN (pc' := 34) rfl rfl rfl hq2 (gF0 he hq2) ?_
  refine K_getIN (pc' := 37) rfl rfl (by decide) (kF hq2).1 rfl ?_
  refine R_icge (pc' := 40) rfl rfl (fun hc => ?_) (fun hc => ?_)
  · replace h := h.1 hc
    exact R_forget (ls' := [vR (some A), vI x1, vJ, vJ]) ⟨Or.inl rfl, Or.inl rfl, Or.inr rfl, Or.inr rfl, trivial⟩ h
  · replace h := h.2 hc
    refine R_aload_n (pc' := 41) rfl rfl rfl ?_
    refine R_aload_n (pc' := 42) rfl rfl rfl ?_
    refine K_getR (pc' := 45) rfl rfl rfl (kA hA 0 6 ⟨rfl, rfl⟩) (gA he hA 0 3 2 ⟨⟨rfl, rfl⟩, rfl, rfl⟩) ?_
    refine R_iload_n (pc' := 46) rfl rfl rfl ?_
    refine KI_iv (as := [vI x3]) (rest := [vR (some A)]) (pc' := 49) rfl rfl rfl (kA hA 2 4 ⟨rfl, rfl⟩) rfl (Nat.le_of_ble_eq_true rfl) rfl (CI_mono h ?_)
    intro z1 I2 D3 h
    refine KR_iv (as := [vI z1]) (rest := []) (pc' := 52) rfl rfl rfl (kA hA 0 6 ⟨rfl, rfl⟩) rfl (Nat.le_of_ble_eq_true rfl) rfl (CR_mono h ?_)
    intro z4 I5 D6 h
    refine R_ifnonnull (pc' := 55) rfl rfl (fun u7 hn => ?_) (fun hn => ?_)
    · replace h := h.2 u7 hn
      subst hn
      have hu8 := h.1
      replace h := h.2
      exact h
    · replace h := h.1 hn
      subst hn
      refine R_aload_n (pc' := 56) rfl rfl rfl ?_
      refine R_iconst (pc' := 57) rfl rfl ?_
      refine R_aload_n (pc' := 58) rfl rfl rfl ?_
      refine K_getIN (pc' := 61) rfl rfl (by decide) hq2 rfl ?_
      refine KV_iv (as := [vI 5, vI (I5 q2 2)]) (rest := []) (pc' := 64) rfl rfl rfl (kA hA 0 6 ⟨rfl, rfl⟩) rfl (Nat.le_of_ble_eq_true rfl) rfl (CV_mono h ?_)
      intro I10 D11 h
      exact h
theorem S38_64 {e : En} {I : HI} {D : HD} {Q : HI → HD → Prop} {A : Nat} {x1 : Int} {q2 : Nat} {x3 : Int} (he : HS e) (hA : isA A) (hq2 : K0 q2 = 3)
    (h : (-2147483648 ≤ (x3 + 1) ∧ (x3 + 1) < 2147483648) ∧ RV 38 29 [vR (some A), vI x1, vR (some q2), vI (x3 + 1)] [] e I D Q) :
    RV 38 64 [vR (some A), vI x1, vR (some q2), vI x3] [] e I D Q := by
  show Run 38 64 [vR (some A), vI x1, vR (some q2), vI x3] [] (mk e I D) (pV e Q)
  have g1 := h.1
  replace h := h.2
  refine R_iinc (ls' := [vR (some A), vI x1, vR (some q2), vI (x3 + 1)]) (pc' := 67) rfl rfl rfl g1 rfl ?_
  refine R_goto rfl ?_
  exact h
theorem S38_70 {e : En} {I : HI} {D : HD} {Q : HI → HD → Prop} {A : Nat} {x1 : Int} (he : HS e) (hA : isA A)
    (h : (-2147483648 ≤ (x1 + 1) ∧ (x1 + 1) < 2147483648) ∧ RV 38 2 [vR (some A), vI (x1 + 1), vJ, vJ] [] e I D Q) :
    RV 38 70 [vR (some A), vI x1, vJ, vJ] [] e I D Q := by
  show Run 38 70 [vR (some A), vI x1, vJ, vJ] [] (mk e I D) (pV e Q)
  have g1 := h.1
  replace h := h.2
  refine R_iinc (ls' := [vR (some A), vI (x1 + 1), vJ, vJ]) (pc' := 73) rfl rfl rfl g1 rfl ?_
  refine R_goto rfl ?_
  exact h
/-! 39 X5_chooseCatalogue -/
theorem S39 {e : En} {I : HI} {D : HD} {Q : HI → HD → Prop} {A : Nat} (he : HS e) (hA : isA A)
    (h : CI 36 [vR (some A), vI (I A 13)] e I D (fun z1 I2 D3 => ((¬ z1 = 1 → CV 26 [vR (some A), vI 6, vI 0] e I2 D3 (fun I5 D6 => CI 40 [vR (some A), vI 1] e I5 D6 (fun z7 I8 D9 => ((z7 ≤ 0 → CI 40 [vR (some A), vI 0] e I8 D9 (fun z10 I11 D12 => RV 39 48 [vR (some A), vJ, vJ] [vI z10, vR (some A)] e I11 D12 Q)) ∧ (¬ (z7 ≤ 0) → RV 39 48 [vR (some A), vJ, vJ] [vI z7, vR (some A)] e I8 D9 Q))))) ∧ (¬ (¬ z1 = 1) → Q (uI I2 A 15 (I2 A 13)) D3)))) :
    CV 39 [vR (some A)] e I D Q := by
  refine Call_run (ls := [vR (some A), vJ, vJ]) rfl rfl ?_
  refine R_aload_n (pc' := 1) rfl rfl rfl ?_
  refine R_aload_n (pc' := 2) rfl rfl rfl ?_
  refine K_getI (pc' := 5) rfl rfl (by decide) (kA hA 0 6 ⟨rfl, rfl⟩) rfl ?_
  refine KI_iv (as := [vI (I A 13)]) (rest := []) (pc' := 8) rfl rfl rfl (kA hA 0 6 ⟨rfl, rfl⟩) rfl (Nat.le_of_ble_eq_true rfl) rfl (CI_mono h ?_)
  intro z1 I2 D3 h
  refine R_iconst (pc' := 9) rfl rfl ?_
  refine R_icne (pc' := 12) rfl rfl (fun hc => ?_) (fun hc => ?_)
  · replace h := h.1 hc
    refine R_aload_n (pc' := 22) rfl rfl rfl ?_
    refine R_bipush (pc' := 24) rfl rfl ?_
    refine R_iconst (pc' := 25) rfl rfl ?_
    refine KV_iv (as := [vI 6, vI 0]) (rest := []) (pc' := 28) rfl rfl rfl (kA hA 0 6 ⟨rfl, rfl⟩) rfl (Nat.le_of_ble_eq_true rfl) rfl (CV_mono h ?_)
    intro I5 D6 h
    refine R_aload_n (pc' := 29) rfl rfl rfl ?_
    refine R_iconst (pc' := 30) rfl rfl ?_
    refine KI_iv (as := [vI 1]) (rest := []) (pc' := 33) rfl rfl rfl (kA hA 0 6 ⟨rfl, rfl⟩) rfl (Nat.le_of_ble_eq_true rfl) rfl (CI_mono h ?_)
    intro z7 I8 D9 h
    refine R_istore_n (ls' := [vR (some A), vI z7, vJ]) (pc' := 34) rfl rfl rfl ?_
    refine R_aload_n (pc' := 35) rfl rfl rfl ?_
    refine R_iload_n (pc' := 36) rfl rfl rfl ?_
    refine R_ifle (pc' := 39) rfl rfl (fun hc => ?_) (fun hc => ?_)
    · replace h := h.1 hc
      refine R_aload_n (pc' := 44) rfl rfl rfl ?_
      refine R_iconst (pc' := 45) rfl rfl ?_
      refine KI_iv (as := [vI 0]) (rest := [vR (some A)]) (pc' := 48) rfl rfl rfl (kA hA 0 6 ⟨rfl, rfl⟩) rfl (Nat.le_of_ble_eq_true rfl) rfl (CI_mono h ?_)
      intro z10 I11 D12 h
      exact R_forget (ls' := [vR (some A), vJ, vJ]) ⟨Or.inl rfl, Or.inr rfl, Or.inl rfl, trivial⟩ h
    · replace h := h.2 hc
      refine R_iload_n (pc' := 40) rfl rfl rfl ?_
      refine R_goto rfl ?_
      exact R_forget (ls' := [vR (some A), vJ, vJ]) ⟨Or.inl rfl, Or.inr rfl, Or.inl rfl, trivial⟩ h
  · replace h := h.2 hc
    refine R_aload_n (pc' := 13) rfl rfl rfl ?_
    refine R_aload_n (pc' := 14) rfl rfl rfl ?_
    refine K_getI (pc' := 17) rfl rfl (by decide) (kA hA 0 6 ⟨rfl, rfl⟩) rfl ?_
    refine K_putI (pc' := 20) rfl rfl (by decide) (fun h => absurd h (by decide)) (kA hA 0 6 ⟨rfl, rfl⟩) ?_
    exact R_vret rfl rfl ⟨_, _, rfl, rfl, h⟩
theorem S39_48 {e : En} {I : HI} {D : HD} {Q : HI → HD → Prop} {A : Nat} {y1 : Int} (he : HS e) (hA : isA A)
    (h : CR 35 [vR (some A), vI ((uI I A 15 y1) A 15)] e (uI I A 15 y1) D (fun z1 I2 D3 => ((z1 = none → Q I2 D3) ∧ (∀ u4, z1 = some u4 → K0 u4 = 3 ∧ CV 26 [vR (some A), vI 7, vI (I2 u4 2)] e I2 D3 (fun I7 D8 => Q I7 D8))))) :
    RV 39 48 [vR (some A), vJ, vJ] [vI y1, vR (some A)] e I D Q := by
  show Run 39 48 [vR (some A), vJ, vJ] [vI y1, vR (some A)] (mk e I D) (pV e Q)
  refine K_putI (pc' := 51) rfl rfl (by decide) (fun h => absurd h (by decide)) (kA hA 0 6 ⟨rfl, rfl⟩) ?_
  refine R_aload_n (pc' := 52) rfl rfl rfl ?_
  refine R_aload_n (pc' := 53) rfl rfl rfl ?_
  refine K_getI (pc' := 56) rfl rfl (by decide) (kA hA 0 6 ⟨rfl, rfl⟩) rfl ?_
  refine KR_iv (as := [vI ((uI I A 15 y1) A 15)]) (rest := []) (pc' := 59) rfl rfl rfl (kA hA 0 6 ⟨rfl, rfl⟩) rfl (Nat.le_of_ble_eq_true rfl) rfl (CR_mono h ?_)
  intro z1 I2 D3 h
  refine R_astore_n (ls' := [vR (some A), vJ, vR z1]) (pc' := 60) rfl rfl rfl ?_
  refine R_aload_n (pc' := 61) rfl rfl rfl ?_
  refine R_ifnull (pc' := 64) rfl rfl (fun hn => ?_) (fun u4 hn => ?_)
  · replace h := h.1 hn
    subst hn
    exact R_vret rfl rfl ⟨_, _, rfl, rfl, h⟩
  · replace h := h.2 u4 hn
    subst hn
    have hu5 := h.1
    replace h := h.2
    refine R_aload_n (pc' := 65) rfl rfl rfl ?_
    refine R_bipush (pc' := 67) rfl rfl ?_
    refine R_aload_n (pc' := 68) rfl rfl rfl ?_
    refine K_getIN (pc' := 71) rfl rfl (by decide) hu5 rfl ?_
    refine KV_iv (as := [vI 7, vI (I2 u4 2)]) (rest := []) (pc' := 74) rfl rfl rfl (kA hA 0 6 ⟨rfl, rfl⟩) rfl (Nat.le_of_ble_eq_true rfl) rfl (CV_mono h ?_)
    intro I7 D8 h
    exact R_vret rfl rfl ⟨_, _, rfl, rfl, h⟩
/-! 40 X5_lastCatalogue -/
theorem S40 {e : En} {I : HI} {D : HD} {Q : Int → HI → HD → Prop} {A : Nat} {x1 : Int} (he : HS e) (hA : isA A)
    (h : RI 40 7 [vR (some A), vI x1, vI 0, vI (-1), vI 1, vJ] [] e I D Q) :
    CI 40 [vR (some A), vI x1] e I D Q := by
  refine Call_run (ls := [vR (some A), vI x1, vJ, vJ, vJ, vJ]) rfl rfl ?_
  refine R_iconst (pc' := 1) rfl rfl ?_
  refine R_istore_n (ls' := [vR (some A), vI x1, vI 0, vJ, vJ, vJ]) (pc' := 2) rfl rfl rfl ?_
  refine R_iconst (pc' := 3) rfl rfl ?_
  refine R_istore_n (ls' := [vR (some A), vI x1, vI 0, vI (-1), vJ, vJ]) (pc' := 4) rfl rfl rfl ?_
  refine R_iconst (pc' := 5) rfl rfl ?_
  refine R_istore (ls' := [vR (some A), vI x1, vI 0, vI (-1), vI 1, vJ]) (pc' := 7) rfl rfl rfl ?_
  exact h
theorem S40_7 {e : En} {I : HI} {D : HD} {Q : Int → HI → HD → Prop} {A : Nat} {x1 : Int} {x2 : Int} {x3 : Int} {x4 : Int} (he : HS e) (hA : isA A)
    (h : (((60 : Int) < x4 → Q x2 I D) ∧ (¬ ((60 : Int) < x4) → CR 35 [vR (some A), vI x4] e I D (fun z1 I2 D3 => ((z1 = none → RI 40 80 [vR (some A), vI x1, vI x2, vI x3, vI x4, vJ] [] e I2 D3 Q) ∧ (∀ u4, z1 = some u4 → K0 u4 = 3 ∧ ((¬ (I2 (u4 + 1) 3) = 1 → RI 40 80 [vR (some A), vI x1, vI x2, vI x3, vI x4, vJ] [] e I2 D3 Q) ∧ (¬ (¬ (I2 (u4 + 1) 3) = 1) → ((x3 ≤ (I2 u4 2) → ((x1 = 0 → RI 40 71 [vR (some A), vI x1, vJ, vJ, vI x4, vR (some u4)] [] e I2 D3 Q) ∧ (¬ (x1 = 0) → CI 36 [vR (some A), vI (I2 (u4 + 1) 4)] e I2 D3 (fun z6 I7 D8 => ((¬ z6 = 2 → RI 40 80 [vR (some A), vI x1, vI x2, vI x3, vI x4, vJ] [] e I7 D8 Q) ∧ (¬ (¬ z6 = 2) → RI 40 71 [vR (some A), vI x1, vJ, vJ, vI x4, vR (some u4)] [] e I7 D8 Q)))))) ∧ (¬ (x3 ≤ (I2 u4 2)) → RI 40 80 [vR (some A), vI x1, vI x2, vI x3, vI x4, vJ] [] e I2 D3 Q)))))))))) :
    RI 40 7 [vR (some A), vI x1, vI x2, vI x3, vI x4, vJ] [] e I D Q := by
  show Run 40 7 [vR (some A), vI x1, vI x2, vI x3, vI x4, vJ] [] (mk e I D) (pI e Q)
  refine R_iload (pc' := 9) rfl rfl rfl ?_
  refine R_bipush (pc' := 11) rfl rfl ?_
  refine R_icgt (pc' := 14) rfl rfl (fun hc => ?_) (fun hc => ?_)
  · replace h := h.1 hc
    refine R_iload_n (pc' := 87) rfl rfl rfl ?_
    exact R_iret rfl rfl ⟨_, _, _, rfl, rfl, h⟩
  · replace h := h.2 hc
    refine R_aload_n (pc' := 15) rfl rfl rfl ?_
    refine R_iload (pc' := 17) rfl rfl rfl ?_
    refine KR_iv (as := [vI x4]) (rest := []) (pc' := 20) rfl rfl rfl (kA hA 0 6 ⟨rfl, rfl⟩) rfl (Nat.le_of_ble_eq_true rfl) rfl (CR_mono h ?_)
    intro z1 I2 D3 h
    refine R_astore (ls' := [vR (some A), vI x1, vI x2, vI x3, vI x4, vR z1]) (pc' := 22) rfl rfl rfl ?_
    refine R_aload (pc' := 24) rfl rfl rfl ?_
    refine R_ifnull (pc' := 27) rfl rfl (fun hn => ?_) (fun u4 hn => ?_)
    · replace h := h.1 hn
      subst hn
      exact R_forget (ls' := [vR (some A), vI x1, vI x2, vI x3, vI x4, vJ]) ⟨Or.inl rfl, Or.inl rfl, Or.inl rfl, Or.inl rfl, Or.inl rfl, Or.inr rfl, trivial⟩ h
    · replace h := h.2 u4 hn
      subst hn
      have hu5 := h.1
      replace h := h.2
      refine R_aload (pc' := 29) rfl rfl rfl ?_
      refine K_getRN (pc' := 32) rfl rfl rfl hu5 (gF0 he hu5) ?_
      refine K_getIN (pc' := 35) rfl rfl (by decide) (kF hu5).1 rfl ?_
      refine R_iconst (pc' := 36) rfl rfl ?_
      refine R_icne (pc' := 39) rfl rfl (fun hc => ?_) (fun hc => ?_)
      · replace h := h.1 hc
        exact R_forget (ls' := [vR (some A), vI x1, vI x2, vI x3, vI x4, vJ]) ⟨Or.inl rfl, Or.inl rfl, Or.inl rfl, Or.inl rfl, Or.inl rfl, Or.inr rfl, trivial⟩ h
      · replace h := h.2 hc
        refine R_aload (pc' := 41) rfl rfl rfl ?_
        refine K_getIN (pc' := 44) rfl rfl (by decide) hu5 rfl ?_
        refine R_iload_n (pc' := 45) rfl rfl rfl ?_
        refine R_icge (pc' := 48) rfl rfl (fun hc => ?_) (fun hc => ?_)
        · replace h := h.1 hc
          refine R_iload_n (pc' := 52) rfl rfl rfl ?_
          refine R_ifeq (pc' := 55) rfl rfl (fun hc => ?_) (fun hc => ?_)
          · replace h := h.1 hc
            exact R_forget (ls' := [vR (some A), vI x1, vJ, vJ, vI x4, vR (some u4)]) ⟨Or.inl rfl, Or.inl rfl, Or.inr rfl, Or.inr rfl, Or.inl rfl, Or.inl rfl, trivial⟩ h
          · replace h := h.2 hc
            refine R_aload_n (pc' := 56) rfl rfl rfl ?_
            refine R_aload (pc' := 58) rfl rfl rfl ?_
            refine K_getRN (pc' := 61) rfl rfl rfl hu5 (gF0 he hu5) ?_
            refine K_getIN (pc' := 64) rfl rfl (by decide) (kF hu5).1 rfl ?_
            refine KI_iv (as := [vI (I2 (u4 + 1) 4)]) (rest := []) (pc' := 67) rfl rfl rfl (kA hA 0 6 ⟨rfl, rfl⟩) rfl (Nat.le_of_ble_eq_true rfl) rfl (CI_mono h ?_)
            intro z6 I7 D8 h
            refine R_iconst (pc' := 68) rfl rfl ?_
            refine R_icne (pc' := 71) rfl rfl (fun hc => ?_) (fun hc => ?_)
            · replace h := h.1 hc
              exact R_forget (ls' := [vR (some A), vI x1, vI x2, vI x3, vI x4, vJ]) ⟨Or.inl rfl, Or.inl rfl, Or.inl rfl, Or.inl rfl, Or.inl rfl, Or.inr rfl, trivial⟩ h
            · replace h := h.2 hc
              exact R_forget (ls' := [vR (some A), vI x1, vJ, vJ, vI x4, vR (some u4)]) ⟨Or.inl rfl, Or.inl rfl, Or.inr rfl, Or.inr rfl, Or.inl rfl, Or.inl rfl, trivial⟩ h
        · replace h := h.2 hc
          refine R_goto rfl ?_
          exact R_forget (ls' := [vR (some A), vI x1, vI x2, vI x3, vI x4, vJ]) ⟨Or.inl rfl, Or.inl rfl, Or.inl rfl, Or.inl rfl, Or.inl rfl, Or.inr rfl, trivial⟩ h
theorem S40_71 {e : En} {I : HI} {D : HD} {Q : Int → HI → HD → Prop} {A : Nat} {x1 : Int} {x4 : Int} {q5 : Nat} (he : HS e) (hA : isA A) (hq5 : K0 q5 = 3)
    (h : RI 40 80 [vR (some A), vI x1, vI x4, vI (I q5 2), vI x4, vJ] [] e I D Q) :
    RI 40 71 [vR (some A), vI x1, vJ, vJ, vI x4, vR (some q5)] [] e I D Q := by
  show Run 40 71 [vR (some A), vI x1, vJ, vJ, vI x4, vR (some q5)] [] (mk e I D) (pI e Q)
  refine R_iload (pc' := 73) rfl rfl rfl ?_
  refine R_istore_n (ls' := [vR (some A), vI x1, vI x4, vJ, vI x4, vR (some q5)]) (pc' := 74) rfl rfl rfl ?_
  refine R_aload (pc' := 76) rfl rfl rfl ?_
  refine K_getIN (pc' := 79) rfl rfl (by decide) hq5 rfl ?_
  refine R_istore_n (ls' := [vR (some A), vI x1, vI x4, vI (I q5 2), vI x4, vR (some q5)]) (pc' := 80) rfl rfl rfl ?_
  exact R_forget (ls' := [vR (some A), vI x1, vI x4, vI (I q5 2), vI x4, vJ]) ⟨Or.inl rfl, Or.inl rfl, Or.inl rfl, Or.inl rfl, Or.inl rfl, Or.inr rfl, trivial⟩ h
theorem S40_80 {e : En} {I : HI} {D : HD} {Q : Int → HI → HD → Prop} {A : Nat} {x1 : Int} {x2 : Int} {x3 : Int} {x4 : Int} (he : HS e) (hA : isA A)
    (h : (-2147483648 ≤ (x4 + 1) ∧ (x4 + 1) < 2147483648) ∧ RI 40 7 [vR (some A), vI x1, vI x2, vI x3, vI (x4 + 1), vJ] [] e I D Q) :
    RI 40 80 [vR (some A), vI x1, vI x2, vI x3, vI x4, vJ] [] e I D Q := by
  show Run 40 80 [vR (some A), vI x1, vI x2, vI x3, vI x4, vJ] [] (mk e I D) (pI e Q)
  have g1 := h.1
  replace h := h.2
  refine R_iinc (ls' := [vR (some A), vI x1, vI x2, vI x3, vI (x4 + 1), vJ]) (pc' := 83) rfl rfl rfl g1 rfl ?_
  refine R_goto rfl ?_
  exact h
/-! 41 X5_choosePages -/
theorem S41 {e : En} {I : HI} {D : HD} {Q : HI → HD → Prop} {A : Nat} (he : HS e) (hA : isA A)
    (h : CV 17 [vR (some (A + 146))] e I D (fun I2 D3 => CR 35 [vR (some A), vI (I2 A 15)] e I2 D3 (fun z4 I5 D6 => ((z4 = none → RV 41 35 [vR (some A), vJ, vJ, vJ] [] e I5 D6 Q) ∧ (∀ u7, z4 = some u7 → K0 u7 = 3 ∧ CV 19 [vR (some (A + 146)), vR (some A), vI (I5 (u7 + 1) 4)] e I5 D6 (fun I10 D11 => RV 41 35 [vR (some A), vJ, vJ, vJ] [] e I10 D11 Q)))))) :
    CV 41 [vR (some A)] e I D Q := by
  refine Call_run (ls := [vR (some A), vJ, vJ, vJ]) rfl rfl ?_
  refine R_aload_n (pc' := 1) rfl rfl rfl ?_
  refine K_getR (pc' := 4) rfl rfl rfl (kA hA 0 6 ⟨rfl, rfl⟩) (gA he hA 0 16 146 ⟨⟨rfl, rfl⟩, rfl, rfl⟩) ?_
  refine KV_iv (as := []) (rest := []) (pc' := 7) rfl rfl rfl (kA hA 146 5 ⟨rfl, rfl⟩) rfl (Nat.le_of_ble_eq_true rfl) rfl (CV_mono h ?_)
  intro I2 D3 h
  refine R_aload_n (pc' := 8) rfl rfl rfl ?_
  refine R_aload_n (pc' := 9) rfl rfl rfl ?_
  refine K_getI (pc' := 12) rfl rfl (by decide) (kA hA 0 6 ⟨rfl, rfl⟩) rfl ?_
  refine KR_iv (as := [vI (I2 A 15)]) (rest := []) (pc' := 15) rfl rfl rfl (kA hA 0 6 ⟨rfl, rfl⟩) rfl (Nat.le_of_ble_eq_true rfl) rfl (CR_mono h ?_)
  intro z4 I5 D6 h
  refine R_astore_n (ls' := [vR (some A), vR z4, vJ, vJ]) (pc' := 16) rfl rfl rfl ?_
  refine R_aload_n (pc' := 17) rfl rfl rfl ?_
  refine R_ifnull (pc' := 20) rfl rfl (fun hn => ?_) (fun u7 hn => ?_)
  · replace h := h.1 hn
    subst hn
    exact R_forget (ls' := [vR (some A), vJ, vJ, vJ]) ⟨Or.inl rfl, Or.inr rfl, Or.inl rfl, Or.inl rfl, trivial⟩ h
  · replace h := h.2 u7 hn
    subst hn
    have hu8 := h.1
    replace h := h.2
    refine R_aload_n (pc' := 21) rfl rfl rfl ?_
    refine K_getR (pc' := 24) rfl rfl rfl (kA hA 0 6 ⟨rfl, rfl⟩) (gA he hA 0 16 146 ⟨⟨rfl, rfl⟩, rfl, rfl⟩) ?_
    refine R_aload_n (pc' := 25) rfl rfl rfl ?_
    refine R_aload_n (pc' := 26) rfl rfl rfl ?_
    refine K_getRN (pc' := 29) rfl rfl rfl hu8 (gF0 he hu8) ?_
    refine K_getIN (pc' := 32) rfl rfl (by decide) (kF hu8).1 rfl ?_
    refine KV_iv (as := [vR (some A), vI (I5 (u7 + 1) 4)]) (rest := []) (pc' := 35) rfl rfl rfl (kA hA 146 5 ⟨rfl, rfl⟩) rfl (Nat.le_of_ble_eq_true rfl) rfl (CV_mono h ?_)
    intro I10 D11 h
    exact R_forget (ls' := [vR (some A), vJ, vJ, vJ]) ⟨Or.inl rfl, Or.inr rfl, Or.inl rfl, Or.inl rfl, trivial⟩ h
theorem S41_35 {e : En} {I : HI} {D : HD} {Q : HI → HD → Prop} {A : Nat} (he : HS e) (hA : isA A)
    (h : RV 41 39 [vR (some A), vJ, vI 0, vI 1] [] e I D Q) :
    RV 41 35 [vR (some A), vJ, vJ, vJ] [] e I D Q := by
  show Run 41 35 [vR (some A), vJ, vJ, vJ] [] (mk e I D) (pV e Q)
  refine R_iconst (pc' := 36) rfl rfl ?_
  refine R_istore_n (ls' := [vR (some A), vJ, vI 0, vJ]) (pc' := 37) rfl rfl rfl ?_
  refine R_iconst (pc' := 38) rfl rfl ?_
  refine R_istore_n (ls' := [vR (some A), vJ, vI 0, vI 1]) (pc' := 39) rfl rfl rfl ?_
  exact h
theorem S41_39 {e : En} {I : HI} {D : HD} {Q : HI → HD → Prop} {A : Nat} {x2 : Int} {x3 : Int} (he : HS e) (hA : isA A)
    (h : (((60 : Int) < x3 → ((x2 = (I (A + 146) 1) → Q I D) ∧ (¬ (x2 = (I (A + 146) 1)) → CV 21 [vR (some (A + 146)), vR (some A)] e I D (fun I2 D3 => CV 26 [vR (some A), vI 8, vI 0] e I2 D3 (fun I5 D6 => Q I5 D6))))) ∧ (¬ ((60 : Int) < x3) → CI 36 [vR (some A), vI x3] e I D (fun z7 I8 D9 => ((¬ z7 = 3 → RV 41 60 [vR (some A), vJ, vJ, vI x3] [vI 0, vI x2] e I8 D9 Q) ∧ (¬ (¬ z7 = 3) → RV 41 60 [vR (some A), vJ, vJ, vI x3] [vI 1, vI x2] e I8 D9 Q)))))) :
    RV 41 39 [vR (some A), vJ, vI x2, vI x3] [] e I D Q := by
  show Run 41 39 [vR (some A), vJ, vI x2, vI x3] [] (mk e I D) (pV e Q)
  refine R_iload_n (pc' := 40) rfl rfl rfl ?_
  refine R_bipush (pc' := 42) rfl rfl ?_
  refine R_icgt (pc' := 45) rfl rfl (fun hc => ?_) (fun hc => ?_)
  · replace h := h.1 hc
    refine R_iload_n (pc' := 69) rfl rfl rfl ?_
    refine R_aload_n (pc' := 70) rfl rfl rfl ?_
    refine K_getR (pc' := 73) rfl rfl rfl (kA hA 0 6 ⟨rfl, rfl⟩) (gA he hA 0 16 146 ⟨⟨rfl, rfl⟩, rfl, rfl⟩) ?_
    refine K_getIN (pc' := 76) rfl rfl (by decide) (kA hA 146 5 ⟨rfl, rfl⟩) rfl ?_
    refine R_iceq (pc' := 79) rfl rfl (fun hc => ?_) (fun hc => ?_)
    · replace h := h.1 hc
      exact R_vret rfl rfl ⟨_, _, rfl, rfl, h⟩
    · replace h := h.2 hc
      refine R_aload_n (pc' := 80) rfl rfl rfl ?_
      refine K_getR (pc' := 83) rfl rfl rfl (kA hA 0 6 ⟨rfl, rfl⟩) (gA he hA 0 16 146 ⟨⟨rfl, rfl⟩, rfl, rfl⟩) ?_
      refine R_aload_n (pc' := 84) rfl rfl rfl ?_
      refine KV_iv (as := [vR (some A)]) (rest := []) (pc' := 87) rfl rfl rfl (kA hA 146 5 ⟨rfl, rfl⟩) rfl (Nat.le_of_ble_eq_true rfl) rfl (CV_mono h ?_)
      intro I2 D3 h
      refine R_aload_n (pc' := 88) rfl rfl rfl ?_
      refine R_bipush (pc' := 90) rfl rfl ?_
      refine R_iconst (pc' := 91) rfl rfl ?_
      refine KV_iv (as := [vI 8, vI 0]) (rest := []) (pc' := 94) rfl rfl rfl (kA hA 0 6 ⟨rfl, rfl⟩) rfl (Nat.le_of_ble_eq_true rfl) rfl (CV_mono h ?_)
      intro I5 D6 h
      exact R_vret rfl rfl ⟨_, _, rfl, rfl, h⟩
  · replace h := h.2 hc
    refine R_iload_n (pc' := 46) rfl rfl rfl ?_
    refine R_aload_n (pc' := 47) rfl rfl rfl ?_
    refine R_iload_n (pc' := 48) rfl rfl rfl ?_
    refine KI_iv (as := [vI x3]) (rest := [vI x2]) (pc' := 51) rfl rfl rfl (kA hA 0 6 ⟨rfl, rfl⟩) rfl (Nat.le_of_ble_eq_true rfl) rfl (CI_mono h ?_)
    intro z7 I8 D9 h
    refine R_iconst (pc' := 52) rfl rfl ?_
    refine R_icne (pc' := 55) rfl rfl (fun hc => ?_) (fun hc => ?_)
    · replace h := h.1 hc
      refine R_iconst (pc' := 60) rfl rfl ?_
      exact R_forget (ls' := [vR (some A), vJ, vJ, vI x3]) ⟨Or.inl rfl, Or.inl rfl, Or.inr rfl, Or.inl rfl, trivial⟩ h
    · replace h := h.2 hc
      refine R_iconst (pc' := 56) rfl rfl ?_
      refine R_goto rfl ?_
      exact R_forget (ls' := [vR (some A), vJ, vJ, vI x3]) ⟨Or.inl rfl, Or.inl rfl, Or.inr rfl, Or.inl rfl, trivial⟩ h
theorem S41_60 {e : En} {I : HI} {D : HD} {Q : HI → HD → Prop} {A : Nat} {x3 : Int} {y0 : Int} {y1 : Int} (he : HS e) (hA : isA A)
    (h : (-2147483648 ≤ (y0 + y1) ∧ (y0 + y1) < 2147483648) ∧ (-2147483648 ≤ (x3 + 1) ∧ (x3 + 1) < 2147483648) ∧ RV 41 39 [vR (some A), vJ, vI (y0 + y1), vI (x3 + 1)] [] e I D Q) :
    RV 41 60 [vR (some A), vJ, vJ, vI x3] [vI y1, vI y0] e I D Q := by
  show Run 41 60 [vR (some A), vJ, vJ, vI x3] [vI y1, vI y0] (mk e I D) (pV e Q)
  have g1 := h.1
  replace h := h.2
  refine R_iadd (pc' := 61) rfl rfl g1 ?_
  refine R_istore_n (ls' := [vR (some A), vJ, vI (y0 + y1), vI x3]) (pc' := 62) rfl rfl rfl ?_
  have g2 := h.1
  replace h := h.2
  refine R_iinc (ls' := [vR (some A), vJ, vI (y0 + y1), vI (x3 + 1)]) (pc' := 65) rfl rfl rfl g2 rfl ?_
  refine R_goto rfl ?_
  exact h
