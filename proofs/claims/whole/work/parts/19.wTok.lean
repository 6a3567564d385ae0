/-! what the code of each method does: printed by wip/whole/gen/decomp.py -/
/-! 84 X8_endsObject -/
theorem S84 {e : En} {I : HI} {D : HD} {Q : Int → HI → HD → Prop} {x0 : Int} (he : HS e)
    (h : ((x0 = 6 → RI 84 17 [vJ] [] e I D Q) ∧ (¬ (x0 = 6) → ((x0 = 7 → RI 84 17 [vJ] [] e I D Q) ∧ (¬ (x0 = 7) → ((¬ x0 = 5 → Q 0 I D) ∧ (¬ (¬ x0 = 5) → RI 84 17 [vJ] [] e I D Q))))))) :
    CI 84 [vI x0] e I D Q := by
  refine Call_run (ls := [vI x0]) rfl rfl ?_
  refine R_iload_n (pc' := 1) rfl rfl rfl ?_
  refine R_bipush (pc' := 3) rfl rfl ?_
  refine R_iceq (pc' := 6) rfl rfl (fun hc => ?_) (fun hc => ?_)
  · replace h := h.1 hc
    exact R_forget (ls' := [vJ]) ⟨Or.inr rfl, trivial⟩ h
  · replace h := h.2 hc
    refine R_iload_n (pc' := 7) rfl rfl rfl ?_
    refine R_bipush (pc' := 9) rfl rfl ?_
    refine R_iceq (pc' := 12) rfl rfl (fun hc => ?_) (fun hc => ?_)
    · replace h := h.1 hc
      exact R_forget (ls' := [vJ]) ⟨Or.inr rfl, trivial⟩ h
    · replace h := h.2 hc
      refine R_iload_n (pc' := 13) rfl rfl rfl ?_
      refine R_iconst (pc' := 14) rfl rfl ?_
      refine R_icne (pc' := 17) rfl rfl (fun hc => ?_) (fun hc => ?_)
      · replace h := h.1 hc
        refine R_iconst (pc' := 22) rfl rfl ?_
        exact R_zret rfl rfl (Or.inl rfl) ⟨_, _, _, rfl, rfl, h⟩
      · replace h := h.2 hc
        exact R_forget (ls' := [vJ]) ⟨Or.inr rfl, trivial⟩ h
theorem S84_17 {e : En} {I : HI} {D : HD} {Q : Int → HI → HD → Prop} (he : HS e)
    (h : Q 1 I D) :
    RI 84 17 [vJ] [] e I D Q := by
  show Run 84 17 [vJ] [] (mk e I D) (pI e Q)
  refine R_iconst (pc' := 18) rfl rfl ?_
  refine R_goto rfl ?_
  exact R_zret rfl rfl (Or.inr rfl) ⟨_, _, _, rfl, rfl, h⟩
/-! 43 X6_index -/
theorem S43 {e : En} {I : HI} {D : HD} {Q : HI → HD → Prop} {q1 : Nat} {x2 : Int} (he : HS e) (hq1 : K0 q1 = 22)
    (h : (-2147483648 ≤ ((3001 : Int) - 1) ∧ ((3001 : Int) - 1) < 2147483648) ∧ CV 44 [vR (some 1), vI (max 0 (min x2 (min ((L0 q1) : Int) ((3001 : Int) - 1)))), vI (max 0 (min x2 (min ((L0 q1) : Int) ((3001 : Int) - 1)))), vI (max 0 (min x2 (min ((L0 q1) : Int) ((3001 : Int) - 1)))), vI 0] e (uI I 1 5 (max 0 (min x2 (min ((L0 q1) : Int) ((3001 : Int) - 1))))) (uD D 1 4 q1) (fun I3 D4 => (-2147483648 ≤ ((I3 1 5) - 1) ∧ ((I3 1 5) - 1) < 2147483648) ∧ RV 43 65 [vR (some 1), vR (some q1), vJ, vI (I3 1 5), vI (I3 1 5), vI ((I3 1 5) - 1), vJ] [] e I3 D4 Q)) :
    CV 43 [vR (some 1), vR (some q1), vI x2] e I D Q := by
  refine Call_run (ls := [vR (some 1), vR (some q1), vI x2, vJ, vJ, vJ, vJ]) rfl rfl ?_
  refine R_aload_n (pc' := 1) rfl rfl rfl ?_
  refine R_aload_n (pc' := 2) rfl rfl rfl ?_
  refine K_putR (pc' := 5) rfl rfl rfl rfl rfl ?_
  refine R_aload_n (pc' := 6) rfl rfl rfl ?_
  refine R_iconst (pc' := 7) rfl rfl ?_
  refine R_iload_n (pc' := 8) rfl rfl rfl ?_
  refine R_aload_n (pc' := 9) rfl rfl rfl ?_
  refine K_alen (pc' := 10) rfl rfl 1 hq1 (by decide) rfl ?_
  refine R_aload_n (pc' := 11) rfl rfl rfl ?_
  refine K_getR (pc' := 14) rfl rfl rfl rfl (st_at he rfl rfl (by decide)) ?_
  refine K_alen (pc' := 15) rfl rfl 0 rfl (by decide) rfl ?_
  refine R_iconst (pc' := 16) rfl rfl ?_
  have g1 := h.1
  replace h := h.2
  refine R_isub (pc' := 17) rfl rfl g1 ?_
  refine R_min (pc' := 20) rfl rfl (Nat.le_of_ble_eq_true rfl) ?_
  refine R_min (pc' := 23) rfl rfl (Nat.le_of_ble_eq_true rfl) ?_
  refine R_max (pc' := 26) rfl rfl (Nat.le_of_ble_eq_true rfl) ?_
  refine K_putI (pc' := 29) rfl rfl (by decide) (fun h => absurd h (by decide)) rfl ?_
  refine R_aload_n (pc' := 30) rfl rfl rfl ?_
  refine R_aload_n (pc' := 31) rfl rfl rfl ?_
  refine K_getI (pc' := 34) rfl rfl (by decide) rfl rfl ?_
  refine R_aload_n (pc' := 35) rfl rfl rfl ?_
  refine K_getI (pc' := 38) rfl rfl (by decide) rfl rfl ?_
  refine R_aload_n (pc' := 39) rfl rfl rfl ?_
  refine K_getI (pc' := 42) rfl rfl (by decide) rfl rfl ?_
  refine R_iconst (pc' := 43) rfl rfl ?_
  refine KV_iv (as := [vI (max 0 (min x2 (min ((L0 q1) : Int) ((3001 : Int) - 1)))), vI (max 0 (min x2 (min ((L0 q1) : Int) ((3001 : Int) - 1)))), vI (max 0 (min x2 (min ((L0 q1) : Int) ((3001 : Int) - 1)))), vI 0]) (rest := []) (pc' := 46) rfl rfl rfl rfl rfl (Nat.le_of_ble_eq_true rfl) rfl (CV_mono h ?_)
  intro I3 D4 h
  refine R_aload_n (pc' := 47) rfl rfl rfl ?_
  refine K_getI (pc' := 50) rfl rfl (by decide) rfl rfl ?_
  refine R_istore_n (ls' := [vR (some 1), vR (some q1), vI x2, vI (I3 1 5), vJ, vJ, vJ]) (pc' := 51) rfl rfl rfl ?_
  refine R_aload_n (pc' := 52) rfl rfl rfl ?_
  refine K_getI (pc' := 55) rfl rfl (by decide) rfl rfl ?_
  refine R_istore (ls' := [vR (some 1), vR (some q1), vI x2, vI (I3 1 5), vI (I3 1 5), vJ, vJ]) (pc' := 57) rfl rfl rfl ?_
  refine R_aload_n (pc' := 58) rfl rfl rfl ?_
  refine K_getI (pc' := 61) rfl rfl (by decide) rfl rfl ?_
  refine R_iconst (pc' := 62) rfl rfl ?_
  have g5 := h.1
  replace h := h.2
  refine R_isub (pc' := 63) rfl rfl g5 ?_
  refine R_istore (ls' := [vR (some 1), vR (some q1), vI x2, vI (I3 1 5), vI (I3 1 5), vI ((I3 1 5) - 1), vJ]) (pc' := 65) rfl rfl rfl ?_
  exact R_forget (ls' := [vR (some 1), vR (some q1), vJ, vI (I3 1 5), vI (I3 1 5), vI ((I3 1 5) - 1), vJ]) ⟨Or.inl rfl, Or.inl rfl, Or.inr rfl, Or.inl rfl, Or.inl rfl, Or.inl rfl, Or.inl rfl, trivial⟩ h
theorem S43_65 {e : En} {I : HI} {D : HD} {Q : HI → HD → Prop} {q1 : Nat} {x3 : Int} {x4 : Int} {x5 : Int} (he : HS e) (hq1 : K0 q1 = 22)
    (h : ((x5 < 0 → Q I D) ∧ (¬ (x5 < 0) → (0 ≤ x5 ∧ x5 < ((L0 q1) : Int)) ∧ ((¬ ((I q1 (x5.toNat)) % 256) = 10 → RV 43 93 [vR (some 1), vR (some q1), vJ, vJ, vI x4, vI x5, vI ((I q1 (x5.toNat)) % 256)] [vI x3] e I D Q) ∧ (¬ (¬ ((I q1 (x5.toNat)) % 256) = 10) → RV 43 93 [vR (some 1), vR (some q1), vJ, vJ, vI x4, vI x5, vI ((I q1 (x5.toNat)) % 256)] [vI x5] e I D Q))))) :
    RV 43 65 [vR (some 1), vR (some q1), vJ, vI x3, vI x4, vI x5, vJ] [] e I D Q := by
  show Run 43 65 [vR (some 1), vR (some q1), vJ, vI x3, vI x4, vI x5, vJ] [] (mk e I D) (pV e Q)
  refine R_iload (pc' := 67) rfl rfl rfl ?_
  refine R_iflt (pc' := 70) rfl rfl (fun hc => ?_) (fun hc => ?_)
  · replace h := h.1 hc
    exact R_vret rfl rfl ⟨_, _, rfl, rfl, h⟩
  · replace h := h.2 hc
    refine R_aload_n (pc' := 71) rfl rfl rfl ?_
    refine R_iload (pc' := 73) rfl rfl rfl ?_
    have g1 := h.1
    replace h := h.2
    refine K_bald (pc' := 74) rfl rfl hq1 g1.1 g1.2 rfl ?_
    refine R_sipush (pc' := 77) rfl rfl ?_
    refine R_iand255 (pc' := 78) rfl rfl ?_
    refine R_istore (ls' := [vR (some 1), vR (some q1), vJ, vI x3, vI x4, vI x5, vI ((I q1 (x5.toNat)) % 256)]) (pc' := 80) rfl rfl rfl ?_
    refine R_iload (pc' := 82) rfl rfl rfl ?_
    refine R_bipush (pc' := 84) rfl rfl ?_
    refine R_icne (pc' := 87) rfl rfl (fun hc => ?_) (fun hc => ?_)
    · replace h := h.1 hc
      refine R_iload_n (pc' := 93) rfl rfl rfl ?_
      exact R_forget (ls' := [vR (some 1), vR (some q1), vJ, vJ, vI x4, vI x5, vI ((I q1 (x5.toNat)) % 256)]) ⟨Or.inl rfl, Or.inl rfl, Or.inl rfl, Or.inr rfl, Or.inl rfl, Or.inl rfl, Or.inl rfl, trivial⟩ h
    · replace h := h.2 hc
      refine R_iload (pc' := 89) rfl rfl rfl ?_
      refine R_goto rfl ?_
      exact R_forget (ls' := [vR (some 1), vR (some q1), vJ, vJ, vI x4, vI x5, vI ((I q1 (x5.toNat)) % 256)]) ⟨Or.inl rfl, Or.inl rfl, Or.inl rfl, Or.inr rfl, Or.inl rfl, Or.inl rfl, Or.inl rfl, trivial⟩ h
theorem S43_93 {e : En} {I : HI} {D : HD} {Q : HI → HD → Prop} {q1 : Nat} {x4 : Int} {x5 : Int} {x6 : Int} {y0 : Int} (he : HS e) (hq1 : K0 q1 = 22)
    (h : ((¬ x6 = 41 → RV 43 110 [vR (some 1), vR (some q1), vJ, vI y0, vJ, vI x5, vI x6] [vI x4] e I D Q) ∧ (¬ (¬ x6 = 41) → (-2147483648 ≤ (x5 + 1) ∧ (x5 + 1) < 2147483648) ∧ RV 43 110 [vR (some 1), vR (some q1), vJ, vI y0, vJ, vI x5, vI x6] [vI (x5 + 1)] e I D Q))) :
    RV 43 93 [vR (some 1), vR (some q1), vJ, vJ, vI x4, vI x5, vI x6] [vI y0] e I D Q := by
  show Run 43 93 [vR (some 1), vR (some q1), vJ, vJ, vI x4, vI x5, vI x6] [vI y0] (mk e I D) (pV e Q)
  refine R_istore_n (ls' := [vR (some 1), vR (some q1), vJ, vI y0, vI x4, vI x5, vI x6]) (pc' := 94) rfl rfl rfl ?_
  refine R_iload (pc' := 96) rfl rfl rfl ?_
  refine R_bipush (pc' := 98) rfl rfl ?_
  refine R_icne (pc' := 101) rfl rfl (fun hc => ?_) (fun hc => ?_)
  · replace h := h.1 hc
    refine R_iload (pc' := 110) rfl rfl rfl ?_
    exact R_forget (ls' := [vR (some 1), vR (some q1), vJ, vI y0, vJ, vI x5, vI x6]) ⟨Or.inl rfl, Or.inl rfl, Or.inl rfl, Or.inl rfl, Or.inr rfl, Or.inl rfl, Or.inl rfl, trivial⟩ h
  · replace h := h.2 hc
    refine R_iload (pc' := 103) rfl rfl rfl ?_
    refine R_iconst (pc' := 104) rfl rfl ?_
    have g1 := h.1
    replace h := h.2
    refine R_iadd (pc' := 105) rfl rfl g1 ?_
    refine R_goto rfl ?_
    exact R_forget (ls' := [vR (some 1), vR (some q1), vJ, vI y0, vJ, vI x5, vI x6]) ⟨Or.inl rfl, Or.inl rfl, Or.inl rfl, Or.inl rfl, Or.inr rfl, Or.inl rfl, Or.inl rfl, trivial⟩ h
theorem S43_110 {e : En} {I : HI} {D : HD} {Q : HI → HD → Prop} {q1 : Nat} {x3 : Int} {x5 : Int} {x6 : Int} {y0 : Int} (he : HS e) (hq1 : K0 q1 = 22)
    (h : (((32 : Int) < x6 → ((¬ x6 = 37 → ((¬ x6 = 40 → CI 45 [vR (some 1), vI x5, vI x6] e I D (fun z1 I2 D3 => RV 43 189 [vR (some 1), vR (some q1), vJ, vI x3, vI y0, vI x5, vI x6] [vI z1, vI x5, vI x5, vR (some 1)] e I2 D3 Q)) ∧ (¬ (¬ x6 = 40) → RV 43 189 [vR (some 1), vR (some q1), vJ, vI x3, vI y0, vI x5, vI x6] [vI y0, vI x5, vI x5, vR (some 1)] e I D Q))) ∧ (¬ (¬ x6 = 37) → CI 51 [vR (some 1), vI x3] e I D (fun z4 I5 D6 => CV 44 [vR (some 1), vI x5, vI z4, vI x3, vI 0] e I5 D6 (fun I8 D9 => RV 43 240 [vR (some 1), vR (some q1), vJ, vI x3, vI y0, vI x5, vJ] [] e I8 D9 Q))))) ∧ (¬ ((32 : Int) < x6) → (-2147483648 ≤ (x5 + 1) ∧ (x5 + 1) < 2147483648) ∧ CI 51 [vR (some 1), vI (x5 + 1)] e I D (fun z11 I12 D13 => (-2147483648 ≤ (x5 + 1) ∧ (x5 + 1) < 2147483648) ∧ CV 44 [vR (some 1), vI x5, vI z11, vI (x5 + 1), vI 0] e I12 D13 (fun I16 D17 => RV 43 240 [vR (some 1), vR (some q1), vJ, vI x3, vI y0, vI x5, vJ] [] e I16 D17 Q))))) :
    RV 43 110 [vR (some 1), vR (some q1), vJ, vI x3, vJ, vI x5, vI x6] [vI y0] e I D Q := by
  show Run 43 110 [vR (some 1), vR (some q1), vJ, vI x3, vJ, vI x5, vI x6] [vI y0] (mk e I D) (pV e Q)
  refine R_istore (ls' := [vR (some 1), vR (some q1), vJ, vI x3, vI y0, vI x5, vI x6]) (pc' := 112) rfl rfl rfl ?_
  refine R_iload (pc' := 114) rfl rfl rfl ?_
  refine R_bipush (pc' := 116) rfl rfl ?_
  refine R_icgt (pc' := 119) rfl rfl (fun hc => ?_) (fun hc => ?_)
  · replace h := h.1 hc
    refine R_iload (pc' := 143) rfl rfl rfl ?_
    refine R_bipush (pc' := 145) rfl rfl ?_
    refine R_icne (pc' := 148) rfl rfl (fun hc => ?_) (fun hc => ?_)
    · replace h := h.1 hc
      refine R_aload_n (pc' := 165) rfl rfl rfl ?_
      refine R_iload (pc' := 167) rfl rfl rfl ?_
      refine R_iload (pc' := 169) rfl rfl rfl ?_
      refine R_iload (pc' := 171) rfl rfl rfl ?_
      refine R_bipush (pc' := 173) rfl rfl ?_
      refine R_icne (pc' := 176) rfl rfl (fun hc => ?_) (fun hc => ?_)
      · replace h := h.1 hc
        refine R_aload_n (pc' := 182) rfl rfl rfl ?_
        refine R_iload (pc' := 184) rfl rfl rfl ?_
        refine R_iload (pc' := 186) rfl rfl rfl ?_
        refine KI_iv (as := [vI x5, vI x6]) (rest := [vI x5, vI x5, vR (some 1)]) (pc' := 189) rfl rfl rfl rfl rfl (Nat.le_of_ble_eq_true rfl) rfl (CI_mono h ?_)
        intro z1 I2 D3 h
        exact h
      · replace h := h.2 hc
        refine R_iload (pc' := 178) rfl rfl rfl ?_
        refine R_goto rfl ?_
        exact h
    · replace h := h.2 hc
      refine R_aload_n (pc' := 149) rfl rfl rfl ?_
      refine R_iload (pc' := 151) rfl rfl rfl ?_
      refine R_aload_n (pc' := 152) rfl rfl rfl ?_
      refine R_iload_n (pc' := 153) rfl rfl rfl ?_
      refine KI_iv (as := [vI x3]) (rest := [vI x5, vR (some 1)]) (pc' := 156) rfl rfl rfl rfl rfl (Nat.le_of_ble_eq_true rfl) rfl (CI_mono h ?_)
      intro z4 I5 D6 h
      refine R_iload_n (pc' := 157) rfl rfl rfl ?_
      refine R_iconst (pc' := 158) rfl rfl ?_
      refine KV_iv (as := [vI x5, vI z4, vI x3, vI 0]) (rest := []) (pc' := 161) rfl rfl rfl rfl rfl (Nat.le_of_ble_eq_true rfl) rfl (CV_mono h ?_)
      intro I8 D9 h
      refine R_goto rfl ?_
      exact R_forget (ls' := [vR (some 1), vR (some q1), vJ, vI x3, vI y0, vI x5, vJ]) ⟨Or.inl rfl, Or.inl rfl, Or.inl rfl, Or.inl rfl, Or.inl rfl, Or.inl rfl, Or.inr rfl, trivial⟩ h
  · replace h := h.2 hc
    refine R_aload_n (pc' := 120) rfl rfl rfl ?_
    refine R_iload (pc' := 122) rfl rfl rfl ?_
    refine R_aload_n (pc' := 123) rfl rfl rfl ?_
    refine R_iload (pc' := 125) rfl rfl rfl ?_
    refine R_iconst (pc' := 126) rfl rfl ?_
    have g10 := h.1
    replace h := h.2
    refine R_iadd (pc' := 127) rfl rfl g10 ?_
    refine KI_iv (as := [vI (x5 + 1)]) (rest := [vI x5, vR (some 1)]) (pc' := 130) rfl rfl rfl rfl rfl (Nat.le_of_ble_eq_true rfl) rfl (CI_mono h ?_)
    intro z11 I12 D13 h
    refine R_iload (pc' := 132) rfl rfl rfl ?_
    refine R_iconst (pc' := 133) rfl rfl ?_
    have g14 := h.1
    replace h := h.2
    refine R_iadd (pc' := 134) rfl rfl g14 ?_
    refine R_iconst (pc' := 135) rfl rfl ?_
    refine KV_iv (as := [vI x5, vI z11, vI (x5 + 1), vI 0]) (rest := []) (pc' := 138) rfl rfl rfl rfl rfl (Nat.le_of_ble_eq_true rfl) rfl (CV_mono h ?_)
    intro I16 D17 h
    refine R_goto rfl ?_
    exact R_forget (ls' := [vR (some 1), vR (some q1), vJ, vI x3, vI y0, vI x5, vJ]) ⟨Or.inl rfl, Or.inl rfl, Or.inl rfl, Or.inl rfl, Or.inl rfl, Or.inl rfl, Or.inr rfl, trivial⟩ h
theorem S43_189 {e : En} {I : HI} {D : HD} {Q : HI → HD → Prop} {q1 : Nat} {x3 : Int} {x4 : Int} {x5 : Int} {x6 : Int} {y1 : Int} {y2 : Int} {y3 : Int} (he : HS e) (hq1 : K0 q1 = 22)
    (h : CV 44 [vR (some 1), vI y1, vI y2, vI y3, vI 1] e I D (fun I2 D3 => CI 46 [vR (some 1), vI x5] e I2 D3 (fun z4 I5 D6 => (0 ≤ x5 ∧ x5 < 3001) ∧ (0 ≤ x5 ∧ x5 < 3001) ∧ ((z4 < 0 → CI 47 [vR (some 1), vI x5, vI x6] e (uI I5 5 (x5.toNat) z4) D6 (fun z9 I10 D11 => RV 43 239 [vR (some 1), vR (some q1), vJ, vI x3, vI x4, vI x5, vJ] [vI z9, vI x5, vR (some 4)] e I10 D11 Q)) ∧ (¬ (z4 < 0) → CI 48 [vR (some 1), vI x5] e (uI I5 5 (x5.toNat) z4) D6 (fun z12 I13 D14 => RV 43 239 [vR (some 1), vR (some q1), vJ, vI x3, vI x4, vI x5, vJ] [vI z12, vI x5, vR (some 4)] e I13 D14 Q)))))) :
    RV 43 189 [vR (some 1), vR (some q1), vJ, vI x3, vI x4, vI x5, vI x6] [vI y3, vI y2, vI y1, vR (some 1)] e I D Q := by
  show Run 43 189 [vR (some 1), vR (some q1), vJ, vI x3, vI x4, vI x5, vI x6] [vI y3, vI y2, vI y1, vR (some 1)] (mk e I D) (pV e Q)
  refine R_iconst (pc' := 190) rfl rfl ?_
  refine KV_iv (as := [vI y1, vI y2, vI y3, vI 1]) (rest := []) (pc' := 193) rfl rfl rfl rfl rfl (Nat.le_of_ble_eq_true rfl) rfl (CV_mono h ?_)
  intro I2 D3 h
  refine R_aload_n (pc' := 194) rfl rfl rfl ?_
  refine K_getR (pc' := 197) rfl rfl rfl rfl (st_at he rfl rfl (by decide)) ?_
  refine R_iload (pc' := 199) rfl rfl rfl ?_
  refine R_aload_n (pc' := 200) rfl rfl rfl ?_
  refine R_iload (pc' := 202) rfl rfl rfl ?_
  refine KI_iv (as := [vI x5]) (rest := [vI x5, vR (some 5)]) (pc' := 205) rfl rfl rfl rfl rfl (Nat.le_of_ble_eq_true rfl) rfl (CI_mono h ?_)
  intro z4 I5 D6 h
  have g7 := h.1
  replace h := h.2
  refine K_iast (pc' := 206) rfl rfl rfl g7.1 g7.2 ?_
  refine R_aload_n (pc' := 207) rfl rfl rfl ?_
  refine K_getR (pc' := 210) rfl rfl rfl rfl (st_at he rfl rfl (by decide)) ?_
  refine R_iload (pc' := 212) rfl rfl rfl ?_
  refine R_aload_n (pc' := 213) rfl rfl rfl ?_
  refine K_getR (pc' := 216) rfl rfl rfl rfl (st_at he rfl rfl (by decide)) ?_
  refine R_iload (pc' := 218) rfl rfl rfl ?_
  have g8 := h.1
  replace h := h.2
  refine K_iald (pc' := 219) rfl rfl rfl g8.1 g8.2 uI_eq ?_
  refine R_iflt (pc' := 222) rfl rfl (fun hc => ?_) (fun hc => ?_)
  · replace h := h.1 hc
    refine R_aload_n (pc' := 232) rfl rfl rfl ?_
    refine R_iload (pc' := 234) rfl rfl rfl ?_
    refine R_iload (pc' := 236) rfl rfl rfl ?_
    refine KI_iv (as := [vI x5, vI x6]) (rest := [vI x5, vR (some 4)]) (pc' := 239) rfl rfl rfl rfl rfl (Nat.le_of_ble_eq_true rfl) rfl (CI_mono h ?_)
    intro z9 I10 D11 h
    exact R_forget (ls' := [vR (some 1), vR (some q1), vJ, vI x3, vI x4, vI x5, vJ]) ⟨Or.inl rfl, Or.inl rfl, Or.inl rfl, Or.inl rfl, Or.inl rfl, Or.inl rfl, Or.inr rfl, trivial⟩ h
  · replace h := h.2 hc
    refine R_aload_n (pc' := 223) rfl rfl rfl ?_
    refine R_iload (pc' := 225) rfl rfl rfl ?_
    refine KI_iv (as := [vI x5]) (rest := [vI x5, vR (some 4)]) (pc' := 228) rfl rfl rfl rfl rfl (Nat.le_of_ble_eq_true rfl) rfl (CI_mono h ?_)
    intro z12 I13 D14 h
    refine R_goto rfl ?_
    exact R_forget (ls' := [vR (some 1), vR (some q1), vJ, vI x3, vI x4, vI x5, vJ]) ⟨Or.inl rfl, Or.inl rfl, Or.inl rfl, Or.inl rfl, Or.inl rfl, Or.inl rfl, Or.inr rfl, trivial⟩ h
theorem S43_239 {e : En} {I : HI} {D : HD} {Q : HI → HD → Prop} {q1 : Nat} {x3 : Int} {x4 : Int} {x5 : Int} {y1 : Int} {y2 : Int} (he : HS e) (hq1 : K0 q1 = 22)
    (h : (0 ≤ y1 ∧ y1 < 3001) ∧ RV 43 240 [vR (some 1), vR (some q1), vJ, vI x3, vI x4, vI x5, vJ] [] e (uI I 4 (y1.toNat) y2) D Q) :
    RV 43 239 [vR (some 1), vR (some q1), vJ, vI x3, vI x4, vI x5, vJ] [vI y2, vI y1, vR (some 4)] e I D Q := by
  show Run 43 239 [vR (some 1), vR (some q1), vJ, vI x3, vI x4, vI x5, vJ] [vI y2, vI y1, vR (some 4)] (mk e I D) (pV e Q)
  have g1 := h.1
  replace h := h.2
  refine K_iast (pc' := 240) rfl rfl rfl g1.1 g1.2 ?_
  exact h
theorem S43_240 {e : En} {I : HI} {D : HD} {Q : HI → HD → Prop} {q1 : Nat} {x3 : Int} {x4 : Int} {x5 : Int} (he : HS e) (hq1 : K0 q1 = 22)
    (h : (-2147483648 ≤ (x5 + (-1)) ∧ (x5 + (-1)) < 2147483648) ∧ RV 43 65 [vR (some 1), vR (some q1), vJ, vI x3, vI x4, vI (x5 + (-1)), vJ] [] e I D Q) :
    RV 43 240 [vR (some 1), vR (some q1), vJ, vI x3, vI x4, vI x5, vJ] [] e I D Q := by
  show Run 43 240 [vR (some 1), vR (some q1), vJ, vI x3, vI x4, vI x5, vJ] [] (mk e I D) (pV e Q)
  have g1 := h.1
  replace h := h.2
  refine R_iinc (ls' := [vR (some 1), vR (some q1), vJ, vI x3, vI x4, vI (x5 + (-1)), vJ]) (pc' := 243) rfl rfl rfl g1 rfl ?_
  refine R_goto rfl ?_
  exact h
/-! 44 X6_setPlace -/
theorem S44 {e : En} {I : HI} {D : HD} {Q : HI → HD → Prop} {x1 : Int} {x2 : Int} {x3 : Int} {x4 : Int} (he : HS e)
    (h : (0 ≤ x1 ∧ x1 < 3001) ∧ (0 ≤ x1 ∧ x1 < 3001) ∧ (0 ≤ x1 ∧ x1 < 3001) ∧ (0 ≤ x1 ∧ x1 < 3001) ∧ Q (uI (uI (uI (uI I 2 (x1.toNat) x2) 3 (x1.toNat) x3) 4 (x1.toNat) x4) 5 (x1.toNat) (-1)) D) :
    CV 44 [vR (some 1), vI x1, vI x2, vI x3, vI x4] e I D Q := by
  refine Call_run (ls := [vR (some 1), vI x1, vI x2, vI x3, vI x4]) rfl rfl ?_
  refine R_aload_n (pc' := 1) rfl rfl rfl ?_
  refine K_getR (pc' := 4) rfl rfl rfl rfl (st_at he rfl rfl (by decide)) ?_
  refine R_iload_n (pc' := 5) rfl rfl rfl ?_
  refine R_iload_n (pc' := 6) rfl rfl rfl ?_
  have g1 := h.1
  replace h := h.2
  refine K_iast (pc' := 7) rfl rfl rfl g1.1 g1.2 ?_
  refine R_aload_n (pc' := 8) rfl rfl rfl ?_
  refine K_getR (pc' := 11) rfl rfl rfl rfl (st_at he rfl rfl (by decide)) ?_
  refine R_iload_n (pc' := 12) rfl rfl rfl ?_
  refine R_iload_n (pc' := 13) rfl rfl rfl ?_
  have g2 := h.1
  replace h := h.2
  refine K_iast (pc' := 14) rfl rfl rfl g2.1 g2.2 ?_
  refine R_aload_n (pc' := 15) rfl rfl rfl ?_
  refine K_getR (pc' := 18) rfl rfl rfl rfl (st_at he rfl rfl (by decide)) ?_
  refine R_iload_n (pc' := 19) rfl rfl rfl ?_
  refine R_iload (pc' := 21) rfl rfl rfl ?_
  have g3 := h.1
  replace h := h.2
  refine K_iast (pc' := 22) rfl rfl rfl g3.1 g3.2 ?_
  refine R_aload_n (pc' := 23) rfl rfl rfl ?_
  refine K_getR (pc' := 26) rfl rfl rfl rfl (st_at he rfl rfl (by decide)) ?_
  refine R_iload_n (pc' := 27) rfl rfl rfl ?_
  refine R_iconst (pc' := 28) rfl rfl ?_
  have g4 := h.1
  replace h := h.2
  refine K_iast (pc' := 29) rfl rfl rfl g4.1 g4.2 ?_
  exact R_vret rfl rfl ⟨_, _, rfl, rfl, h⟩
/-! 45 X6_tokenEnd -/
theorem S45 {e : En} {I : HI} {D : HD} {Q : Int → HI → HD → Prop} {x1 : Int} {x2 : Int} (he : HS e)
    (h : (-2147483648 ≤ (x1 + 1) ∧ (x1 + 1) < 2147483648) ∧ CI 50 [vR (some 1), vI (x1 + 1)] e I D (fun z2 I3 D4 => ((x2 = 47 → RI 45 21 [vR (some 1), vI x1, vJ, vI z2] [] e I3 D4 Q) ∧ (¬ (x2 = 47) → CI 49 [vI x2] e I3 D4 (fun z5 I6 D7 => ((z5 = 0 → ((x2 = 60 → RI 45 54 [vJ, vI x1, vI x2, vI z2] [] e I6 D7 Q) ∧ (¬ (x2 = 60) → ((¬ x2 = 62 → (-2147483648 ≤ (x1 + 1) ∧ (x1 + 1) < 2147483648) ∧ Q (x1 + 1) I6 D7) ∧ (¬ (¬ x2 = 62) → RI 45 54 [vJ, vI x1, vI x2, vI z2] [] e I6 D7 Q))))) ∧ (¬ (z5 = 0) → RI 45 21 [vR (some 1), vI x1, vJ, vI z2] [] e I6 D7 Q))))))) :
    CI 45 [vR (some 1), vI x1, vI x2] e I D Q := by
  refine Call_run (ls := [vR (some 1), vI x1, vI x2, vJ]) rfl rfl ?_
  refine R_aload_n (pc' := 1) rfl rfl rfl ?_
  refine R_iload_n (pc' := 2) rfl rfl rfl ?_
  refine R_iconst (pc' := 3) rfl rfl ?_
  have g1 := h.1
  replace h := h.2
  refine R_iadd (pc' := 4) rfl rfl g1 ?_
  refine KI_iv (as := [vI (x1 + 1)]) (rest := []) (pc' := 7) rfl rfl rfl rfl rfl (Nat.le_of_ble_eq_true rfl) rfl (CI_mono h ?_)
  intro z2 I3 D4 h
  refine R_istore_n (ls' := [vR (some 1), vI x1, vI x2, vI z2]) (pc' := 8) rfl rfl rfl ?_
  refine R_iload_n (pc' := 9) rfl rfl rfl ?_
  refine R_bipush (pc' := 11) rfl rfl ?_
  refine R_iceq (pc' := 14) rfl rfl (fun hc => ?_) (fun hc => ?_)
  · replace h := h.1 hc
    exact R_forget (ls' := [vR (some 1), vI x1, vJ, vI z2]) ⟨Or.inl rfl, Or.inl rfl, Or.inr rfl, Or.inl rfl, trivial⟩ h
  · replace h := h.2 hc
    refine R_iload_n (pc' := 15) rfl rfl rfl ?_
    refine KI_st (as := [vI x2]) (rest := []) (pc' := 18) rfl rfl rfl (Nat.le_of_ble_eq_true rfl) rfl (CI_mono h ?_)
    intro z5 I6 D7 h
    refine R_ifeq (pc' := 21) rfl rfl (fun hc => ?_) (fun hc => ?_)
    · replace h := h.1 hc
      refine R_iload_n (pc' := 43) rfl rfl rfl ?_
      refine R_bipush (pc' := 45) rfl rfl ?_
      refine R_iceq (pc' := 48) rfl rfl (fun hc => ?_) (fun hc => ?_)
      · replace h := h.1 hc
        exact R_forget (ls' := [vJ, vI x1, vI x2, vI z2]) ⟨Or.inr rfl, Or.inl rfl, Or.inl rfl, Or.inl rfl, trivial⟩ h
      · replace h := h.2 hc
        refine R_iload_n (pc' := 49) rfl rfl rfl ?_
        refine R_bipush (pc' := 51) rfl rfl ?_
        refine R_icne (pc' := 54) rfl rfl (fun hc => ?_) (fun hc => ?_)
        · replace h := h.1 hc
          refine R_iload_n (pc' := 66) rfl rfl rfl ?_
          refine R_iconst (pc' := 67) rfl rfl ?_
          have g8 := h.1
          replace h := h.2
          refine R_iadd (pc' := 68) rfl rfl g8 ?_
          exact R_iret rfl rfl ⟨_, _, _, rfl, rfl, h⟩
        · replace h := h.2 hc
          exact R_forget (ls' := [vJ, vI x1, vI x2, vI z2]) ⟨Or.inr rfl, Or.inl rfl, Or.inl rfl, Or.inl rfl, trivial⟩ h
    · replace h := h.2 hc
      exact R_forget (ls' := [vR (some 1), vI x1, vJ, vI z2]) ⟨Or.inl rfl, Or.inl rfl, Or.inr rfl, Or.inl rfl, trivial⟩ h
theorem S45_21 {e : En} {I : HI} {D : HD} {Q : Int → HI → HD → Prop} {x1 : Int} {x3 : Int} (he : HS e)
    (h : CI 49 [vI x3] e I D (fun z1 I2 D3 => ((z1 = 0 → (-2147483648 ≤ (x1 + 1) ∧ (x1 + 1) < 2147483648) ∧ Q (x1 + 1) I2 D3) ∧ (¬ (z1 = 0) → (-2147483648 ≤ (x1 + 1) ∧ (x1 + 1) < 2147483648) ∧ CI 52 [vR (some 1), vI (x1 + 1)] e I2 D3 (fun z6 I7 D8 => Q z6 I7 D8))))) :
    RI 45 21 [vR (some 1), vI x1, vJ, vI x3] [] e I D Q := by
  show Run 45 21 [vR (some 1), vI x1, vJ, vI x3] [] (mk e I D) (pI e Q)
  refine R_iload_n (pc' := 22) rfl rfl rfl ?_
  refine KI_st (as := [vI x3]) (rest := []) (pc' := 25) rfl rfl rfl (Nat.le_of_ble_eq_true rfl) rfl (CI_mono h ?_)
  intro z1 I2 D3 h
  refine R_ifeq (pc' := 28) rfl rfl (fun hc => ?_) (fun hc => ?_)
  · replace h := h.1 hc
    refine R_iload_n (pc' := 39) rfl rfl rfl ?_
    refine R_iconst (pc' := 40) rfl rfl ?_
    have g4 := h.1
    replace h := h.2
    refine R_iadd (pc' := 41) rfl rfl g4 ?_
    exact R_iret rfl rfl ⟨_, _, _, rfl, rfl, h⟩
  · replace h := h.2 hc
    refine R_aload_n (pc' := 29) rfl rfl rfl ?_
    refine R_iload_n (pc' := 30) rfl rfl rfl ?_
    refine R_iconst (pc' := 31) rfl rfl ?_
    have g5 := h.1
    replace h := h.2
    refine R_iadd (pc' := 32) rfl rfl g5 ?_
    refine KI_iv (as := [vI (x1 + 1)]) (rest := []) (pc' := 35) rfl rfl rfl rfl rfl (Nat.le_of_ble_eq_true rfl) rfl (CI_mono h ?_)
    intro z6 I7 D8 h
    refine R_goto rfl ?_
    exact R_iret rfl rfl ⟨_, _, _, rfl, rfl, h⟩
theorem S45_54 {e : En} {I : HI} {D : HD} {Q : Int → HI → HD → Prop} {x1 : Int} {x2 : Int} {x3 : Int} (he : HS e)
    (h : ((¬ x3 = x2 → (-2147483648 ≤ (x1 + 1) ∧ (x1 + 1) < 2147483648) ∧ Q (x1 + 1) I D) ∧ (¬ (¬ x3 = x2) → (-2147483648 ≤ (x1 + 2) ∧ (x1 + 2) < 2147483648) ∧ Q (x1 + 2) I D))) :
    RI 45 54 [vJ, vI x1, vI x2, vI x3] [] e I D Q := by
  show Run 45 54 [vJ, vI x1, vI x2, vI x3] [] (mk e I D) (pI e Q)
  refine R_iload_n (pc' := 55) rfl rfl rfl ?_
  refine R_iload_n (pc' := 56) rfl rfl rfl ?_
  refine R_icne (pc' := 59) rfl rfl (fun hc => ?_) (fun hc => ?_)
  · replace h := h.1 hc
    refine R_iload_n (pc' := 66) rfl rfl rfl ?_
    refine R_iconst (pc' := 67) rfl rfl ?_
    have g1 := h.1
    replace h := h.2
    refine R_iadd (pc' := 68) rfl rfl g1 ?_
    exact R_iret rfl rfl ⟨_, _, _, rfl, rfl, h⟩
  · replace h := h.2 hc
    refine R_iload_n (pc' := 60) rfl rfl rfl ?_
    refine R_iconst (pc' := 61) rfl rfl ?_
    have g2 := h.1
    replace h := h.2
    refine R_iadd (pc' := 62) rfl rfl g2 ?_
    refine R_goto rfl ?_
    exact R_iret rfl rfl ⟨_, _, _, rfl, rfl, h⟩
/-! 46 X6_numberOf -/
theorem S46 {e : En} {I : HI} {D : HD} {Q : Int → HI → HD → Prop} {x1 : Int} (he : HS e)
    (h : CI 52 [vR (some 1), vI x1] e I D (fun z1 I2 D3 => (-2147483648 ≤ (z1 - x1) ∧ (z1 - x1) < 2147483648) ∧ (((z1 - x1) ≤ 6 → RI 46 21 [vR (some 1), vJ, vI 0, vI z1, vI x1, vJ] [] e I2 D3 Q) ∧ (¬ ((z1 - x1) ≤ 6) → Q (-1) I2 D3)))) :
    CI 46 [vR (some 1), vI x1] e I D Q := by
  refine Call_run (ls := [vR (some 1), vI x1, vJ, vJ, vJ, vJ]) rfl rfl ?_
  refine R_iconst (pc' := 1) rfl rfl ?_
  refine R_istore_n (ls' := [vR (some 1), vI x1, vI 0, vJ, vJ, vJ]) (pc' := 2) rfl rfl rfl ?_
  refine R_aload_n (pc' := 3) rfl rfl rfl ?_
  refine R_iload_n (pc' := 4) rfl rfl rfl ?_
  refine KI_iv (as := [vI x1]) (rest := []) (pc' := 7) rfl rfl rfl rfl rfl (Nat.le_of_ble_eq_true rfl) rfl (CI_mono h ?_)
  intro z1 I2 D3 h
  refine R_istore_n (ls' := [vR (some 1), vI x1, vI 0, vI z1, vJ, vJ]) (pc' := 8) rfl rfl rfl ?_
  refine R_iload_n (pc' := 9) rfl rfl rfl ?_
  refine R_iload_n (pc' := 10) rfl rfl rfl ?_
  have g4 := h.1
  replace h := h.2
  refine R_isub (pc' := 11) rfl rfl g4 ?_
  refine R_bipush (pc' := 13) rfl rfl ?_
  refine R_icle (pc' := 16) rfl rfl (fun hc => ?_) (fun hc => ?_)
  · replace h := h.1 hc
    refine R_iload_n (pc' := 19) rfl rfl rfl ?_
    refine R_istore (ls' := [vR (some 1), vI x1, vI 0, vI z1, vI x1, vJ]) (pc' := 21) rfl rfl rfl ?_
    exact R_forget (ls' := [vR (some 1), vJ, vI 0, vI z1, vI x1, vJ]) ⟨Or.inl rfl, Or.inr rfl, Or.inl rfl, Or.inl rfl, Or.inl rfl, Or.inl rfl, trivial⟩ h
  · replace h := h.2 hc
    refine R_iconst (pc' := 17) rfl rfl ?_
    exact R_iret rfl rfl ⟨_, _, _, rfl, rfl, h⟩
theorem S46_21 {e : En} {I : HI} {D : HD} {Q : Int → HI → HD → Prop} {x2 : Int} {x3 : Int} {x4 : Int} (he : HS e)
    (h : ((x3 ≤ x4 → Q x2 I D) ∧ (¬ (x3 ≤ x4) → CI 50 [vR (some 1), vI x4] e I D (fun z1 I2 D3 => (-2147483648 ≤ (z1 - 48) ∧ (z1 - 48) < 2147483648) ∧ (((z1 - 48) < 0 → Q (-1) I2 D3) ∧ (¬ ((z1 - 48) < 0) → (((z1 - 48) ≤ 9 → (-2147483648 ≤ (x2 * 10) ∧ (x2 * 10) < 2147483648) ∧ (-2147483648 ≤ ((x2 * 10) + (z1 - 48)) ∧ ((x2 * 10) + (z1 - 48)) < 2147483648) ∧ (-2147483648 ≤ (x4 + 1) ∧ (x4 + 1) < 2147483648) ∧ RI 46 21 [vR (some 1), vJ, vI ((x2 * 10) + (z1 - 48)), vI x3, vI (x4 + 1), vJ] [] e I2 D3 Q) ∧ (¬ ((z1 - 48) ≤ 9) → Q (-1) I2 D3)))))))) :
    RI 46 21 [vR (some 1), vJ, vI x2, vI x3, vI x4, vJ] [] e I D Q := by
  show Run 46 21 [vR (some 1), vJ, vI x2, vI x3, vI x4, vJ] [] (mk e I D) (pI e Q)
  refine R_iload (pc' := 23) rfl rfl rfl ?_
  refine R_iload_n (pc' := 24) rfl rfl rfl ?_
  refine R_icge (pc' := 27) rfl rfl (fun hc => ?_) (fun hc => ?_)
  · replace h := h.1 hc
    refine R_iload_n (pc' := 67) rfl rfl rfl ?_
    exact R_iret rfl rfl ⟨_, _, _, rfl, rfl, h⟩
  · replace h := h.2 hc
    refine R_aload_n (pc' := 28) rfl rfl rfl ?_
    refine R_iload (pc' := 30) rfl rfl rfl ?_
    refine KI_iv (as := [vI x4]) (rest := []) (pc' := 33) rfl rfl rfl rfl rfl (Nat.le_of_ble_eq_true rfl) rfl (CI_mono h ?_)
    intro z1 I2 D3 h
    refine R_bipush (pc' := 35) rfl rfl ?_
    have g4 := h.1
    replace h := h.2
    refine R_isub (pc' := 36) rfl rfl g4 ?_
    refine R_istore (ls' := [vR (some 1), vJ, vI x2, vI x3, vI x4, vI (z1 - 48)]) (pc' := 38) rfl rfl rfl ?_
    refine R_iload (pc' := 40) rfl rfl rfl ?_
    refine R_iflt (pc' := 43) rfl rfl (fun hc => ?_) (fun hc => ?_)
    · replace h := h.1 hc
      refine R_iconst (pc' := 51) rfl rfl ?_
      exact R_iret rfl rfl ⟨_, _, _, rfl, rfl, h⟩
    · replace h := h.2 hc
      refine R_iload (pc' := 45) rfl rfl rfl ?_
      refine R_bipush (pc' := 47) rfl rfl ?_
      refine R_icle (pc' := 50) rfl rfl (fun hc => ?_) (fun hc => ?_)
      · replace h := h.1 hc
        refine R_iload_n (pc' := 53) rfl rfl rfl ?_
        refine R_bipush (pc' := 55) rfl rfl ?_
        have g5 := h.1
        replace h := h.2
        refine R_imul (pc' := 56) rfl rfl g5 ?_
        refine R_iload (pc' := 58) rfl rfl rfl ?_
        have g6 := h.1
        replace h := h.2
        refine R_iadd (pc' := 59) rfl rfl g6 ?_
        refine R_istore_n (ls' := [vR (some 1), vJ, vI ((x2 * 10) + (z1 - 48)), vI x3, vI x4, vI (z1 - 48)]) (pc' := 60) rfl rfl rfl ?_
        have g7 := h.1
        replace h := h.2
        refine R_iinc (ls' := [vR (some 1), vJ, vI ((x2 * 10) + (z1 - 48)), vI x3, vI (x4 + 1), vI (z1 - 48)]) (pc' := 63) rfl rfl rfl g7 rfl ?_
        refine R_goto rfl ?_
        exact R_forget (ls' := [vR (some 1), vJ, vI ((x2 * 10) + (z1 - 48)), vI x3, vI (x4 + 1), vJ]) ⟨Or.inl rfl, Or.inl rfl, Or.inl rfl, Or.inl rfl, Or.inl rfl, Or.inr rfl, trivial⟩ h
      · replace h := h.2 hc
        refine R_iconst (pc' := 51) rfl rfl ?_
        exact R_iret rfl rfl ⟨_, _, _, rfl, rfl, h⟩
/-! 47 X6_kindOf -/
theorem S47 {e : En} {I : HI} {D : HD} {Q : Int → HI → HD → Prop} {x1 : Int} {x2 : Int} (he : HS e)
    (h : CI 49 [vI x2] e I D (fun z1 I2 D3 => ((z1 = 0 → CI 52 [vR (some 1), vI x1] e I2 D3 (fun z4 I5 D6 => (-2147483648 ≤ (x1 + 2) ∧ (x1 + 2) < 2147483648) ∧ ((¬ z4 = (x1 + 2) → RI 47 55 [vJ, vJ, vI x2, vJ] [vI 0] e I5 D6 Q) ∧ (¬ (¬ z4 = (x1 + 2)) → RI 47 55 [vJ, vJ, vI x2, vJ] [vI 1] e I5 D6 Q)))) ∧ (¬ (z1 = 0) → CI 57 [vR (some 1), vI x1, vS 12] e I2 D3 (fun z8 I9 D10 => ((z8 = 0 → CI 57 [vR (some 1), vI x1, vS 13] e I9 D10 (fun z11 I12 D13 => ((z11 = 0 → Q 2 I12 D13) ∧ (¬ (z11 = 0) → Q 7 I12 D13)))) ∧ (¬ (z8 = 0) → Q 6 I9 D10))))))) :
    CI 47 [vR (some 1), vI x1, vI x2] e I D Q := by
  refine Call_run (ls := [vR (some 1), vI x1, vI x2, vJ]) rfl rfl ?_
  refine R_iload_n (pc' := 1) rfl rfl rfl ?_
  refine KI_st (as := [vI x2]) (rest := []) (pc' := 4) rfl rfl rfl (Nat.le_of_ble_eq_true rfl) rfl (CI_mono h ?_)
  intro z1 I2 D3 h
  refine R_ifeq (pc' := 7) rfl rfl (fun hc => ?_) (fun hc => ?_)
  · replace h := h.1 hc
    refine R_aload_n (pc' := 40) rfl rfl rfl ?_
    refine R_iload_n (pc' := 41) rfl rfl rfl ?_
    refine KI_iv (as := [vI x1]) (rest := []) (pc' := 44) rfl rfl rfl rfl rfl (Nat.le_of_ble_eq_true rfl) rfl (CI_mono h ?_)
    intro z4 I5 D6 h
    refine R_iload_n (pc' := 45) rfl rfl rfl ?_
    refine R_iconst (pc' := 46) rfl rfl ?_
    have g7 := h.1
    replace h := h.2
    refine R_iadd (pc' := 47) rfl rfl g7 ?_
    refine R_icne (pc' := 50) rfl rfl (fun hc => ?_) (fun hc => ?_)
    · replace h := h.1 hc
      refine R_iconst (pc' := 55) rfl rfl ?_
      exact R_forget (ls' := [vJ, vJ, vI x2, vJ]) ⟨Or.inr rfl, Or.inr rfl, Or.inl rfl, Or.inl rfl, trivial⟩ h
    · replace h := h.2 hc
      refine R_iconst (pc' := 51) rfl rfl ?_
      refine R_goto rfl ?_
      exact R_forget (ls' := [vJ, vJ, vI x2, vJ]) ⟨Or.inr rfl, Or.inr rfl, Or.inl rfl, Or.inl rfl, trivial⟩ h
  · replace h := h.2 hc
    refine R_aload_n (pc' := 8) rfl rfl rfl ?_
    refine R_iload_n (pc' := 9) rfl rfl rfl ?_
    refine R_ldcS (pc' := 11) rfl rfl ?_
    refine KI_iv (as := [vI x1, vS 12]) (rest := []) (pc' := 14) rfl rfl rfl rfl rfl (Nat.le_of_ble_eq_true rfl) rfl (CI_mono h ?_)
    intro z8 I9 D10 h
    refine R_ifeq (pc' := 17) rfl rfl (fun hc => ?_) (fun hc => ?_)
    · replace h := h.1 hc
      refine R_aload_n (pc' := 23) rfl rfl rfl ?_
      refine R_iload_n (pc' := 24) rfl rfl rfl ?_
      refine R_ldcS (pc' := 26) rfl rfl ?_
      refine KI_iv (as := [vI x1, vS 13]) (rest := []) (pc' := 29) rfl rfl rfl rfl rfl (Nat.le_of_ble_eq_true rfl) rfl (CI_mono h ?_)
      intro z11 I12 D13 h
      refine R_ifeq (pc' := 32) rfl rfl (fun hc => ?_) (fun hc => ?_)
      · replace h := h.1 hc
        refine R_iconst (pc' := 38) rfl rfl ?_
        exact R_iret rfl rfl ⟨_, _, _, rfl, rfl, h⟩
      · replace h := h.2 hc
        refine R_bipush (pc' := 34) rfl rfl ?_
        refine R_goto rfl ?_
        exact R_iret rfl rfl ⟨_, _, _, rfl, rfl, h⟩
    · replace h := h.2 hc
      refine R_bipush (pc' := 19) rfl rfl ?_
      refine R_goto rfl ?_
      exact R_iret rfl rfl ⟨_, _, _, rfl, rfl, h⟩
theorem S47_55 {e : En} {I : HI} {D : HD} {Q : Int → HI → HD → Prop} {x2 : Int} {y0 : Int} (he : HS e)
    (h : ((x2 = 47 → Q 8 I D) ∧ (x2 = 60 → ((y0 = 0 → Q 1 I D) ∧ (¬ (y0 = 0) → Q 9 I D))) ∧ (x2 = 62 → ((y0 = 0 → Q 1 I D) ∧ (¬ (y0 = 0) → Q 10 I D))) ∧ (x2 = 91 → Q 11 I D) ∧ (x2 = 93 → Q 12 I D) ∧ (x2 ≠ 47 → x2 ≠ 60 → x2 ≠ 62 → x2 ≠ 91 → x2 ≠ 93 → Q 1 I D))) :
    RI 47 55 [vJ, vJ, vI x2, vJ] [vI y0] e I D Q := by
  show Run 47 55 [vJ, vJ, vI x2, vJ] [vI y0] (mk e I D) (pI e Q)
  refine R_istore_n (ls' := [vJ, vJ, vI x2, vI y0]) (pc' := 56) rfl rfl rfl ?_
  refine R_iload_n (pc' := 57) rfl rfl rfl ?_
  by_cases c0 : x2 = 47
  · replace h := h.1 c0
    refine R_lsw (pc' := 108) rfl (by rw [c0]; rfl) ?_
    refine R_bipush (pc' := 110) rfl rfl ?_
    exact R_iret rfl rfl ⟨_, _, _, rfl, rfl, h⟩
  replace h := h.2
  by_cases c1 : x2 = 60
  · replace h := h.1 c1
    refine R_lsw (pc' := 111) rfl (by rw [c1]; rfl) ?_
    refine R_iload_n (pc' := 112) rfl rfl rfl ?_
    refine R_ifeq (pc' := 115) rfl rfl (fun hc => ?_) (fun hc => ?_)
    · replace h := h.1 hc
      refine R_iconst (pc' := 121) rfl rfl ?_
      exact R_iret rfl rfl ⟨_, _, _, rfl, rfl, h⟩
    · replace h := h.2 hc
      refine R_bipush (pc' := 117) rfl rfl ?_
      refine R_goto rfl ?_
      exact R_iret rfl rfl ⟨_, _, _, rfl, rfl, h⟩
  replace h := h.2
  by_cases c2 : x2 = 62
  · replace h := h.1 c2
    refine R_lsw (pc' := 122) rfl (by rw [c2]; rfl) ?_
    refine R_iload_n (pc' := 123) rfl rfl rfl ?_
    refine R_ifeq (pc' := 126) rfl rfl (fun hc => ?_) (fun hc => ?_)
    · replace h := h.1 hc
      refine R_iconst (pc' := 132) rfl rfl ?_
      exact R_iret rfl rfl ⟨_, _, _, rfl, rfl, h⟩
    · replace h := h.2 hc
      refine R_bipush (pc' := 128) rfl rfl ?_
      refine R_goto rfl ?_
      exact R_iret rfl rfl ⟨_, _, _, rfl, rfl, h⟩
  replace h := h.2
  by_cases c3 : x2 = 91
  · replace h := h.1 c3
    refine R_lsw (pc' := 133) rfl (by rw [c3]; rfl) ?_
    refine R_bipush (pc' := 135) rfl rfl ?_
    exact R_iret rfl rfl ⟨_, _, _, rfl, rfl, h⟩
  replace h := h.2
  by_cases c4 : x2 = 93
  · replace h := h.1 c4
    refine R_lsw (pc' := 136) rfl (by rw [c4]; rfl) ?_
    refine R_bipush (pc' := 138) rfl rfl ?_
    exact R_iret rfl rfl ⟨_, _, _, rfl, rfl, h⟩
  replace h := h.2
  replace h := h c0 c1 c2 c3 c4
  refine R_lsw (pc' := 139) rfl (by simp [swT, List.lookup, beq_iff_eq, beq_eq_false_iff_ne.mpr c0, beq_eq_false_iff_ne.mpr c1, beq_eq_false_iff_ne.mpr c2, beq_eq_false_iff_ne.mpr c3, beq_eq_false_iff_ne.mpr c4]) ?_
  refine R_iconst (pc' := 140) rfl rfl ?_
  exact R_iret rfl rfl ⟨_, _, _, rfl, rfl, h⟩
/-! 48 X6_kindOfNumber -/
theorem S48 {e : En} {I : HI} {D : HD} {Q : Int → HI → HD → Prop} {x1 : Int} (he : HS e)
    (h : CI 54 [vR (some 1), vI x1] e I D (fun z1 I2 D3 => CI 55 [vR (some 1), vI x1] e I2 D3 (fun z4 I5 D6 => CI 54 [vR (some 1), vI z4] e I5 D6 (fun z7 I8 D9 => (((0 : Int) ≤ z7 → CI 55 [vR (some 1), vI z4] e I8 D9 (fun z10 I11 D12 => CI 57 [vR (some 1), vI z10, vS 10] e I11 D12 (fun z13 I14 D15 => ((z13 = 0 → ((z1 < 1 → RI 48 57 [vR (some 1), vJ, vJ, vJ, vI z10, vJ] [] e I14 D15 Q) ∧ (¬ (z1 < 1) → (((60 : Int) < z1 → RI 48 57 [vR (some 1), vJ, vJ, vJ, vI z10, vJ] [] e I14 D15 Q) ∧ (¬ ((60 : Int) < z1) → RI 48 58 [vR (some 1), vJ, vJ, vJ, vI z10, vJ] [vI 1] e I14 D15 Q))))) ∧ (¬ (z13 = 0) → Q 4 I14 D15))))) ∧ (¬ ((0 : Int) ≤ z7) → Q 3 I8 D9)))))) :
    CI 48 [vR (some 1), vI x1] e I D Q := by
  refine Call_run (ls := [vR (some 1), vI x1, vJ, vJ, vJ, vJ]) rfl rfl ?_
  refine R_aload_n (pc' := 1) rfl rfl rfl ?_
  refine R_iload_n (pc' := 2) rfl rfl rfl ?_
  refine KI_iv (as := [vI x1]) (rest := []) (pc' := 5) rfl rfl rfl rfl rfl (Nat.le_of_ble_eq_true rfl) rfl (CI_mono h ?_)
  intro z1 I2 D3 h
  refine R_istore_n (ls' := [vR (some 1), vI x1, vI z1, vJ, vJ, vJ]) (pc' := 6) rfl rfl rfl ?_
  refine R_aload_n (pc' := 7) rfl rfl rfl ?_
  refine R_iload_n (pc' := 8) rfl rfl rfl ?_
  refine KI_iv (as := [vI x1]) (rest := []) (pc' := 11) rfl rfl rfl rfl rfl (Nat.le_of_ble_eq_true rfl) rfl (CI_mono h ?_)
  intro z4 I5 D6 h
  refine R_istore_n (ls' := [vR (some 1), vI x1, vI z1, vI z4, vJ, vJ]) (pc' := 12) rfl rfl rfl ?_
  refine R_aload_n (pc' := 13) rfl rfl rfl ?_
  refine R_iload_n (pc' := 14) rfl rfl rfl ?_
  refine KI_iv (as := [vI z4]) (rest := []) (pc' := 17) rfl rfl rfl rfl rfl (Nat.le_of_ble_eq_true rfl) rfl (CI_mono h ?_)
  intro z7 I8 D9 h
  refine R_ifge (pc' := 20) rfl rfl (fun hc => ?_) (fun hc => ?_)
  · replace h := h.1 hc
    refine R_aload_n (pc' := 23) rfl rfl rfl ?_
    refine R_iload_n (pc' := 24) rfl rfl rfl ?_
    refine KI_iv (as := [vI z4]) (rest := []) (pc' := 27) rfl rfl rfl rfl rfl (Nat.le_of_ble_eq_true rfl) rfl (CI_mono h ?_)
    intro z10 I11 D12 h
    refine R_istore (ls' := [vR (some 1), vI x1, vI z1, vI z4, vI z10, vJ]) (pc' := 29) rfl rfl rfl ?_
    refine R_aload_n (pc' := 30) rfl rfl rfl ?_
    refine R_iload (pc' := 32) rfl rfl rfl ?_
    refine R_ldcS (pc' := 34) rfl rfl ?_
    refine KI_iv (as := [vI z10, vS 10]) (rest := []) (pc' := 37) rfl rfl rfl rfl rfl (Nat.le_of_ble_eq_true rfl) rfl (CI_mono h ?_)
    intro z13 I14 D15 h
    refine R_ifeq (pc' := 40) rfl rfl (fun hc => ?_) (fun hc => ?_)
    · replace h := h.1 hc
      refine R_iload_n (pc' := 43) rfl rfl rfl ?_
      refine R_iconst (pc' := 44) rfl rfl ?_
      refine R_iclt (pc' := 47) rfl rfl (fun hc => ?_) (fun hc => ?_)
      · replace h := h.1 hc
        exact R_forget (ls' := [vR (some 1), vJ, vJ, vJ, vI z10, vJ]) ⟨Or.inl rfl, Or.inr rfl, Or.inr rfl, Or.inr rfl, Or.inl rfl, Or.inl rfl, trivial⟩ h
      · replace h := h.2 hc
        refine R_iload_n (pc' := 48) rfl rfl rfl ?_
        refine R_bipush (pc' := 50) rfl rfl ?_
        refine R_icgt (pc' := 53) rfl rfl (fun hc => ?_) (fun hc => ?_)
        · replace h := h.1 hc
          exact R_forget (ls' := [vR (some 1), vJ, vJ, vJ, vI z10, vJ]) ⟨Or.inl rfl, Or.inr rfl, Or.inr rfl, Or.inr rfl, Or.inl rfl, Or.inl rfl, trivial⟩ h
        · replace h := h.2 hc
          refine R_iconst (pc' := 54) rfl rfl ?_
          refine R_goto rfl ?_
          exact R_forget (ls' := [vR (some 1), vJ, vJ, vJ, vI z10, vJ]) ⟨Or.inl rfl, Or.inr rfl, Or.inr rfl, Or.inr rfl, Or.inl rfl, Or.inl rfl, trivial⟩ h
    · replace h := h.2 hc
      refine R_iconst (pc' := 41) rfl rfl ?_
      exact R_iret rfl rfl ⟨_, _, _, rfl, rfl, h⟩
  · replace h := h.2 hc
    refine R_iconst (pc' := 21) rfl rfl ?_
    exact R_iret rfl rfl ⟨_, _, _, rfl, rfl, h⟩
theorem S48_57 {e : En} {I : HI} {D : HD} {Q : Int → HI → HD → Prop} {x4 : Int} (he : HS e)
    (h : RI 48 58 [vR (some 1), vJ, vJ, vJ, vI x4, vJ] [vI 0] e I D Q) :
    RI 48 57 [vR (some 1), vJ, vJ, vJ, vI x4, vJ] [] e I D Q := by
  show Run 48 57 [vR (some 1), vJ, vJ, vJ, vI x4, vJ] [] (mk e I D) (pI e Q)
  refine R_iconst (pc' := 58) rfl rfl ?_
  exact h
theorem S48_58 {e : En} {I : HI} {D : HD} {Q : Int → HI → HD → Prop} {x4 : Int} {y0 : Int} (he : HS e)
    (h : ((y0 = 0 → Q 3 I D) ∧ (¬ (y0 = 0) → CI 57 [vR (some 1), vI x4, vS 11] e I D (fun z1 I2 D3 => ((z1 = 0 → Q 3 I2 D3) ∧ (¬ (z1 = 0) → Q 5 I2 D3)))))) :
    RI 48 58 [vR (some 1), vJ, vJ, vJ, vI x4, vJ] [vI y0] e I D Q := by
  show Run 48 58 [vR (some 1), vJ, vJ, vJ, vI x4, vJ] [vI y0] (mk e I D) (pI e Q)
  refine R_istore (ls' := [vR (some 1), vJ, vJ, vJ, vI x4, vI y0]) (pc' := 60) rfl rfl rfl ?_
  refine R_iload (pc' := 62) rfl rfl rfl ?_
  refine R_ifeq (pc' := 65) rfl rfl (fun hc => ?_) (fun hc => ?_)
  · replace h := h.1 hc
    refine R_iconst (pc' := 81) rfl rfl ?_
    exact R_iret rfl rfl ⟨_, _, _, rfl, rfl, h⟩
  · replace h := h.2 hc
    refine R_aload_n (pc' := 66) rfl rfl rfl ?_
    refine R_iload (pc' := 68) rfl rfl rfl ?_
    refine R_ldcS (pc' := 70) rfl rfl ?_
    refine KI_iv (as := [vI x4, vS 11]) (rest := []) (pc' := 73) rfl rfl rfl rfl rfl (Nat.le_of_ble_eq_true rfl) rfl (CI_mono h ?_)
    intro z1 I2 D3 h
    refine R_ifeq (pc' := 76) rfl rfl (fun hc => ?_) (fun hc => ?_)
    · replace h := h.1 hc
      refine R_iconst (pc' := 81) rfl rfl ?_
      exact R_iret rfl rfl ⟨_, _, _, rfl, rfl, h⟩
    · replace h := h.2 hc
      refine R_iconst (pc' := 77) rfl rfl ?_
      refine R_goto rfl ?_
      exact R_iret rfl rfl ⟨_, _, _, rfl, rfl, h⟩
/-! 49 X6_isRegular -/
theorem S49 {e : En} {I : HI} {D : HD} {Q : Int → HI → HD → Prop} {x0 : Int} (he : HS e)
    (h : ((x0 = 37 → Q 0 I D) ∧ (x0 = 40 → Q 0 I D) ∧ (x0 = 41 → Q 0 I D) ∧ (x0 = 47 → Q 0 I D) ∧ (x0 = 60 → Q 0 I D) ∧ (x0 = 62 → Q 0 I D) ∧ (x0 = 91 → Q 0 I D) ∧ (x0 = 93 → Q 0 I D) ∧ (x0 = 123 → Q 0 I D) ∧ (x0 = 125 → Q 0 I D) ∧ (x0 ≠ 37 → x0 ≠ 40 → x0 ≠ 41 → x0 ≠ 47 → x0 ≠ 60 → x0 ≠ 62 → x0 ≠ 91 → x0 ≠ 93 → x0 ≠ 123 → x0 ≠ 125 → ((x0 ≤ 32 → Q 0 I D) ∧ (¬ (x0 ≤ 32) → Q 1 I D))))) :
    CI 49 [vI x0] e I D Q := by
  refine Call_run (ls := [vI x0]) rfl rfl ?_
  refine R_iload_n (pc' := 1) rfl rfl rfl ?_
  by_cases c0 : x0 = 37
  · replace h := h.1 c0
    refine R_lsw (pc' := 92) rfl (by rw [c0]; rfl) ?_
    refine R_iconst (pc' := 93) rfl rfl ?_
    exact R_zret rfl rfl (Or.inl rfl) ⟨_, _, _, rfl, rfl, h⟩
  replace h := h.2
  by_cases c1 : x0 = 40
  · replace h := h.1 c1
    refine R_lsw (pc' := 92) rfl (by rw [c1]; rfl) ?_
    refine R_iconst (pc' := 93) rfl rfl ?_
    exact R_zret rfl rfl (Or.inl rfl) ⟨_, _, _, rfl, rfl, h⟩
  replace h := h.2
  by_cases c2 : x0 = 41
  · replace h := h.1 c2
    refine R_lsw (pc' := 92) rfl (by rw [c2]; rfl) ?_
    refine R_iconst (pc' := 93) rfl rfl ?_
    exact R_zret rfl rfl (Or.inl rfl) ⟨_, _, _, rfl, rfl, h⟩
  replace h := h.2
  by_cases c3 : x0 = 47
  · replace h := h.1 c3
    refine R_lsw (pc' := 92) rfl (by rw [c3]; rfl) ?_
    refine R_iconst (pc' := 93) rfl rfl ?_
    exact R_zret rfl rfl (Or.inl rfl) ⟨_, _, _, rfl, rfl, h⟩
  replace h := h.2
  by_cases c4 : x0 = 60
  · replace h := h.1 c4
    refine R_lsw (pc' := 92) rfl (by rw [c4]; rfl) ?_
    refine R_iconst (pc' := 93) rfl rfl ?_
    exact R_zret rfl rfl (Or.inl rfl) ⟨_, _, _, rfl, rfl, h⟩
  replace h := h.2
  by_cases c5 : x0 = 62
  · replace h := h.1 c5
    refine R_lsw (pc' := 92) rfl (by rw [c5]; rfl) ?_
    refine R_iconst (pc' := 93) rfl rfl ?_
    exact R_zret rfl rfl (Or.inl rfl) ⟨_, _, _, rfl, rfl, h⟩
  replace h := h.2
  by_cases c6 : x0 = 91
  · replace h := h.1 c6
    refine R_lsw (pc' := 92) rfl (by rw [c6]; rfl) ?_
    refine R_iconst (pc' := 93) rfl rfl ?_
    exact R_zret rfl rfl (Or.inl rfl) ⟨_, _, _, rfl, rfl, h⟩
  replace h := h.2
  by_cases c7 : x0 = 93
  · replace h := h.1 c7
    refine R_lsw (pc' := 92) rfl (by rw [c7]; rfl) ?_
    refine R_iconst (pc' := 93) rfl rfl ?_
    exact R_zret rfl rfl (Or.inl rfl) ⟨_, _, _, rfl, rfl, h⟩
  replace h := h.2
  by_cases c8 : x0 = 123
  · replace h := h.1 c8
    refine R_lsw (pc' := 92) rfl (by rw [c8]; rfl) ?_
    refine R_iconst (pc' := 93) rfl rfl ?_
    exact R_zret rfl rfl (Or.inl rfl) ⟨_, _, _, rfl, rfl, h⟩
  replace h := h.2
  by_cases c9 : x0 = 125
  · replace h := h.1 c9
    refine R_lsw (pc' := 92) rfl (by rw [c9]; rfl) ?_
    refine R_iconst (pc' := 93) rfl rfl ?_
    exact R_zret rfl rfl (Or.inl rfl) ⟨_, _, _, rfl, rfl, h⟩
  replace h := h.2
  replace h := h c0 c1 c2 c3 c4 c5 c6 c7 c8 c9
  refine R_lsw (pc' := 94) rfl (by simp [swT, List.lookup, beq_iff_eq, beq_eq_false_iff_ne.mpr c0, beq_eq_false_iff_ne.mpr c1, beq_eq_false_iff_ne.mpr c2, beq_eq_false_iff_ne.mpr c3, beq_eq_false_iff_ne.mpr c4, beq_eq_false_iff_ne.mpr c5, beq_eq_false_iff_ne.mpr c6, beq_eq_false_iff_ne.mpr c7, beq_eq_false_iff_ne.mpr c8, beq_eq_false_iff_ne.mpr c9]) ?_
  refine R_iload_n (pc' := 95) rfl rfl rfl ?_
  refine R_bipush (pc' := 97) rfl rfl ?_
  refine R_icle (pc' := 100) rfl rfl (fun hc => ?_) (fun hc => ?_)
  · replace h := h.1 hc
    refine R_iconst (pc' := 105) rfl rfl ?_
    exact R_zret rfl rfl (Or.inl rfl) ⟨_, _, _, rfl, rfl, h⟩
  · replace h := h.2 hc
    refine R_iconst (pc' := 101) rfl rfl ?_
    refine R_goto rfl ?_
    exact R_zret rfl rfl (Or.inr rfl) ⟨_, _, _, rfl, rfl, h⟩
/-! 50 X6_byteAt -/
theorem S50 {e : En} {I : HI} {D : HD} {Q : Int → HI → HD → Prop} {x1 : Int} (he : HS e)
    (h : ((x1 < 0 → Q (-1) I D) ∧ (¬ (x1 < 0) → (((I 1 5) ≤ x1 → Q (-1) I D) ∧ (¬ ((I 1 5) ≤ x1) → (K0 (D 1 4) = 22) ∧ (0 ≤ x1 ∧ x1 < ((L0 (D 1 4)) : Int)) ∧ Q ((I (D 1 4) (x1.toNat)) % 256) I D))))) :
    CI 50 [vR (some 1), vI x1] e I D Q := by
  refine Call_run (ls := [vR (some 1), vI x1]) rfl rfl ?_
  refine R_iload_n (pc' := 1) rfl rfl rfl ?_
  refine R_iflt (pc' := 4) rfl rfl (fun hc => ?_) (fun hc => ?_)
  · replace h := h.1 hc
    refine R_iconst (pc' := 26) rfl rfl ?_
    exact R_iret rfl rfl ⟨_, _, _, rfl, rfl, h⟩
  · replace h := h.2 hc
    refine R_iload_n (pc' := 5) rfl rfl rfl ?_
    refine R_aload_n (pc' := 6) rfl rfl rfl ?_
    refine K_getI (pc' := 9) rfl rfl (by decide) rfl rfl ?_
    refine R_icge (pc' := 12) rfl rfl (fun hc => ?_) (fun hc => ?_)
    · replace h := h.1 hc
      refine R_iconst (pc' := 26) rfl rfl ?_
      exact R_iret rfl rfl ⟨_, _, _, rfl, rfl, h⟩
    · replace h := h.2 hc
      refine R_aload_n (pc' := 13) rfl rfl rfl ?_
      refine K_getR (pc' := 16) rfl rfl rfl rfl (dy_at rfl) ?_
      refine R_iload_n (pc' := 17) rfl rfl rfl ?_
      have g1 := h.1
      replace h := h.2
      have g2 := h.1
      replace h := h.2
      refine K_bald (pc' := 18) rfl rfl g1 g2.1 g2.2 rfl ?_
      refine R_sipush (pc' := 21) rfl rfl ?_
      refine R_iand255 (pc' := 22) rfl rfl ?_
      refine R_goto rfl ?_
      exact R_iret rfl rfl ⟨_, _, _, rfl, rfl, h⟩
/-! 51 X6_startFrom -/
theorem S51 {e : En} {I : HI} {D : HD} {Q : Int → HI → HD → Prop} {x1 : Int} (he : HS e)
    (h : ((x1 < 0 → Q (I 1 5) I D) ∧ (¬ (x1 < 0) → (((I 1 5) < x1 → Q (I 1 5) I D) ∧ (¬ ((I 1 5) < x1) → (0 ≤ x1 ∧ x1 < 3001) ∧ Q (I 2 (x1.toNat)) I D))))) :
    CI 51 [vR (some 1), vI x1] e I D Q := by
  refine Call_run (ls := [vR (some 1), vI x1]) rfl rfl ?_
  refine R_iload_n (pc' := 1) rfl rfl rfl ?_
  refine R_iflt (pc' := 4) rfl rfl (fun hc => ?_) (fun hc => ?_)
  · replace h := h.1 hc
    refine R_aload_n (pc' := 22) rfl rfl rfl ?_
    refine K_getI (pc' := 25) rfl rfl (by decide) rfl rfl ?_
    exact R_iret rfl rfl ⟨_, _, _, rfl, rfl, h⟩
  · replace h := h.2 hc
    refine R_iload_n (pc' := 5) rfl rfl rfl ?_
    refine R_aload_n (pc' := 6) rfl rfl rfl ?_
    refine K_getI (pc' := 9) rfl rfl (by decide) rfl rfl ?_
    refine R_icgt (pc' := 12) rfl rfl (fun hc => ?_) (fun hc => ?_)
    · replace h := h.1 hc
      refine R_aload_n (pc' := 22) rfl rfl rfl ?_
      refine K_getI (pc' := 25) rfl rfl (by decide) rfl rfl ?_
      exact R_iret rfl rfl ⟨_, _, _, rfl, rfl, h⟩
    · replace h := h.2 hc
      refine R_aload_n (pc' := 13) rfl rfl rfl ?_
      refine K_getR (pc' := 16) rfl rfl rfl rfl (st_at he rfl rfl (by decide)) ?_
      refine R_iload_n (pc' := 17) rfl rfl rfl ?_
      have g1 := h.1
      replace h := h.2
      refine K_iald (pc' := 18) rfl rfl rfl g1.1 g1.2 rfl ?_
      refine R_goto rfl ?_
      exact R_iret rfl rfl ⟨_, _, _, rfl, rfl, h⟩
/-! 52 X6_endAt -/
theorem S52 {e : En} {I : HI} {D : HD} {Q : Int → HI → HD → Prop} {x1 : Int} (he : HS e)
    (h : ((x1 < 0 → Q (I 1 5) I D) ∧ (¬ (x1 < 0) → (((I 1 5) < x1 → Q (I 1 5) I D) ∧ (¬ ((I 1 5) < x1) → (0 ≤ x1 ∧ x1 < 3001) ∧ Q (I 3 (x1.toNat)) I D))))) :
    CI 52 [vR (some 1), vI x1] e I D Q := by
  refine Call_run (ls := [vR (some 1), vI x1]) rfl rfl ?_
  refine R_iload_n (pc' := 1) rfl rfl rfl ?_
  refine R_iflt (pc' := 4) rfl rfl (fun hc => ?_) (fun hc => ?_)
  · replace h := h.1 hc
    refine R_aload_n (pc' := 22) rfl rfl rfl ?_
    refine K_getI (pc' := 25) rfl rfl (by decide) rfl rfl ?_
    exact R_iret rfl rfl ⟨_, _, _, rfl, rfl, h⟩
  · replace h := h.2 hc
    refine R_iload_n (pc' := 5) rfl rfl rfl ?_
    refine R_aload_n (pc' := 6) rfl rfl rfl ?_
    refine K_getI (pc' := 9) rfl rfl (by decide) rfl rfl ?_
    refine R_icgt (pc' := 12) rfl rfl (fun hc => ?_) (fun hc => ?_)
    · replace h := h.1 hc
      refine R_aload_n (pc' := 22) rfl rfl rfl ?_
      refine K_getI (pc' := 25) rfl rfl (by decide) rfl rfl ?_
      exact R_iret rfl rfl ⟨_, _, _, rfl, rfl, h⟩
    · replace h := h.2 hc
      refine R_aload_n (pc' := 13) rfl rfl rfl ?_
      refine K_getR (pc' := 16) rfl rfl rfl rfl (st_at he rfl rfl (by decide)) ?_
      refine R_iload_n (pc' := 17) rfl rfl rfl ?_
      have g1 := h.1
      replace h := h.2
      refine K_iald (pc' := 18) rfl rfl rfl g1.1 g1.2 rfl ?_
      refine R_goto rfl ?_
      exact R_iret rfl rfl ⟨_, _, _, rfl, rfl, h⟩
/-! 53 X6_kindAt -/
theorem S53 {e : En} {I : HI} {D : HD} {Q : Int → HI → HD → Prop} {x1 : Int} (he : HS e)
    (h : ((x1 < 0 → Q 0 I D) ∧ (¬ (x1 < 0) → (((I 1 5) < x1 → Q 0 I D) ∧ (¬ ((I 1 5) < x1) → (0 ≤ x1 ∧ x1 < 3001) ∧ Q (I 4 (x1.toNat)) I D))))) :
    CI 53 [vR (some 1), vI x1] e I D Q := by
  refine Call_run (ls := [vR (some 1), vI x1]) rfl rfl ?_
  refine R_iload_n (pc' := 1) rfl rfl rfl ?_
  refine R_iflt (pc' := 4) rfl rfl (fun hc => ?_) (fun hc => ?_)
  · replace h := h.1 hc
    refine R_iconst (pc' := 22) rfl rfl ?_
    exact R_iret rfl rfl ⟨_, _, _, rfl, rfl, h⟩
  · replace h := h.2 hc
    refine R_iload_n (pc' := 5) rfl rfl rfl ?_
    refine R_aload_n (pc' := 6) rfl rfl rfl ?_
    refine K_getI (pc' := 9) rfl rfl (by decide) rfl rfl ?_
    refine R_icgt (pc' := 12) rfl rfl (fun hc => ?_) (fun hc => ?_)
    · replace h := h.1 hc
      refine R_iconst (pc' := 22) rfl rfl ?_
      exact R_iret rfl rfl ⟨_, _, _, rfl, rfl, h⟩
    · replace h := h.2 hc
      refine R_aload_n (pc' := 13) rfl rfl rfl ?_
      refine K_getR (pc' := 16) rfl rfl rfl rfl (st_at he rfl rfl (by decide)) ?_
      refine R_iload_n (pc' := 17) rfl rfl rfl ?_
      have g1 := h.1
      replace h := h.2
      refine K_iald (pc' := 18) rfl rfl rfl g1.1 g1.2 rfl ?_
      refine R_goto rfl ?_
      exact R_iret rfl rfl ⟨_, _, _, rfl, rfl, h⟩
/-! 54 X6_numberAt -/
theorem S54 {e : En} {I : HI} {D : HD} {Q : Int → HI → HD → Prop} {x1 : Int} (he : HS e)
    (h : ((x1 < 0 → Q (-1) I D) ∧ (¬ (x1 < 0) → (((I 1 5) < x1 → Q (-1) I D) ∧ (¬ ((I 1 5) < x1) → (0 ≤ x1 ∧ x1 < 3001) ∧ Q (I 5 (x1.toNat)) I D))))) :
    CI 54 [vR (some 1), vI x1] e I D Q := by
  refine Call_run (ls := [vR (some 1), vI x1]) rfl rfl ?_
  refine R_iload_n (pc' := 1) rfl rfl rfl ?_
  refine R_iflt (pc' := 4) rfl rfl (fun hc => ?_) (fun hc => ?_)
  · replace h := h.1 hc
    refine R_iconst (pc' := 22) rfl rfl ?_
    exact R_iret rfl rfl ⟨_, _, _, rfl, rfl, h⟩
  · replace h := h.2 hc
    refine R_iload_n (pc' := 5) rfl rfl rfl ?_
    refine R_aload_n (pc' := 6) rfl rfl rfl ?_
    refine K_getI (pc' := 9) rfl rfl (by decide) rfl rfl ?_
    refine R_icgt (pc' := 12) rfl rfl (fun hc => ?_) (fun hc => ?_)
    · replace h := h.1 hc
      refine R_iconst (pc' := 22) rfl rfl ?_
      exact R_iret rfl rfl ⟨_, _, _, rfl, rfl, h⟩
    · replace h := h.2 hc
      refine R_aload_n (pc' := 13) rfl rfl rfl ?_
      refine K_getR (pc' := 16) rfl rfl rfl rfl (st_at he rfl rfl (by decide)) ?_
      refine R_iload_n (pc' := 17) rfl rfl rfl ?_
      have g1 := h.1
      replace h := h.2
      refine K_iald (pc' := 18) rfl rfl rfl g1.1 g1.2 rfl ?_
      refine R_goto rfl ?_
      exact R_iret rfl rfl ⟨_, _, _, rfl, rfl, h⟩
/-! 55 X6_next -/
theorem S55 {e : En} {I : HI} {D : HD} {Q : Int → HI → HD → Prop} {x1 : Int} (he : HS e)
    (h : CI 52 [vR (some 1), vI x1] e I D (fun z1 I2 D3 => CI 51 [vR (some 1), vI z1] e I2 D3 (fun z4 I5 D6 => Q z4 I5 D6))) :
    CI 55 [vR (some 1), vI x1] e I D Q := by
  refine Call_run (ls := [vR (some 1), vI x1]) rfl rfl ?_
  refine R_aload_n (pc' := 1) rfl rfl rfl ?_
  refine R_aload_n (pc' := 2) rfl rfl rfl ?_
  refine R_iload_n (pc' := 3) rfl rfl rfl ?_
  refine KI_iv (as := [vI x1]) (rest := [vR (some 1)]) (pc' := 6) rfl rfl rfl rfl rfl (Nat.le_of_ble_eq_true rfl) rfl (CI_mono h ?_)
  intro z1 I2 D3 h
  refine KI_iv (as := [vI z1]) (rest := []) (pc' := 9) rfl rfl rfl rfl rfl (Nat.le_of_ble_eq_true rfl) rfl (CI_mono h ?_)
  intro z4 I5 D6 h
  exact R_iret rfl rfl ⟨_, _, _, rfl, rfl, h⟩
/-! 56 X6_endOfThree -/
theorem S56 {e : En} {I : HI} {D : HD} {Q : Int → HI → HD → Prop} {x1 : Int} (he : HS e)
    (h : CI 55 [vR (some 1), vI x1] e I D (fun z1 I2 D3 => CI 55 [vR (some 1), vI z1] e I2 D3 (fun z4 I5 D6 => CI 52 [vR (some 1), vI z4] e I5 D6 (fun z7 I8 D9 => Q z7 I8 D9)))) :
    CI 56 [vR (some 1), vI x1] e I D Q := by
  refine Call_run (ls := [vR (some 1), vI x1]) rfl rfl ?_
  refine R_aload_n (pc' := 1) rfl rfl rfl ?_
  refine R_aload_n (pc' := 2) rfl rfl rfl ?_
  refine R_aload_n (pc' := 3) rfl rfl rfl ?_
  refine R_iload_n (pc' := 4) rfl rfl rfl ?_
  refine KI_iv (as := [vI x1]) (rest := [vR (some 1), vR (some 1)]) (pc' := 7) rfl rfl rfl rfl rfl (Nat.le_of_ble_eq_true rfl) rfl (CI_mono h ?_)
  intro z1 I2 D3 h
  refine KI_iv (as := [vI z1]) (rest := [vR (some 1)]) (pc' := 10) rfl rfl rfl rfl rfl (Nat.le_of_ble_eq_true rfl) rfl (CI_mono h ?_)
  intro z4 I5 D6 h
  refine KI_iv (as := [vI z4]) (rest := []) (pc' := 13) rfl rfl rfl rfl rfl (Nat.le_of_ble_eq_true rfl) rfl (CI_mono h ?_)
  intro z7 I8 D9 h
  exact R_iret rfl rfl ⟨_, _, _, rfl, rfl, h⟩
/-! 57 X6_isText -/
theorem S57 {e : En} {I : HI} {D : HD} {Q : Int → HI → HD → Prop} {x1 : Int} {k2 : Nat} (he : HS e) (hk2 : k2 < 25)
    (h : CI 52 [vR (some 1), vI x1] e I D (fun z1 I2 D3 => (-2147483648 ≤ (z1 - x1) ∧ (z1 - x1) < 2147483648) ∧ ((¬ (z1 - x1) = ((zstr k2).length : Int) → Q 0 I2 D3) ∧ (¬ (¬ (z1 - x1) = ((zstr k2).length : Int)) → CI 58 [vR (some 1), vI x1, vS k2] e I2 D3 (fun z5 I6 D7 => ((z5 = 0 → Q 0 I6 D7) ∧ (¬ (z5 = 0) → Q 1 I6 D7))))))) :
    CI 57 [vR (some 1), vI x1, vS k2] e I D Q := by
  refine Call_run (ls := [vR (some 1), vI x1, vS k2]) rfl rfl ?_
  refine R_aload_n (pc' := 1) rfl rfl rfl ?_
  refine R_iload_n (pc' := 2) rfl rfl rfl ?_
  refine KI_iv (as := [vI x1]) (rest := []) (pc' := 5) rfl rfl rfl rfl rfl (Nat.le_of_ble_eq_true rfl) rfl (CI_mono h ?_)
  intro z1 I2 D3 h
  refine R_iload_n (pc' := 6) rfl rfl rfl ?_
  have g4 := h.1
  replace h := h.2
  refine R_isub (pc' := 7) rfl rfl g4 ?_
  refine R_aload_nS (pc' := 8) rfl rfl rfl ?_
  refine R_strlen (pc' := 11) rfl rfl hk2 (Nat.le_of_ble_eq_true rfl) ?_
  refine R_icne (pc' := 14) rfl rfl (fun hc => ?_) (fun hc => ?_)
  · replace h := h.1 hc
    refine R_iconst (pc' := 28) rfl rfl ?_
    exact R_zret rfl rfl (Or.inl rfl) ⟨_, _, _, rfl, rfl, h⟩
  · replace h := h.2 hc
    refine R_aload_n (pc' := 15) rfl rfl rfl ?_
    refine R_iload_n (pc' := 16) rfl rfl rfl ?_
    refine R_aload_nS (pc' := 17) rfl rfl rfl ?_
    refine KI_iv (as := [vI x1, vS k2]) (rest := []) (pc' := 20) rfl rfl rfl rfl rfl (Nat.le_of_ble_eq_true rfl) rfl (CI_mono h ?_)
    intro z5 I6 D7 h
    refine R_ifeq (pc' := 23) rfl rfl (fun hc => ?_) (fun hc => ?_)
    · replace h := h.1 hc
      refine R_iconst (pc' := 28) rfl rfl ?_
      exact R_zret rfl rfl (Or.inl rfl) ⟨_, _, _, rfl, rfl, h⟩
    · replace h := h.2 hc
      refine R_iconst (pc' := 24) rfl rfl ?_
      refine R_goto rfl ?_
      exact R_zret rfl rfl (Or.inr rfl) ⟨_, _, _, rfl, rfl, h⟩
/-! 58 X6_standsAt -/
theorem S58 {e : En} {I : HI} {D : HD} {Q : Int → HI → HD → Prop} {x1 : Int} {k2 : Nat} (he : HS e) (hk2 : k2 < 25)
    (h : ((x1 < 0 → Q 0 I D) ∧ (¬ (x1 < 0) → (-2147483648 ≤ ((I 1 5) - ((zstr k2).length : Int)) ∧ ((I 1 5) - ((zstr k2).length : Int)) < 2147483648) ∧ ((x1 ≤ ((I 1 5) - ((zstr k2).length : Int)) → RI 58 21 [vR (some 1), vI x1, vS k2, vI 0] [] e I D Q) ∧ (¬ (x1 ≤ ((I 1 5) - ((zstr k2).length : Int))) → Q 0 I D))))) :
    CI 58 [vR (some 1), vI x1, vS k2] e I D Q := by
  refine Call_run (ls := [vR (some 1), vI x1, vS k2, vJ]) rfl rfl ?_
  refine R_iload_n (pc' := 1) rfl rfl rfl ?_
  refine R_iflt (pc' := 4) rfl rfl (fun hc => ?_) (fun hc => ?_)
  · replace h := h.1 hc
    refine R_iconst (pc' := 18) rfl rfl ?_
    exact R_zret rfl rfl (Or.inl rfl) ⟨_, _, _, rfl, rfl, h⟩
  · replace h := h.2 hc
    refine R_iload_n (pc' := 5) rfl rfl rfl ?_
    refine R_aload_n (pc' := 6) rfl rfl rfl ?_
    refine K_getI (pc' := 9) rfl rfl (by decide) rfl rfl ?_
    refine R_aload_nS (pc' := 10) rfl rfl rfl ?_
    refine R_strlen (pc' := 13) rfl rfl hk2 (Nat.le_of_ble_eq_true rfl) ?_
    have g1 := h.1
    replace h := h.2
    refine R_isub (pc' := 14) rfl rfl g1 ?_
    refine R_icle (pc' := 17) rfl rfl (fun hc => ?_) (fun hc => ?_)
    · replace h := h.1 hc
      refine R_iconst (pc' := 20) rfl rfl ?_
      refine R_istore_n (ls' := [vR (some 1), vI x1, vS k2, vI 0]) (pc' := 21) rfl rfl rfl ?_
      exact h
    · replace h := h.2 hc
      refine R_iconst (pc' := 18) rfl rfl ?_
      exact R_zret rfl rfl (Or.inl rfl) ⟨_, _, _, rfl, rfl, h⟩
theorem S58_21 {e : En} {I : HI} {D : HD} {Q : Int → HI → HD → Prop} {x1 : Int} {k2 : Nat} {x3 : Int} (he : HS e) (hk2 : k2 < 25)
    (h : ((((zstr k2).length : Int) ≤ x3 → Q 1 I D) ∧ (¬ (((zstr k2).length : Int) ≤ x3) → (-2147483648 ≤ (x1 + x3) ∧ (x1 + x3) < 2147483648) ∧ (K0 (D 1 4) = 22) ∧ (0 ≤ (x1 + x3) ∧ (x1 + x3) < ((L0 (D 1 4)) : Int)) ∧ (0 ≤ x3 ∧ x3 < ((zstr k2).length : Int)) ∧ ((((I (D 1 4) (((x1 + x3) : Int).toNat)) % 256) = (((zstr k2).getD (x3.toNat) 0 : Nat) : Int) → (-2147483648 ≤ (x3 + 1) ∧ (x3 + 1) < 2147483648) ∧ RI 58 21 [vR (some 1), vI x1, vS k2, vI (x3 + 1)] [] e I D Q) ∧ (¬ (((I (D 1 4) (((x1 + x3) : Int).toNat)) % 256) = (((zstr k2).getD (x3.toNat) 0 : Nat) : Int)) → Q 0 I D))))) :
    RI 58 21 [vR (some 1), vI x1, vS k2, vI x3] [] e I D Q := by
  show Run 58 21 [vR (some 1), vI x1, vS k2, vI x3] [] (mk e I D) (pI e Q)
  refine R_iload_n (pc' := 22) rfl rfl rfl ?_
  refine R_aload_nS (pc' := 23) rfl rfl rfl ?_
  refine R_strlen (pc' := 26) rfl rfl hk2 (Nat.le_of_ble_eq_true rfl) ?_
  refine R_icge (pc' := 29) rfl rfl (fun hc => ?_) (fun hc => ?_)
  · replace h := h.1 hc
    refine R_iconst (pc' := 58) rfl rfl ?_
    exact R_zret rfl rfl (Or.inr rfl) ⟨_, _, _, rfl, rfl, h⟩
  · replace h := h.2 hc
    refine R_aload_n (pc' := 30) rfl rfl rfl ?_
    refine K_getR (pc' := 33) rfl rfl rfl rfl (dy_at rfl) ?_
    refine R_iload_n (pc' := 34) rfl rfl rfl ?_
    refine R_iload_n (pc' := 35) rfl rfl rfl ?_
    have g1 := h.1
    replace h := h.2
    refine R_iadd (pc' := 36) rfl rfl g1 ?_
    have g2 := h.1
    replace h := h.2
    have g3 := h.1
    replace h := h.2
    refine K_bald (pc' := 37) rfl rfl g2 g3.1 g3.2 rfl ?_
    refine R_sipush (pc' := 40) rfl rfl ?_
    refine R_iand255 (pc' := 41) rfl rfl ?_
    refine R_aload_nS (pc' := 42) rfl rfl rfl ?_
    refine R_iload_n (pc' := 43) rfl rfl rfl ?_
    have g4 := h.1
    replace h := h.2
    refine R_strch (pc' := 46) rfl rfl hk2 g4.1 g4.2 (Nat.le_of_ble_eq_true rfl) ?_
    refine R_iceq (pc' := 49) rfl rfl (fun hc => ?_) (fun hc => ?_)
    · replace h := h.1 hc
      have g5 := h.1
      replace h := h.2
      refine R_iinc (ls' := [vR (some 1), vI x1, vS k2, vI (x3 + 1)]) (pc' := 54) rfl rfl rfl g5 rfl ?_
      refine R_goto rfl ?_
      exact h
    · replace h := h.2 hc
      refine R_iconst (pc' := 50) rfl rfl ?_
      exact R_zret rfl rfl (Or.inl rfl) ⟨_, _, _, rfl, rfl, h⟩
