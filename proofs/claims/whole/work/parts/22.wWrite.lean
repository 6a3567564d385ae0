/-! what the code of each method does: printed by wip/whole/gen/decomp.py -/
/-! 60 X7_byteAt -/
theorem S60 {e : En} {I : HI} {D : HD} {Q : Int → HI → HD → Prop} {x1 : Int} (he : HS e)
    (h : ((x1 < 0 → Q (-1) I D) ∧ (¬ (x1 < 0) → (((I 310 1) ≤ x1 → Q (-1) I D) ∧ (¬ ((I 310 1) ≤ x1) → (((3000 : Int) ≤ x1 → Q (-1) I D) ∧ (¬ ((3000 : Int) ≤ x1) → (0 ≤ x1 ∧ x1 < 3000) ∧ Q ((I 311 (x1.toNat)) % 256) I D))))))) :
    CI 60 [vR (some 310), vI x1] e I D Q := by
  refine Call_run (ls := [vR (some 310), vI x1]) rfl rfl ?_
  refine R_iload_n (pc' := 1) rfl rfl rfl ?_
  refine R_iflt (pc' := 4) rfl rfl (fun hc => ?_) (fun hc => ?_)
  · replace h := h.1 hc
    refine R_iconst (pc' := 35) rfl rfl ?_
    exact R_iret rfl rfl ⟨_, _, _, rfl, rfl, h⟩
  · replace h := h.2 hc
    refine R_iload_n (pc' := 5) rfl rfl rfl ?_
    refine R_aload_n (pc' := 6) rfl rfl rfl ?_
    refine K_getI (pc' := 9) rfl rfl (by decide) rfl rfl ?_
    refine R_icge (pc' := 12) rfl rfl (fun hc => ?_) (fun hc => ?_)
    · replace h := h.1 hc
      refine R_iconst (pc' := 35) rfl rfl ?_
      exact R_iret rfl rfl ⟨_, _, _, rfl, rfl, h⟩
    · replace h := h.2 hc
      refine R_iload_n (pc' := 13) rfl rfl rfl ?_
      refine R_aload_n (pc' := 14) rfl rfl rfl ?_
      refine K_getR (pc' := 17) rfl rfl rfl rfl (st_at he rfl rfl (by decide)) ?_
      refine K_alen (pc' := 18) rfl rfl 1 rfl (by decide) rfl ?_
      refine R_icge (pc' := 21) rfl rfl (fun hc => ?_) (fun hc => ?_)
      · replace h := h.1 hc
        refine R_iconst (pc' := 35) rfl rfl ?_
        exact R_iret rfl rfl ⟨_, _, _, rfl, rfl, h⟩
      · replace h := h.2 hc
        refine R_aload_n (pc' := 22) rfl rfl rfl ?_
        refine K_getR (pc' := 25) rfl rfl rfl rfl (st_at he rfl rfl (by decide)) ?_
        refine R_iload_n (pc' := 26) rfl rfl rfl ?_
        have g1 := h.1
        replace h := h.2
        refine K_bald (pc' := 27) rfl rfl rfl g1.1 g1.2 rfl ?_
        refine R_sipush (pc' := 30) rfl rfl ?_
        refine R_iand255 (pc' := 31) rfl rfl ?_
        refine R_goto rfl ?_
        exact R_iret rfl rfl ⟨_, _, _, rfl, rfl, h⟩
/-! 61 X7_writeAll -/
theorem S61 {e : En} {I : HI} {D : HD} {Q : HI → HD → Prop} {A : Nat} (he : HS e) (hA : isA A)
    (h : CV 67 [vR (some 310), vS 0] e (uI I 310 1 0) D (fun I2 D3 => RV 61 13 [vR (some 310), vR (some A), vI 1, vJ] [] e I2 D3 Q)) :
    CV 61 [vR (some 310), vR (some A)] e I D Q := by
  refine Call_run (ls := [vR (some 310), vR (some A), vJ, vJ]) rfl rfl ?_
  refine R_aload_n (pc' := 1) rfl rfl rfl ?_
  refine R_iconst (pc' := 2) rfl rfl ?_
  refine K_putI (pc' := 5) rfl rfl (by decide) (fun h => absurd h (by decide)) rfl ?_
  refine R_aload_n (pc' := 6) rfl rfl rfl ?_
  refine R_ldcS (pc' := 8) rfl rfl ?_
  refine KV_iv (as := [vS 0]) (rest := []) (pc' := 11) rfl rfl rfl rfl rfl (Nat.le_of_ble_eq_true rfl) rfl (CV_mono h ?_)
  intro I2 D3 h
  refine R_iconst (pc' := 12) rfl rfl ?_
  refine R_istore_n (ls' := [vR (some 310), vR (some A), vI 1, vJ]) (pc' := 13) rfl rfl rfl ?_
  exact h
theorem S61_13 {e : En} {I : HI} {D : HD} {Q : HI → HD → Prop} {A : Nat} {x2 : Int} (he : HS e) (hA : isA A)
    (h : (((60 : Int) < x2 → (((I A 15) ≤ 0 → Q I D) ∧ (¬ ((I A 15) ≤ 0) → CV 67 [vR (some 310), vS 8] e I D (fun I2 D3 => CV 68 [vR (some 310), vI (I2 A 15)] e I2 D3 (fun I5 D6 => CV 67 [vR (some 310), vS 9] e I5 D6 (fun I8 D9 => Q I8 D9)))))) ∧ (¬ ((60 : Int) < x2) → CR 35 [vR (some A), vI x2] e I D (fun z10 I11 D12 => ((z10 = none → RV 61 36 [vR (some 310), vR (some A), vI x2, vJ] [] e I11 D12 Q) ∧ (∀ u13, z10 = some u13 → K0 u13 = 3 ∧ CV 62 [vR (some 310), vR (some A), vR (some u13), vI x2] e I11 D12 (fun I16 D17 => RV 61 36 [vR (some 310), vR (some A), vI x2, vJ] [] e I16 D17 Q))))))) :
    RV 61 13 [vR (some 310), vR (some A), vI x2, vJ] [] e I D Q := by
  show Run 61 13 [vR (some 310), vR (some A), vI x2, vJ] [] (mk e I D) (pV e Q)
  refine R_iload_n (pc' := 14) rfl rfl rfl ?_
  refine R_bipush (pc' := 16) rfl rfl ?_
  refine R_icgt (pc' := 19) rfl rfl (fun hc => ?_) (fun hc => ?_)
  · replace h := h.1 hc
    refine R_aload_n (pc' := 43) rfl rfl rfl ?_
    refine K_getIN (pc' := 46) rfl rfl (by decide) (kA hA 0 6 ⟨rfl, rfl⟩) rfl ?_
    refine R_ifle (pc' := 49) rfl rfl (fun hc => ?_) (fun hc => ?_)
    · replace h := h.1 hc
      exact R_vret rfl rfl ⟨_, _, rfl, rfl, h⟩
    · replace h := h.2 hc
      refine R_aload_n (pc' := 50) rfl rfl rfl ?_
      refine R_ldcS (pc' := 52) rfl rfl ?_
      refine KV_iv (as := [vS 8]) (rest := []) (pc' := 55) rfl rfl rfl rfl rfl (Nat.le_of_ble_eq_true rfl) rfl (CV_mono h ?_)
      intro I2 D3 h
      refine R_aload_n (pc' := 56) rfl rfl rfl ?_
      refine R_aload_n (pc' := 57) rfl rfl rfl ?_
      refine K_getIN (pc' := 60) rfl rfl (by decide) (kA hA 0 6 ⟨rfl, rfl⟩) rfl ?_
      refine KV_iv (as := [vI (I2 A 15)]) (rest := []) (pc' := 63) rfl rfl rfl rfl rfl (Nat.le_of_ble_eq_true rfl) rfl (CV_mono h ?_)
      intro I5 D6 h
      refine R_aload_n (pc' := 64) rfl rfl rfl ?_
      refine R_ldcS (pc' := 66) rfl rfl ?_
      refine KV_iv (as := [vS 9]) (rest := []) (pc' := 69) rfl rfl rfl rfl rfl (Nat.le_of_ble_eq_true rfl) rfl (CV_mono h ?_)
      intro I8 D9 h
      exact R_vret rfl rfl ⟨_, _, rfl, rfl, h⟩
  · replace h := h.2 hc
    refine R_aload_n (pc' := 20) rfl rfl rfl ?_
    refine R_iload_n (pc' := 21) rfl rfl rfl ?_
    refine KR_iv (as := [vI x2]) (rest := []) (pc' := 24) rfl rfl rfl (kA hA 0 6 ⟨rfl, rfl⟩) rfl (Nat.le_of_ble_eq_true rfl) rfl (CR_mono h ?_)
    intro z10 I11 D12 h
    refine R_astore_n (ls' := [vR (some 310), vR (some A), vI x2, vR z10]) (pc' := 25) rfl rfl rfl ?_
    refine R_aload_n (pc' := 26) rfl rfl rfl ?_
    refine R_ifnull (pc' := 29) rfl rfl (fun hn => ?_) (fun u13 hn => ?_)
    · replace h := h.1 hn
      subst hn
      exact R_forget (ls' := [vR (some 310), vR (some A), vI x2, vJ]) ⟨Or.inl rfl, Or.inl rfl, Or.inl rfl, Or.inr rfl, trivial⟩ h
    · replace h := h.2 u13 hn
      subst hn
      have hu14 := h.1
      replace h := h.2
      refine R_aload_n (pc' := 30) rfl rfl rfl ?_
      refine R_aload_n (pc' := 31) rfl rfl rfl ?_
      refine R_aload_n (pc' := 32) rfl rfl rfl ?_
      refine R_iload_n (pc' := 33) rfl rfl rfl ?_
      refine KV_iv (as := [vR (some A), vR (some u13), vI x2]) (rest := []) (pc' := 36) rfl rfl rfl rfl rfl (Nat.le_of_ble_eq_true rfl) rfl (CV_mono h ?_)
      intro I16 D17 h
      exact R_forget (ls' := [vR (some 310), vR (some A), vI x2, vJ]) ⟨Or.inl rfl, Or.inl rfl, Or.inl rfl, Or.inr rfl, trivial⟩ h
theorem S61_36 {e : En} {I : HI} {D : HD} {Q : HI → HD → Prop} {A : Nat} {x2 : Int} (he : HS e) (hA : isA A)
    (h : (-2147483648 ≤ (x2 + 1) ∧ (x2 + 1) < 2147483648) ∧ RV 61 13 [vR (some 310), vR (some A), vI (x2 + 1), vJ] [] e I D Q) :
    RV 61 36 [vR (some 310), vR (some A), vI x2, vJ] [] e I D Q := by
  show Run 61 36 [vR (some 310), vR (some A), vI x2, vJ] [] (mk e I D) (pV e Q)
  have g1 := h.1
  replace h := h.2
  refine R_iinc (ls' := [vR (some 310), vR (some A), vI (x2 + 1), vJ]) (pc' := 39) rfl rfl rfl g1 rfl ?_
  refine R_goto rfl ?_
  exact h
/-! 62 X7_writeObject -/
theorem S62 {e : En} {I : HI} {D : HD} {Q : HI → HD → Prop} {A : Nat} {q2 : Nat} {x3 : Int} (he : HS e) (hA : isA A) (hq2 : K0 q2 = 3)
    (h : CV 68 [vR (some 310), vI x3] e I D (fun I2 D3 => CV 67 [vR (some 310), vS 1] e I2 D3 (fun I5 D6 => (((I5 q2 6) = 0 → CV 63 [vR (some 310), vR (some A), vR (some q2)] e I5 D6 (fun I8 D9 => RV 62 33 [vR (some 310), vJ, vJ, vJ] [] e I8 D9 Q)) ∧ (¬ ((I5 q2 6) = 0) → CV 64 [vR (some 310), vR (some A), vR (some q2)] e I5 D6 (fun I11 D12 => RV 62 33 [vR (some 310), vJ, vJ, vJ] [] e I11 D12 Q)))))) :
    CV 62 [vR (some 310), vR (some A), vR (some q2), vI x3] e I D Q := by
  refine Call_run (ls := [vR (some 310), vR (some A), vR (some q2), vI x3]) rfl rfl ?_
  refine R_aload_n (pc' := 1) rfl rfl rfl ?_
  refine R_iload_n (pc' := 2) rfl rfl rfl ?_
  refine KV_iv (as := [vI x3]) (rest := []) (pc' := 5) rfl rfl rfl rfl rfl (Nat.le_of_ble_eq_true rfl) rfl (CV_mono h ?_)
  intro I2 D3 h
  refine R_aload_n (pc' := 6) rfl rfl rfl ?_
  refine R_ldcS (pc' := 8) rfl rfl ?_
  refine KV_iv (as := [vS 1]) (rest := []) (pc' := 11) rfl rfl rfl rfl rfl (Nat.le_of_ble_eq_true rfl) rfl (CV_mono h ?_)
  intro I5 D6 h
  refine R_aload_n (pc' := 12) rfl rfl rfl ?_
  refine K_getIN (pc' := 15) rfl rfl (by decide) hq2 rfl ?_
  refine R_ifeq (pc' := 18) rfl rfl (fun hc => ?_) (fun hc => ?_)
  · replace h := h.1 hc
    refine R_aload_n (pc' := 28) rfl rfl rfl ?_
    refine R_aload_n (pc' := 29) rfl rfl rfl ?_
    refine R_aload_n (pc' := 30) rfl rfl rfl ?_
    refine KV_iv (as := [vR (some A), vR (some q2)]) (rest := []) (pc' := 33) rfl rfl rfl rfl rfl (Nat.le_of_ble_eq_true rfl) rfl (CV_mono h ?_)
    intro I8 D9 h
    exact R_forget (ls' := [vR (some 310), vJ, vJ, vJ]) ⟨Or.inl rfl, Or.inr rfl, Or.inr rfl, Or.inr rfl, trivial⟩ h
  · replace h := h.2 hc
    refine R_aload_n (pc' := 19) rfl rfl rfl ?_
    refine R_aload_n (pc' := 20) rfl rfl rfl ?_
    refine R_aload_n (pc' := 21) rfl rfl rfl ?_
    refine KV_iv (as := [vR (some A), vR (some q2)]) (rest := []) (pc' := 24) rfl rfl rfl rfl rfl (Nat.le_of_ble_eq_true rfl) rfl (CV_mono h ?_)
    intro I11 D12 h
    refine R_goto rfl ?_
    exact R_forget (ls' := [vR (some 310), vJ, vJ, vJ]) ⟨Or.inl rfl, Or.inr rfl, Or.inr rfl, Or.inr rfl, trivial⟩ h
theorem S62_33 {e : En} {I : HI} {D : HD} {Q : HI → HD → Prop} (he : HS e)
    (h : CV 67 [vR (some 310), vS 7] e I D (fun I2 D3 => Q I2 D3)) :
    RV 62 33 [vR (some 310), vJ, vJ, vJ] [] e I D Q := by
  show Run 62 33 [vR (some 310), vJ, vJ, vJ] [] (mk e I D) (pV e Q)
  refine R_aload_n (pc' := 34) rfl rfl rfl ?_
  refine R_ldcS (pc' := 36) rfl rfl ?_
  refine KV_iv (as := [vS 7]) (rest := []) (pc' := 39) rfl rfl rfl rfl rfl (Nat.le_of_ble_eq_true rfl) rfl (CV_mono h ?_)
  intro I2 D3 h
  exact R_vret rfl rfl ⟨_, _, rfl, rfl, h⟩
/-! 63 X7_writePlain -/
theorem S63 {e : En} {I : HI} {D : HD} {Q : HI → HD → Prop} {A : Nat} {q2 : Nat} (he : HS e) (hA : isA A) (hq2 : K0 q2 = 3)
    (h : RV 63 11 [vR (some 310), vR (some A), vR (some q2), vI (I q2 3), vI (I q2 4)] [] e I D Q) :
    CV 63 [vR (some 310), vR (some A), vR (some q2)] e I D Q := by
  refine Call_run (ls := [vR (some 310), vR (some A), vR (some q2), vJ, vJ]) rfl rfl ?_
  refine R_aload_n (pc' := 1) rfl rfl rfl ?_
  refine K_getIN (pc' := 4) rfl rfl (by decide) hq2 rfl ?_
  refine R_istore_n (ls' := [vR (some 310), vR (some A), vR (some q2), vI (I q2 3), vJ]) (pc' := 5) rfl rfl rfl ?_
  refine R_aload_n (pc' := 6) rfl rfl rfl ?_
  refine K_getIN (pc' := 9) rfl rfl (by decide) hq2 rfl ?_
  refine R_istore (ls' := [vR (some 310), vR (some A), vR (some q2), vI (I q2 3), vI (I q2 4)]) (pc' := 11) rfl rfl rfl ?_
  exact h
theorem S63_11 {e : En} {I : HI} {D : HD} {Q : HI → HD → Prop} {A : Nat} {q2 : Nat} {x3 : Int} {x4 : Int} (he : HS e) (hA : isA A) (hq2 : K0 q2 = 3)
    (h : ((x4 ≤ x3 → RV 63 33 [vR (some 310), vR (some A), vR (some q2), vI x3, vI x4] [] e I D Q) ∧ (¬ (x4 ≤ x3) → CI 37 [vR (some A), vI x3] e I D (fun z1 I2 D3 => (((32 : Int) < z1 → RV 63 33 [vR (some 310), vR (some A), vR (some q2), vI x3, vI x4] [] e I2 D3 Q) ∧ (¬ ((32 : Int) < z1) → (-2147483648 ≤ (x3 + 1) ∧ (x3 + 1) < 2147483648) ∧ RV 63 11 [vR (some 310), vR (some A), vR (some q2), vI (x3 + 1), vI x4] [] e I2 D3 Q)))))) :
    RV 63 11 [vR (some 310), vR (some A), vR (some q2), vI x3, vI x4] [] e I D Q := by
  show Run 63 11 [vR (some 310), vR (some A), vR (some q2), vI x3, vI x4] [] (mk e I D) (pV e Q)
  refine R_iload_n (pc' := 12) rfl rfl rfl ?_
  refine R_iload (pc' := 14) rfl rfl rfl ?_
  refine R_icge (pc' := 17) rfl rfl (fun hc => ?_) (fun hc => ?_)
  · replace h := h.1 hc
    exact h
  · replace h := h.2 hc
    refine R_aload_n (pc' := 18) rfl rfl rfl ?_
    refine R_iload_n (pc' := 19) rfl rfl rfl ?_
    refine KI_iv (as := [vI x3]) (rest := []) (pc' := 22) rfl rfl rfl (kA hA 0 6 ⟨rfl, rfl⟩) rfl (Nat.le_of_ble_eq_true rfl) rfl (CI_mono h ?_)
    intro z1 I2 D3 h
    refine R_bipush (pc' := 24) rfl rfl ?_
    refine R_icgt (pc' := 27) rfl rfl (fun hc => ?_) (fun hc => ?_)
    · replace h := h.1 hc
      exact h
    · replace h := h.2 hc
      have g4 := h.1
      replace h := h.2
      refine R_iinc (ls' := [vR (some 310), vR (some A), vR (some q2), vI (x3 + 1), vI x4]) (pc' := 30) rfl rfl rfl g4 rfl ?_
      refine R_goto rfl ?_
      exact h
theorem S63_33 {e : En} {I : HI} {D : HD} {Q : HI → HD → Prop} {A : Nat} {q2 : Nat} {x3 : Int} {x4 : Int} (he : HS e) (hA : isA A) (hq2 : K0 q2 = 3)
    (h : ((x4 ≤ x3 → RV 63 58 [vR (some 310), vR (some A), vR (some q2), vI x3, vI x4] [] e I D Q) ∧ (¬ (x4 ≤ x3) → (-2147483648 ≤ (x4 - 1) ∧ (x4 - 1) < 2147483648) ∧ CI 37 [vR (some A), vI (x4 - 1)] e I D (fun z2 I3 D4 => (((32 : Int) < z2 → RV 63 58 [vR (some 310), vR (some A), vR (some q2), vI x3, vI x4] [] e I3 D4 Q) ∧ (¬ ((32 : Int) < z2) → (-2147483648 ≤ (x4 + (-1)) ∧ (x4 + (-1)) < 2147483648) ∧ RV 63 33 [vR (some 310), vR (some A), vR (some q2), vI x3, vI (x4 + (-1))] [] e I3 D4 Q)))))) :
    RV 63 33 [vR (some 310), vR (some A), vR (some q2), vI x3, vI x4] [] e I D Q := by
  show Run 63 33 [vR (some 310), vR (some A), vR (some q2), vI x3, vI x4] [] (mk e I D) (pV e Q)
  refine R_iload_n (pc' := 34) rfl rfl rfl ?_
  refine R_iload (pc' := 36) rfl rfl rfl ?_
  refine R_icge (pc' := 39) rfl rfl (fun hc => ?_) (fun hc => ?_)
  · replace h := h.1 hc
    exact h
  · replace h := h.2 hc
    refine R_aload_n (pc' := 40) rfl rfl rfl ?_
    refine R_iload (pc' := 42) rfl rfl rfl ?_
    refine R_iconst (pc' := 43) rfl rfl ?_
    have g1 := h.1
    replace h := h.2
    refine R_isub (pc' := 44) rfl rfl g1 ?_
    refine KI_iv (as := [vI (x4 - 1)]) (rest := []) (pc' := 47) rfl rfl rfl (kA hA 0 6 ⟨rfl, rfl⟩) rfl (Nat.le_of_ble_eq_true rfl) rfl (CI_mono h ?_)
    intro z2 I3 D4 h
    refine R_bipush (pc' := 49) rfl rfl ?_
    refine R_icgt (pc' := 52) rfl rfl (fun hc => ?_) (fun hc => ?_)
    · replace h := h.1 hc
      exact h
    · replace h := h.2 hc
      have g5 := h.1
      replace h := h.2
      refine R_iinc (ls' := [vR (some 310), vR (some A), vR (some q2), vI x3, vI (x4 + (-1))]) (pc' := 55) rfl rfl rfl g5 rfl ?_
      refine R_goto rfl ?_
      exact h
theorem S63_58 {e : En} {I : HI} {D : HD} {Q : HI → HD → Prop} {A : Nat} {q2 : Nat} {x3 : Int} {x4 : Int} (he : HS e) (hA : isA A) (hq2 : K0 q2 = 3)
    (h : CV 65 [vR (some 310), vR (some A), vR (some (q2 + 1)), vI x3, vI x4, vI 0] e I D (fun I2 D3 => Q I2 D3)) :
    RV 63 58 [vR (some 310), vR (some A), vR (some q2), vI x3, vI x4] [] e I D Q := by
  show Run 63 58 [vR (some 310), vR (some A), vR (some q2), vI x3, vI x4] [] (mk e I D) (pV e Q)
  refine R_aload_n (pc' := 59) rfl rfl rfl ?_
  refine R_aload_n (pc' := 60) rfl rfl rfl ?_
  refine R_aload_n (pc' := 61) rfl rfl rfl ?_
  refine K_getRN (pc' := 64) rfl rfl rfl hq2 (gF0 he hq2) ?_
  refine R_iload_n (pc' := 65) rfl rfl rfl ?_
  refine R_iload (pc' := 67) rfl rfl rfl ?_
  refine R_iconst (pc' := 68) rfl rfl ?_
  refine KV_iv (as := [vR (some A), vR (some (q2 + 1)), vI x3, vI x4, vI 0]) (rest := []) (pc' := 71) rfl rfl rfl rfl rfl (Nat.le_of_ble_eq_true rfl) rfl (CV_mono h ?_)
  intro I2 D3 h
  exact R_vret rfl rfl ⟨_, _, rfl, rfl, h⟩
/-! 64 X7_writeStream -/
theorem S64 {e : En} {I : HI} {D : HD} {Q : HI → HD → Prop} {A : Nat} {q2 : Nat} (he : HS e) (hA : isA A) (hq2 : K0 q2 = 3)
    (h : CV 67 [vR (some 310), vS 2] e I D (fun I2 D3 => (-2147483648 ≤ ((I2 q2 10) - (I2 q2 9)) ∧ ((I2 q2 10) - (I2 q2 9)) < 2147483648) ∧ CV 68 [vR (some 310), vI ((I2 q2 10) - (I2 q2 9))] e I2 D3 (fun I6 D7 => CV 67 [vR (some 310), vS 3] e I6 D7 (fun I9 D10 => CV 65 [vR (some 310), vR (some A), vR (some (q2 + 1)), vI (I9 (q2 + 1) 0), vI (I9 (q2 + 1) 1), vI 1] e I9 D10 (fun I12 D13 => CV 67 [vR (some 310), vS 5] e I12 D13 (fun I15 D16 => RV 64 60 [vR (some 310), vR (some A), vR (some q2), vI (I15 q2 9)] [] e I15 D16 Q)))))) :
    CV 64 [vR (some 310), vR (some A), vR (some q2)] e I D Q := by
  refine Call_run (ls := [vR (some 310), vR (some A), vR (some q2), vJ]) rfl rfl ?_
  refine R_aload_n (pc' := 1) rfl rfl rfl ?_
  refine R_ldcS (pc' := 3) rfl rfl ?_
  refine KV_iv (as := [vS 2]) (rest := []) (pc' := 6) rfl rfl rfl rfl rfl (Nat.le_of_ble_eq_true rfl) rfl (CV_mono h ?_)
  intro I2 D3 h
  refine R_aload_n (pc' := 7) rfl rfl rfl ?_
  refine R_aload_n (pc' := 8) rfl rfl rfl ?_
  refine K_getIN (pc' := 11) rfl rfl (by decide) hq2 rfl ?_
  refine R_aload_n (pc' := 12) rfl rfl rfl ?_
  refine K_getIN (pc' := 15) rfl rfl (by decide) hq2 rfl ?_
  have g4 := h.1
  replace h := h.2
  refine R_isub (pc' := 16) rfl rfl g4 ?_
  refine KV_iv (as := [vI ((I2 q2 10) - (I2 q2 9))]) (rest := []) (pc' := 19) rfl rfl rfl rfl rfl (Nat.le_of_ble_eq_true rfl) rfl (CV_mono h ?_)
  intro I6 D7 h
  refine R_aload_n (pc' := 20) rfl rfl rfl ?_
  refine R_ldcS (pc' := 22) rfl rfl ?_
  refine KV_iv (as := [vS 3]) (rest := []) (pc' := 25) rfl rfl rfl rfl rfl (Nat.le_of_ble_eq_true rfl) rfl (CV_mono h ?_)
  intro I9 D10 h
  refine R_aload_n (pc' := 26) rfl rfl rfl ?_
  refine R_aload_n (pc' := 27) rfl rfl rfl ?_
  refine R_aload_n (pc' := 28) rfl rfl rfl ?_
  refine K_getRN (pc' := 31) rfl rfl rfl hq2 (gF0 he hq2) ?_
  refine R_aload_n (pc' := 32) rfl rfl rfl ?_
  refine K_getRN (pc' := 35) rfl rfl rfl hq2 (gF0 he hq2) ?_
  refine K_getIN (pc' := 38) rfl rfl (by decide) (kF hq2).1 rfl ?_
  refine R_aload_n (pc' := 39) rfl rfl rfl ?_
  refine K_getRN (pc' := 42) rfl rfl rfl hq2 (gF0 he hq2) ?_
  refine K_getIN (pc' := 45) rfl rfl (by decide) (kF hq2).1 rfl ?_
  refine R_iconst (pc' := 46) rfl rfl ?_
  refine KV_iv (as := [vR (some A), vR (some (q2 + 1)), vI (I9 (q2 + 1) 0), vI (I9 (q2 + 1) 1), vI 1]) (rest := []) (pc' := 49) rfl rfl rfl rfl rfl (Nat.le_of_ble_eq_true rfl) rfl (CV_mono h ?_)
  intro I12 D13 h
  refine R_aload_n (pc' := 50) rfl rfl rfl ?_
  refine R_ldcS (pc' := 52) rfl rfl ?_
  refine KV_iv (as := [vS 5]) (rest := []) (pc' := 55) rfl rfl rfl rfl rfl (Nat.le_of_ble_eq_true rfl) rfl (CV_mono h ?_)
  intro I15 D16 h
  refine R_aload_n (pc' := 56) rfl rfl rfl ?_
  refine K_getIN (pc' := 59) rfl rfl (by decide) hq2 rfl ?_
  refine R_istore_n (ls' := [vR (some 310), vR (some A), vR (some q2), vI (I15 q2 9)]) (pc' := 60) rfl rfl rfl ?_
  exact h
theorem S64_60 {e : En} {I : HI} {D : HD} {Q : HI → HD → Prop} {A : Nat} {q2 : Nat} {x3 : Int} (he : HS e) (hA : isA A) (hq2 : K0 q2 = 3)
    (h : (((I q2 10) ≤ x3 → CV 67 [vR (some 310), vS 6] e I D (fun I2 D3 => Q I2 D3)) ∧ (¬ ((I q2 10) ≤ x3) → CI 37 [vR (some A), vI x3] e I D (fun z4 I5 D6 => CV 66 [vR (some 310), vI z4] e I5 D6 (fun I8 D9 => (-2147483648 ≤ (x3 + 1) ∧ (x3 + 1) < 2147483648) ∧ RV 64 60 [vR (some 310), vR (some A), vR (some q2), vI (x3 + 1)] [] e I8 D9 Q))))) :
    RV 64 60 [vR (some 310), vR (some A), vR (some q2), vI x3] [] e I D Q := by
  show Run 64 60 [vR (some 310), vR (some A), vR (some q2), vI x3] [] (mk e I D) (pV e Q)
  refine R_iload_n (pc' := 61) rfl rfl rfl ?_
  refine R_aload_n (pc' := 62) rfl rfl rfl ?_
  refine K_getIN (pc' := 65) rfl rfl (by decide) hq2 rfl ?_
  refine R_icge (pc' := 68) rfl rfl (fun hc => ?_) (fun hc => ?_)
  · replace h := h.1 hc
    refine R_aload_n (pc' := 84) rfl rfl rfl ?_
    refine R_ldcS (pc' := 86) rfl rfl ?_
    refine KV_iv (as := [vS 6]) (rest := []) (pc' := 89) rfl rfl rfl rfl rfl (Nat.le_of_ble_eq_true rfl) rfl (CV_mono h ?_)
    intro I2 D3 h
    exact R_vret rfl rfl ⟨_, _, rfl, rfl, h⟩
  · replace h := h.2 hc
    refine R_aload_n (pc' := 69) rfl rfl rfl ?_
    refine R_aload_n (pc' := 70) rfl rfl rfl ?_
    refine R_iload_n (pc' := 71) rfl rfl rfl ?_
    refine KI_iv (as := [vI x3]) (rest := [vR (some 310)]) (pc' := 74) rfl rfl rfl (kA hA 0 6 ⟨rfl, rfl⟩) rfl (Nat.le_of_ble_eq_true rfl) rfl (CI_mono h ?_)
    intro z4 I5 D6 h
    refine KV_iv (as := [vI z4]) (rest := []) (pc' := 77) rfl rfl rfl rfl rfl (Nat.le_of_ble_eq_true rfl) rfl (CV_mono h ?_)
    intro I8 D9 h
    have g10 := h.1
    replace h := h.2
    refine R_iinc (ls' := [vR (some 310), vR (some A), vR (some q2), vI (x3 + 1)]) (pc' := 80) rfl rfl rfl g10 rfl ?_
    refine R_goto rfl ?_
    exact h
/-! 65 X7_copyMended -/
theorem S65 {e : En} {I : HI} {D : HD} {Q : HI → HD → Prop} {A : Nat} {q2 : Nat} {x3 : Int} {x4 : Int} {x5 : Int} (he : HS e) (hA : isA A) (hq2 : K0 q2 = 1)
    (h : RV 65 15 [vR (some 310), vR (some A), vR (some q2), vJ, vI x4, vI x5, vI (I q2 10), vI (I q2 12), vI x3, vJ, vJ] [] e I D Q) :
    CV 65 [vR (some 310), vR (some A), vR (some q2), vI x3, vI x4, vI x5] e I D Q := by
  refine Call_run (ls := [vR (some 310), vR (some A), vR (some q2), vI x3, vI x4, vI x5, vJ, vJ, vJ, vJ, vJ]) rfl rfl ?_
  refine R_aload_n (pc' := 1) rfl rfl rfl ?_
  refine K_getIN (pc' := 4) rfl rfl (by decide) hq2 rfl ?_
  refine R_istore (ls' := [vR (some 310), vR (some A), vR (some q2), vI x3, vI x4, vI x5, vI (I q2 10), vJ, vJ, vJ, vJ]) (pc' := 6) rfl rfl rfl ?_
  refine R_aload_n (pc' := 7) rfl rfl rfl ?_
  refine K_getIN (pc' := 10) rfl rfl (by decide) hq2 rfl ?_
  refine R_istore (ls' := [vR (some 310), vR (some A), vR (some q2), vI x3, vI x4, vI x5, vI (I q2 10), vI (I q2 12), vJ, vJ, vJ]) (pc' := 12) rfl rfl rfl ?_
  refine R_iload_n (pc' := 13) rfl rfl rfl ?_
  refine R_istore (ls' := [vR (some 310), vR (some A), vR (some q2), vI x3, vI x4, vI x5, vI (I q2 10), vI (I q2 12), vI x3, vJ, vJ]) (pc' := 15) rfl rfl rfl ?_
  exact R_forget (ls' := [vR (some 310), vR (some A), vR (some q2), vJ, vI x4, vI x5, vI (I q2 10), vI (I q2 12), vI x3, vJ, vJ]) ⟨Or.inl rfl, Or.inl rfl, Or.inl rfl, Or.inr rfl, Or.inl rfl, Or.inl rfl, Or.inl rfl, Or.inl rfl, Or.inl rfl, Or.inl rfl, Or.inl rfl, trivial⟩ h
theorem S65_15 {e : En} {I : HI} {D : HD} {Q : HI → HD → Prop} {A : Nat} {q2 : Nat} {x4 : Int} {x5 : Int} {x6 : Int} {x7 : Int} {x8 : Int} (he : HS e) (hA : isA A) (hq2 : K0 q2 = 1)
    (h : ((x4 ≤ x8 → Q I D) ∧ (¬ (x4 ≤ x8) → RV 65 22 [vR (some 310), vR (some A), vR (some q2), vJ, vI x4, vI x5, vI x6, vI x7, vI x8, vJ, vJ] [] e I D Q))) :
    RV 65 15 [vR (some 310), vR (some A), vR (some q2), vJ, vI x4, vI x5, vI x6, vI x7, vI x8, vJ, vJ] [] e I D Q := by
  show Run 65 15 [vR (some 310), vR (some A), vR (some q2), vJ, vI x4, vI x5, vI x6, vI x7, vI x8, vJ, vJ] [] (mk e I D) (pV e Q)
  refine R_iload (pc' := 17) rfl rfl rfl ?_
  refine R_iload (pc' := 19) rfl rfl rfl ?_
  refine R_icge (pc' := 22) rfl rfl (fun hc => ?_) (fun hc => ?_)
  · replace h := h.1 hc
    exact R_vret rfl rfl ⟨_, _, rfl, rfl, h⟩
  · replace h := h.2 hc
    exact h
theorem S65_22 {e : En} {I : HI} {D : HD} {Q : HI → HD → Prop} {A : Nat} {q2 : Nat} {x4 : Int} {x5 : Int} {x6 : Int} {x7 : Int} {x8 : Int} (he : HS e) (hA : isA A) (hq2 : K0 q2 = 1)
    (h : (((I q2 11) ≤ x6 → RV 65 51 [vR (some 310), vR (some A), vR (some q2), vJ, vI x4, vI x5, vI x6, vI x7, vI x8, vJ, vJ] [] e I D Q) ∧ (¬ ((I q2 11) ≤ x6) → CI 14 [vR (some (A + 2)), vI x6] e I D (fun z1 I2 D3 => ((x8 ≤ z1 → RV 65 51 [vR (some 310), vR (some A), vR (some q2), vJ, vI x4, vI x5, vI x6, vI x7, vI x8, vJ, vJ] [] e I2 D3 Q) ∧ (¬ (x8 ≤ z1) → (-2147483648 ≤ (x6 + 1) ∧ (x6 + 1) < 2147483648) ∧ RV 65 22 [vR (some 310), vR (some A), vR (some q2), vJ, vI x4, vI x5, vI (x6 + 1), vI x7, vI x8, vJ, vJ] [] e I2 D3 Q)))))) :
    RV 65 22 [vR (some 310), vR (some A), vR (some q2), vJ, vI x4, vI x5, vI x6, vI x7, vI x8, vJ, vJ] [] e I D Q := by
  show Run 65 22 [vR (some 310), vR (some A), vR (some q2), vJ, vI x4, vI x5, vI x6, vI x7, vI x8, vJ, vJ] [] (mk e I D) (pV e Q)
  refine R_iload (pc' := 24) rfl rfl rfl ?_
  refine R_aload_n (pc' := 25) rfl rfl rfl ?_
  refine K_getIN (pc' := 28) rfl rfl (by decide) hq2 rfl ?_
  refine R_icge (pc' := 31) rfl rfl (fun hc => ?_) (fun hc => ?_)
  · replace h := h.1 hc
    exact h
  · replace h := h.2 hc
    refine R_aload_n (pc' := 32) rfl rfl rfl ?_
    refine K_getRN (pc' := 35) rfl rfl rfl (kA hA 0 6 ⟨rfl, rfl⟩) (gA he hA 0 3 2 ⟨⟨rfl, rfl⟩, rfl, rfl⟩) ?_
    refine R_iload (pc' := 37) rfl rfl rfl ?_
    refine KI_iv (as := [vI x6]) (rest := []) (pc' := 40) rfl rfl rfl (kA hA 2 4 ⟨rfl, rfl⟩) rfl (Nat.le_of_ble_eq_true rfl) rfl (CI_mono h ?_)
    intro z1 I2 D3 h
    refine R_iload (pc' := 42) rfl rfl rfl ?_
    refine R_icge (pc' := 45) rfl rfl (fun hc => ?_) (fun hc => ?_)
    · replace h := h.1 hc
      exact h
    · replace h := h.2 hc
      have g4 := h.1
      replace h := h.2
      refine R_iinc (ls' := [vR (some 310), vR (some A), vR (some q2), vJ, vI x4, vI x5, vI (x6 + 1), vI x7, vI x8, vJ, vJ]) (pc' := 48) rfl rfl rfl g4 rfl ?_
      refine R_goto rfl ?_
      exact h
theorem S65_51 {e : En} {I : HI} {D : HD} {Q : HI → HD → Prop} {A : Nat} {q2 : Nat} {x4 : Int} {x5 : Int} {x6 : Int} {x7 : Int} {x8 : Int} (he : HS e) (hA : isA A) (hq2 : K0 q2 = 1)
    (h : (((I q2 13) ≤ x7 → RV 65 80 [vR (some 310), vR (some A), vR (some q2), vJ, vI x4, vI x5, vI x6, vI x7, vI x8, vJ, vJ] [] e I D Q) ∧ (¬ ((I q2 13) ≤ x7) → CI 14 [vR (some (A + 6)), vI x7] e I D (fun z1 I2 D3 => ((x8 ≤ z1 → RV 65 80 [vR (some 310), vR (some A), vR (some q2), vJ, vI x4, vI x5, vI x6, vI x7, vI x8, vJ, vJ] [] e I2 D3 Q) ∧ (¬ (x8 ≤ z1) → (-2147483648 ≤ (x7 + 1) ∧ (x7 + 1) < 2147483648) ∧ RV 65 51 [vR (some 310), vR (some A), vR (some q2), vJ, vI x4, vI x5, vI x6, vI (x7 + 1), vI x8, vJ, vJ] [] e I2 D3 Q)))))) :
    RV 65 51 [vR (some 310), vR (some A), vR (some q2), vJ, vI x4, vI x5, vI x6, vI x7, vI x8, vJ, vJ] [] e I D Q := by
  show Run 65 51 [vR (some 310), vR (some A), vR (some q2), vJ, vI x4, vI x5, vI x6, vI x7, vI x8, vJ, vJ] [] (mk e I D) (pV e Q)
  refine R_iload (pc' := 53) rfl rfl rfl ?_
  refine R_aload_n (pc' := 54) rfl rfl rfl ?_
  refine K_getIN (pc' := 57) rfl rfl (by decide) hq2 rfl ?_
  refine R_icge (pc' := 60) rfl rfl (fun hc => ?_) (fun hc => ?_)
  · replace h := h.1 hc
    exact h
  · replace h := h.2 hc
    refine R_aload_n (pc' := 61) rfl rfl rfl ?_
    refine K_getRN (pc' := 64) rfl rfl rfl (kA hA 0 6 ⟨rfl, rfl⟩) (gA he hA 0 4 6 ⟨⟨rfl, rfl⟩, rfl, rfl⟩) ?_
    refine R_iload (pc' := 66) rfl rfl rfl ?_
    refine KI_iv (as := [vI x7]) (rest := []) (pc' := 69) rfl rfl rfl (kA hA 6 4 ⟨rfl, rfl⟩) rfl (Nat.le_of_ble_eq_true rfl) rfl (CI_mono h ?_)
    intro z1 I2 D3 h
    refine R_iload (pc' := 71) rfl rfl rfl ?_
    refine R_icge (pc' := 74) rfl rfl (fun hc => ?_) (fun hc => ?_)
    · replace h := h.1 hc
      exact h
    · replace h := h.2 hc
      have g4 := h.1
      replace h := h.2
      refine R_iinc (ls' := [vR (some 310), vR (some A), vR (some q2), vJ, vI x4, vI x5, vI x6, vI (x7 + 1), vI x8, vJ, vJ]) (pc' := 77) rfl rfl rfl g4 rfl ?_
      refine R_goto rfl ?_
      exact h
theorem S65_80 {e : En} {I : HI} {D : HD} {Q : HI → HD → Prop} {A : Nat} {q2 : Nat} {x4 : Int} {x5 : Int} {x6 : Int} {x7 : Int} {x8 : Int} (he : HS e) (hA : isA A) (hq2 : K0 q2 = 1)
    (h : (((I q2 11) ≤ x6 → RV 65 107 [vR (some 310), vR (some A), vR (some q2), vJ, vI x4, vI x5, vI x6, vI x7, vI x8, vJ, vJ] [] e I D Q) ∧ (¬ ((I q2 11) ≤ x6) → CI 14 [vR (some (A + 2)), vI x6] e I D (fun z1 I2 D3 => ((¬ z1 = x8 → RV 65 107 [vR (some 310), vR (some A), vR (some q2), vJ, vI x4, vI x5, vI x6, vI x7, vI x8, vJ, vJ] [] e I2 D3 Q) ∧ (¬ (¬ z1 = x8) → RV 65 108 [vR (some 310), vR (some A), vR (some q2), vJ, vI x4, vI x5, vI x6, vI x7, vI x8, vJ, vJ] [vI 1] e I2 D3 Q)))))) :
    RV 65 80 [vR (some 310), vR (some A), vR (some q2), vJ, vI x4, vI x5, vI x6, vI x7, vI x8, vJ, vJ] [] e I D Q := by
  show Run 65 80 [vR (some 310), vR (some A), vR (some q2), vJ, vI x4, vI x5, vI x6, vI x7, vI x8, vJ, vJ] [] (mk e I D) (pV e Q)
  refine R_iload (pc' := 82) rfl rfl rfl ?_
  refine R_aload_n (pc' := 83) rfl rfl rfl ?_
  refine K_getIN (pc' := 86) rfl rfl (by decide) hq2 rfl ?_
  refine R_icge (pc' := 89) rfl rfl (fun hc => ?_) (fun hc => ?_)
  · replace h := h.1 hc
    exact h
  · replace h := h.2 hc
    refine R_aload_n (pc' := 90) rfl rfl rfl ?_
    refine K_getRN (pc' := 93) rfl rfl rfl (kA hA 0 6 ⟨rfl, rfl⟩) (gA he hA 0 3 2 ⟨⟨rfl, rfl⟩, rfl, rfl⟩) ?_
    refine R_iload (pc' := 95) rfl rfl rfl ?_
    refine KI_iv (as := [vI x6]) (rest := []) (pc' := 98) rfl rfl rfl (kA hA 2 4 ⟨rfl, rfl⟩) rfl (Nat.le_of_ble_eq_true rfl) rfl (CI_mono h ?_)
    intro z1 I2 D3 h
    refine R_iload (pc' := 100) rfl rfl rfl ?_
    refine R_icne (pc' := 103) rfl rfl (fun hc => ?_) (fun hc => ?_)
    · replace h := h.1 hc
      exact h
    · replace h := h.2 hc
      refine R_iconst (pc' := 104) rfl rfl ?_
      refine R_goto rfl ?_
      exact h
theorem S65_107 {e : En} {I : HI} {D : HD} {Q : HI → HD → Prop} {A : Nat} {q2 : Nat} {x4 : Int} {x5 : Int} {x6 : Int} {x7 : Int} {x8 : Int} (he : HS e) (hA : isA A) (hq2 : K0 q2 = 1)
    (h : RV 65 108 [vR (some 310), vR (some A), vR (some q2), vJ, vI x4, vI x5, vI x6, vI x7, vI x8, vJ, vJ] [vI 0] e I D Q) :
    RV 65 107 [vR (some 310), vR (some A), vR (some q2), vJ, vI x4, vI x5, vI x6, vI x7, vI x8, vJ, vJ] [] e I D Q := by
  show Run 65 107 [vR (some 310), vR (some A), vR (some q2), vJ, vI x4, vI x5, vI x6, vI x7, vI x8, vJ, vJ] [] (mk e I D) (pV e Q)
  refine R_iconst (pc' := 108) rfl rfl ?_
  exact h
theorem S65_108 {e : En} {I : HI} {D : HD} {Q : HI → HD → Prop} {A : Nat} {q2 : Nat} {x4 : Int} {x5 : Int} {x6 : Int} {x7 : Int} {x8 : Int} {y0 : Int} (he : HS e) (hA : isA A) (hq2 : K0 q2 = 1)
    (h : (((I q2 13) ≤ x7 → RV 65 137 [vR (some 310), vR (some A), vR (some q2), vJ, vI x4, vI x5, vI x6, vI x7, vI x8, vI y0, vJ] [] e I D Q) ∧ (¬ ((I q2 13) ≤ x7) → CI 14 [vR (some (A + 6)), vI x7] e I D (fun z1 I2 D3 => ((¬ z1 = x8 → RV 65 137 [vR (some 310), vR (some A), vR (some q2), vJ, vI x4, vI x5, vI x6, vI x7, vI x8, vI y0, vJ] [] e I2 D3 Q) ∧ (¬ (¬ z1 = x8) → RV 65 138 [vR (some 310), vR (some A), vR (some q2), vJ, vI x4, vI x5, vI x6, vI x7, vI x8, vI y0, vJ] [vI 1] e I2 D3 Q)))))) :
    RV 65 108 [vR (some 310), vR (some A), vR (some q2), vJ, vI x4, vI x5, vI x6, vI x7, vI x8, vJ, vJ] [vI y0] e I D Q := by
  show Run 65 108 [vR (some 310), vR (some A), vR (some q2), vJ, vI x4, vI x5, vI x6, vI x7, vI x8, vJ, vJ] [vI y0] (mk e I D) (pV e Q)
  refine R_istore (ls' := [vR (some 310), vR (some A), vR (some q2), vJ, vI x4, vI x5, vI x6, vI x7, vI x8, vI y0, vJ]) (pc' := 110) rfl rfl rfl ?_
  refine R_iload (pc' := 112) rfl rfl rfl ?_
  refine R_aload_n (pc' := 113) rfl rfl rfl ?_
  refine K_getIN (pc' := 116) rfl rfl (by decide) hq2 rfl ?_
  refine R_icge (pc' := 119) rfl rfl (fun hc => ?_) (fun hc => ?_)
  · replace h := h.1 hc
    exact h
  · replace h := h.2 hc
    refine R_aload_n (pc' := 120) rfl rfl rfl ?_
    refine K_getRN (pc' := 123) rfl rfl rfl (kA hA 0 6 ⟨rfl, rfl⟩) (gA he hA 0 4 6 ⟨⟨rfl, rfl⟩, rfl, rfl⟩) ?_
    refine R_iload (pc' := 125) rfl rfl rfl ?_
    refine KI_iv (as := [vI x7]) (rest := []) (pc' := 128) rfl rfl rfl (kA hA 6 4 ⟨rfl, rfl⟩) rfl (Nat.le_of_ble_eq_true rfl) rfl (CI_mono h ?_)
    intro z1 I2 D3 h
    refine R_iload (pc' := 130) rfl rfl rfl ?_
    refine R_icne (pc' := 133) rfl rfl (fun hc => ?_) (fun hc => ?_)
    · replace h := h.1 hc
      exact h
    · replace h := h.2 hc
      refine R_iconst (pc' := 134) rfl rfl ?_
      refine R_goto rfl ?_
      exact h
theorem S65_137 {e : En} {I : HI} {D : HD} {Q : HI → HD → Prop} {A : Nat} {q2 : Nat} {x4 : Int} {x5 : Int} {x6 : Int} {x7 : Int} {x8 : Int} {x9 : Int} (he : HS e) (hA : isA A) (hq2 : K0 q2 = 1)
    (h : RV 65 138 [vR (some 310), vR (some A), vR (some q2), vJ, vI x4, vI x5, vI x6, vI x7, vI x8, vI x9, vJ] [vI 0] e I D Q) :
    RV 65 137 [vR (some 310), vR (some A), vR (some q2), vJ, vI x4, vI x5, vI x6, vI x7, vI x8, vI x9, vJ] [] e I D Q := by
  show Run 65 137 [vR (some 310), vR (some A), vR (some q2), vJ, vI x4, vI x5, vI x6, vI x7, vI x8, vI x9, vJ] [] (mk e I D) (pV e Q)
  refine R_iconst (pc' := 138) rfl rfl ?_
  exact h
theorem S65_138 {e : En} {I : HI} {D : HD} {Q : HI → HD → Prop} {A : Nat} {q2 : Nat} {x4 : Int} {x5 : Int} {x6 : Int} {x7 : Int} {x8 : Int} {x9 : Int} {y0 : Int} (he : HS e) (hA : isA A) (hq2 : K0 q2 = 1)
    (h : ((x5 = 0 → RV 65 171 [vR (some 310), vR (some A), vR (some q2), vJ, vI x4, vI x5, vI x6, vI x7, vI x8, vI x9, vJ] [] e I D Q) ∧ (¬ (x5 = 0) → ((y0 = 0 → RV 65 171 [vR (some 310), vR (some A), vR (some q2), vJ, vI x4, vI x5, vI x6, vI x7, vI x8, vI x9, vJ] [] e I D Q) ∧ (¬ (y0 = 0) → (-2147483648 ≤ (x8 + 1) ∧ (x8 + 1) < 2147483648) ∧ CI 15 [vR (some (A + 6)), vI x7] e I D (fun z2 I3 D4 => RV 65 232 [vR (some 310), vR (some A), vR (some q2), vJ, vI x4, vI x5, vI x6, vI x7, vI (max (x8 + 1) z2), vJ, vJ] [] e I3 D4 Q)))))) :
    RV 65 138 [vR (some 310), vR (some A), vR (some q2), vJ, vI x4, vI x5, vI x6, vI x7, vI x8, vI x9, vJ] [vI y0] e I D Q := by
  show Run 65 138 [vR (some 310), vR (some A), vR (some q2), vJ, vI x4, vI x5, vI x6, vI x7, vI x8, vI x9, vJ] [vI y0] (mk e I D) (pV e Q)
  refine R_istore (ls' := [vR (some 310), vR (some A), vR (some q2), vJ, vI x4, vI x5, vI x6, vI x7, vI x8, vI x9, vI y0]) (pc' := 140) rfl rfl rfl ?_
  refine R_iload (pc' := 142) rfl rfl rfl ?_
  refine R_ifeq (pc' := 145) rfl rfl (fun hc => ?_) (fun hc => ?_)
  · replace h := h.1 hc
    exact R_forget (ls' := [vR (some 310), vR (some A), vR (some q2), vJ, vI x4, vI x5, vI x6, vI x7, vI x8, vI x9, vJ]) ⟨Or.inl rfl, Or.inl rfl, Or.inl rfl, Or.inl rfl, Or.inl rfl, Or.inl rfl, Or.inl rfl, Or.inl rfl, Or.inl rfl, Or.inl rfl, Or.inr rfl, trivial⟩ h
  · replace h := h.2 hc
    refine R_iload (pc' := 147) rfl rfl rfl ?_
    refine R_ifeq (pc' := 150) rfl rfl (fun hc => ?_) (fun hc => ?_)
    · replace h := h.1 hc
      exact R_forget (ls' := [vR (some 310), vR (some A), vR (some q2), vJ, vI x4, vI x5, vI x6, vI x7, vI x8, vI x9, vJ]) ⟨Or.inl rfl, Or.inl rfl, Or.inl rfl, Or.inl rfl, Or.inl rfl, Or.inl rfl, Or.inl rfl, Or.inl rfl, Or.inl rfl, Or.inl rfl, Or.inr rfl, trivial⟩ h
    · replace h := h.2 hc
      refine R_iload (pc' := 152) rfl rfl rfl ?_
      refine R_iconst (pc' := 153) rfl rfl ?_
      have g1 := h.1
      replace h := h.2
      refine R_iadd (pc' := 154) rfl rfl g1 ?_
      refine R_aload_n (pc' := 155) rfl rfl rfl ?_
      refine K_getRN (pc' := 158) rfl rfl rfl (kA hA 0 6 ⟨rfl, rfl⟩) (gA he hA 0 4 6 ⟨⟨rfl, rfl⟩, rfl, rfl⟩) ?_
      refine R_iload (pc' := 160) rfl rfl rfl ?_
      refine KI_iv (as := [vI x7]) (rest := [vI (x8 + 1)]) (pc' := 163) rfl rfl rfl (kA hA 6 4 ⟨rfl, rfl⟩) rfl (Nat.le_of_ble_eq_true rfl) rfl (CI_mono h ?_)
      intro z2 I3 D4 h
      refine R_max (pc' := 166) rfl rfl (Nat.le_of_ble_eq_true rfl) ?_
      refine R_istore (ls' := [vR (some 310), vR (some A), vR (some q2), vJ, vI x4, vI x5, vI x6, vI x7, vI (max (x8 + 1) z2), vI x9, vI y0]) (pc' := 168) rfl rfl rfl ?_
      refine R_goto rfl ?_
      exact R_forget (ls' := [vR (some 310), vR (some A), vR (some q2), vJ, vI x4, vI x5, vI x6, vI x7, vI (max (x8 + 1) z2), vJ, vJ]) ⟨Or.inl rfl, Or.inl rfl, Or.inl rfl, Or.inl rfl, Or.inl rfl, Or.inl rfl, Or.inl rfl, Or.inl rfl, Or.inl rfl, Or.inr rfl, Or.inr rfl, trivial⟩ h
theorem S65_171 {e : En} {I : HI} {D : HD} {Q : HI → HD → Prop} {A : Nat} {q2 : Nat} {x4 : Int} {x5 : Int} {x6 : Int} {x7 : Int} {x8 : Int} {x9 : Int} (he : HS e) (hA : isA A) (hq2 : K0 q2 = 1)
    (h : ((x9 = 0 → RV 65 219 [vR (some 310), vR (some A), vR (some q2), vJ, vI x4, vI x5, vI x6, vI x7, vI x8, vJ, vJ] [] e I D Q) ∧ (¬ (x9 = 0) → CI 13 [vR (some (A + 2)), vI x6] e I D (fun z1 I2 D3 => CR 35 [vR (some A), vI z1] e I2 D3 (fun z4 I5 D6 => ((z4 = none → CV 67 [vR (some 310), vS 4] e I5 D6 (fun I10 D11 => (-2147483648 ≤ (x8 + 1) ∧ (x8 + 1) < 2147483648) ∧ CI 15 [vR (some (A + 2)), vI x6] e I10 D11 (fun z13 I14 D15 => RV 65 232 [vR (some 310), vR (some A), vR (some q2), vJ, vI x4, vI x5, vI x6, vI x7, vI (max (x8 + 1) z13), vJ, vJ] [] e I14 D15 Q))) ∧ (∀ u7, z4 = some u7 → K0 u7 = 3 ∧ RV 65 219 [vR (some 310), vR (some A), vR (some q2), vJ, vI x4, vI x5, vI x6, vI x7, vI x8, vJ, vJ] [] e I5 D6 Q))))))) :
    RV 65 171 [vR (some 310), vR (some A), vR (some q2), vJ, vI x4, vI x5, vI x6, vI x7, vI x8, vI x9, vJ] [] e I D Q := by
  show Run 65 171 [vR (some 310), vR (some A), vR (some q2), vJ, vI x4, vI x5, vI x6, vI x7, vI x8, vI x9, vJ] [] (mk e I D) (pV e Q)
  refine R_iload (pc' := 173) rfl rfl rfl ?_
  refine R_ifeq (pc' := 176) rfl rfl (fun hc => ?_) (fun hc => ?_)
  · replace h := h.1 hc
    exact R_forget (ls' := [vR (some 310), vR (some A), vR (some q2), vJ, vI x4, vI x5, vI x6, vI x7, vI x8, vJ, vJ]) ⟨Or.inl rfl, Or.inl rfl, Or.inl rfl, Or.inl rfl, Or.inl rfl, Or.inl rfl, Or.inl rfl, Or.inl rfl, Or.inl rfl, Or.inr rfl, Or.inl rfl, trivial⟩ h
  · replace h := h.2 hc
    refine R_aload_n (pc' := 177) rfl rfl rfl ?_
    refine R_aload_n (pc' := 178) rfl rfl rfl ?_
    refine K_getRN (pc' := 181) rfl rfl rfl (kA hA 0 6 ⟨rfl, rfl⟩) (gA he hA 0 3 2 ⟨⟨rfl, rfl⟩, rfl, rfl⟩) ?_
    refine R_iload (pc' := 183) rfl rfl rfl ?_
    refine KI_iv (as := [vI x6]) (rest := [vR (some A)]) (pc' := 186) rfl rfl rfl (kA hA 2 4 ⟨rfl, rfl⟩) rfl (Nat.le_of_ble_eq_true rfl) rfl (CI_mono h ?_)
    intro z1 I2 D3 h
    refine KR_iv (as := [vI z1]) (rest := []) (pc' := 189) rfl rfl rfl (kA hA 0 6 ⟨rfl, rfl⟩) rfl (Nat.le_of_ble_eq_true rfl) rfl (CR_mono h ?_)
    intro z4 I5 D6 h
    refine R_ifnonnull (pc' := 192) rfl rfl (fun u7 hn => ?_) (fun hn => ?_)
    · replace h := h.2 u7 hn
      subst hn
      have hu8 := h.1
      replace h := h.2
      exact R_forget (ls' := [vR (some 310), vR (some A), vR (some q2), vJ, vI x4, vI x5, vI x6, vI x7, vI x8, vJ, vJ]) ⟨Or.inl rfl, Or.inl rfl, Or.inl rfl, Or.inl rfl, Or.inl rfl, Or.inl rfl, Or.inl rfl, Or.inl rfl, Or.inl rfl, Or.inr rfl, Or.inl rfl, trivial⟩ h
    · replace h := h.1 hn
      subst hn
      refine R_aload_n (pc' := 193) rfl rfl rfl ?_
      refine R_ldcS (pc' := 195) rfl rfl ?_
      refine KV_iv (as := [vS 4]) (rest := []) (pc' := 198) rfl rfl rfl rfl rfl (Nat.le_of_ble_eq_true rfl) rfl (CV_mono h ?_)
      intro I10 D11 h
      refine R_iload (pc' := 200) rfl rfl rfl ?_
      refine R_iconst (pc' := 201) rfl rfl ?_
      have g12 := h.1
      replace h := h.2
      refine R_iadd (pc' := 202) rfl rfl g12 ?_
      refine R_aload_n (pc' := 203) rfl rfl rfl ?_
      refine K_getRN (pc' := 206) rfl rfl rfl (kA hA 0 6 ⟨rfl, rfl⟩) (gA he hA 0 3 2 ⟨⟨rfl, rfl⟩, rfl, rfl⟩) ?_
      refine R_iload (pc' := 208) rfl rfl rfl ?_
      refine KI_iv (as := [vI x6]) (rest := [vI (x8 + 1)]) (pc' := 211) rfl rfl rfl (kA hA 2 4 ⟨rfl, rfl⟩) rfl (Nat.le_of_ble_eq_true rfl) rfl (CI_mono h ?_)
      intro z13 I14 D15 h
      refine R_max (pc' := 214) rfl rfl (Nat.le_of_ble_eq_true rfl) ?_
      refine R_istore (ls' := [vR (some 310), vR (some A), vR (some q2), vJ, vI x4, vI x5, vI x6, vI x7, vI (max (x8 + 1) z13), vI x9, vJ]) (pc' := 216) rfl rfl rfl ?_
      refine R_goto rfl ?_
      exact R_forget (ls' := [vR (some 310), vR (some A), vR (some q2), vJ, vI x4, vI x5, vI x6, vI x7, vI (max (x8 + 1) z13), vJ, vJ]) ⟨Or.inl rfl, Or.inl rfl, Or.inl rfl, Or.inl rfl, Or.inl rfl, Or.inl rfl, Or.inl rfl, Or.inl rfl, Or.inl rfl, Or.inr rfl, Or.inl rfl, trivial⟩ h
theorem S65_219 {e : En} {I : HI} {D : HD} {Q : HI → HD → Prop} {A : Nat} {q2 : Nat} {x4 : Int} {x5 : Int} {x6 : Int} {x7 : Int} {x8 : Int} (he : HS e) (hA : isA A) (hq2 : K0 q2 = 1)
    (h : CI 37 [vR (some A), vI x8] e I D (fun z1 I2 D3 => CV 66 [vR (some 310), vI z1] e I2 D3 (fun I5 D6 => (-2147483648 ≤ (x8 + 1) ∧ (x8 + 1) < 2147483648) ∧ RV 65 232 [vR (some 310), vR (some A), vR (some q2), vJ, vI x4, vI x5, vI x6, vI x7, vI (x8 + 1), vJ, vJ] [] e I5 D6 Q))) :
    RV 65 219 [vR (some 310), vR (some A), vR (some q2), vJ, vI x4, vI x5, vI x6, vI x7, vI x8, vJ, vJ] [] e I D Q := by
  show Run 65 219 [vR (some 310), vR (some A), vR (some q2), vJ, vI x4, vI x5, vI x6, vI x7, vI x8, vJ, vJ] [] (mk e I D) (pV e Q)
  refine R_aload_n (pc' := 220) rfl rfl rfl ?_
  refine R_aload_n (pc' := 221) rfl rfl rfl ?_
  refine R_iload (pc' := 223) rfl rfl rfl ?_
  refine KI_iv (as := [vI x8]) (rest := [vR (some 310)]) (pc' := 226) rfl rfl rfl (kA hA 0 6 ⟨rfl, rfl⟩) rfl (Nat.le_of_ble_eq_true rfl) rfl (CI_mono h ?_)
  intro z1 I2 D3 h
  refine KV_iv (as := [vI z1]) (rest := []) (pc' := 229) rfl rfl rfl rfl rfl (Nat.le_of_ble_eq_true rfl) rfl (CV_mono h ?_)
  intro I5 D6 h
  have g7 := h.1
  replace h := h.2
  refine R_iinc (ls' := [vR (some 310), vR (some A), vR (some q2), vJ, vI x4, vI x5, vI x6, vI x7, vI (x8 + 1), vJ, vJ]) (pc' := 232) rfl rfl rfl g7 rfl ?_
  exact h
theorem S65_232 {e : En} {I : HI} {D : HD} {Q : HI → HD → Prop} {A : Nat} {q2 : Nat} {x4 : Int} {x5 : Int} {x6 : Int} {x7 : Int} {x8 : Int} (he : HS e) (hA : isA A) (hq2 : K0 q2 = 1)
    (h : RV 65 15 [vR (some 310), vR (some A), vR (some q2), vJ, vI x4, vI x5, vI x6, vI x7, vI x8, vJ, vJ] [] e I D Q) :
    RV 65 232 [vR (some 310), vR (some A), vR (some q2), vJ, vI x4, vI x5, vI x6, vI x7, vI x8, vJ, vJ] [] e I D Q := by
  show Run 65 232 [vR (some 310), vR (some A), vR (some q2), vJ, vI x4, vI x5, vI x6, vI x7, vI x8, vJ, vJ] [] (mk e I D) (pV e Q)
  refine R_goto rfl ?_
  exact h
/-! 66 X7_put -/
theorem S66 {e : En} {I : HI} {D : HD} {Q : HI → HD → Prop} {x1 : Int} (he : HS e)
    (h : (((I 310 1) < 0 → Q I D) ∧ (¬ ((I 310 1) < 0) → (((3000 : Int) ≤ (I 310 1) → Q I D) ∧ (¬ ((3000 : Int) ≤ (I 310 1)) → (0 ≤ (I 310 1) ∧ (I 310 1) < 3000) ∧ (-2147483648 ≤ ((I 310 1) + 1) ∧ ((I 310 1) + 1) < 2147483648) ∧ Q (uI (uI I 311 (((I 310 1) : Int).toNat) ((((x1 + 128) % 256 - 128) + 128) % 256 - 128)) 310 1 ((I 310 1) + 1)) D))))) :
    CV 66 [vR (some 310), vI x1] e I D Q := by
  refine Call_run (ls := [vR (some 310), vI x1]) rfl rfl ?_
  refine R_aload_n (pc' := 1) rfl rfl rfl ?_
  refine K_getI (pc' := 4) rfl rfl (by decide) rfl rfl ?_
  refine R_iflt (pc' := 7) rfl rfl (fun hc => ?_) (fun hc => ?_)
  · replace h := h.1 hc
    exact R_vret rfl rfl ⟨_, _, rfl, rfl, h⟩
  · replace h := h.2 hc
    refine R_aload_n (pc' := 8) rfl rfl rfl ?_
    refine K_getI (pc' := 11) rfl rfl (by decide) rfl rfl ?_
    refine R_aload_n (pc' := 12) rfl rfl rfl ?_
    refine K_getR (pc' := 15) rfl rfl rfl rfl (st_at he rfl rfl (by decide)) ?_
    refine K_alen (pc' := 16) rfl rfl 1 rfl (by decide) rfl ?_
    refine R_icge (pc' := 19) rfl rfl (fun hc => ?_) (fun hc => ?_)
    · replace h := h.1 hc
      exact R_vret rfl rfl ⟨_, _, rfl, rfl, h⟩
    · replace h := h.2 hc
      refine R_aload_n (pc' := 20) rfl rfl rfl ?_
      refine K_getR (pc' := 23) rfl rfl rfl rfl (st_at he rfl rfl (by decide)) ?_
      refine R_aload_n (pc' := 24) rfl rfl rfl ?_
      refine K_getI (pc' := 27) rfl rfl (by decide) rfl rfl ?_
      refine R_iload_n (pc' := 28) rfl rfl rfl ?_
      refine R_i2b (pc' := 29) rfl rfl ?_
      have g1 := h.1
      replace h := h.2
      refine K_bast (pc' := 30) rfl rfl rfl g1.1 g1.2 ?_
      refine R_aload_n (pc' := 31) rfl rfl rfl ?_
      refine R_dup (pc' := 32) rfl rfl rfl ?_
      refine K_getI (pc' := 35) rfl rfl (by decide) rfl rfl ?_
      refine R_iconst (pc' := 36) rfl rfl ?_
      have g2 := h.1
      replace h := h.2
      refine R_iadd (pc' := 37) rfl rfl g2 ?_
      refine K_putI (pc' := 40) rfl rfl (by decide) (fun h => absurd h (by decide)) rfl ?_
      exact R_vret rfl rfl ⟨_, _, rfl, rfl, h⟩
/-! 67 X7_putText -/
theorem S67 {e : En} {I : HI} {D : HD} {Q : HI → HD → Prop} {k1 : Nat} (he : HS e) (hk1 : k1 < 25)
    (h : RV 67 2 [vR (some 310), vS k1, vI 0] [] e I D Q) :
    CV 67 [vR (some 310), vS k1] e I D Q := by
  refine Call_run (ls := [vR (some 310), vS k1, vJ]) rfl rfl ?_
  refine R_iconst (pc' := 1) rfl rfl ?_
  refine R_istore_n (ls' := [vR (some 310), vS k1, vI 0]) (pc' := 2) rfl rfl rfl ?_
  exact h
theorem S67_2 {e : En} {I : HI} {D : HD} {Q : HI → HD → Prop} {k1 : Nat} {x2 : Int} (he : HS e) (hk1 : k1 < 25)
    (h : ((((zstr k1).length : Int) ≤ x2 → Q I D) ∧ (¬ (((zstr k1).length : Int) ≤ x2) → (0 ≤ x2 ∧ x2 < ((zstr k1).length : Int)) ∧ CV 66 [vR (some 310), vI (((zstr k1).getD (x2.toNat) 0 : Nat) : Int)] e I D (fun I3 D4 => (-2147483648 ≤ (x2 + 1) ∧ (x2 + 1) < 2147483648) ∧ RV 67 2 [vR (some 310), vS k1, vI (x2 + 1)] [] e I3 D4 Q)))) :
    RV 67 2 [vR (some 310), vS k1, vI x2] [] e I D Q := by
  show Run 67 2 [vR (some 310), vS k1, vI x2] [] (mk e I D) (pV e Q)
  refine R_iload_n (pc' := 3) rfl rfl rfl ?_
  refine R_aload_nS (pc' := 4) rfl rfl rfl ?_
  refine R_strlen (pc' := 7) rfl rfl hk1 (Nat.le_of_ble_eq_true rfl) ?_
  refine R_icge (pc' := 10) rfl rfl (fun hc => ?_) (fun hc => ?_)
  · replace h := h.1 hc
    exact R_vret rfl rfl ⟨_, _, rfl, rfl, h⟩
  · replace h := h.2 hc
    refine R_aload_n (pc' := 11) rfl rfl rfl ?_
    refine R_aload_nS (pc' := 12) rfl rfl rfl ?_
    refine R_iload_n (pc' := 13) rfl rfl rfl ?_
    have g1 := h.1
    replace h := h.2
    refine R_strch (pc' := 16) rfl rfl hk1 g1.1 g1.2 (Nat.le_of_ble_eq_true rfl) ?_
    refine KV_iv (as := [vI (((zstr k1).getD (x2.toNat) 0 : Nat) : Int)]) (rest := []) (pc' := 19) rfl rfl rfl rfl rfl (Nat.le_of_ble_eq_true rfl) rfl (CV_mono h ?_)
    intro I3 D4 h
    have g5 := h.1
    replace h := h.2
    refine R_iinc (ls' := [vR (some 310), vS k1, vI (x2 + 1)]) (pc' := 22) rfl rfl rfl g5 rfl ?_
    refine R_goto rfl ?_
    exact h
/-! 68 X7_putNumber -/
theorem S68 {e : En} {I : HI} {D : HD} {Q : HI → HD → Prop} {x1 : Int} (he : HS e)
    (h : RV 68 6 [vR (some 310), vI x1, vI 0, vI 10000, vJ] [] e I D Q) :
    CV 68 [vR (some 310), vI x1] e I D Q := by
  refine Call_run (ls := [vR (some 310), vI x1, vJ, vJ, vJ]) rfl rfl ?_
  refine R_iconst (pc' := 1) rfl rfl ?_
  refine R_istore_n (ls' := [vR (some 310), vI x1, vI 0, vJ, vJ]) (pc' := 2) rfl rfl rfl ?_
  refine R_sipush (pc' := 5) rfl rfl ?_
  refine R_istore_n (ls' := [vR (some 310), vI x1, vI 0, vI 10000, vJ]) (pc' := 6) rfl rfl rfl ?_
  exact h
theorem S68_6 {e : En} {I : HI} {D : HD} {Q : HI → HD → Prop} {x1 : Int} {x2 : Int} {x3 : Int} (he : HS e)
    (h : ((x3 ≤ 0 → Q I D) ∧ (¬ (x3 ≤ 0) → (x3 ≠ 0) ∧ (-2147483648 ≤ (Int.tdiv x1 x3) ∧ (Int.tdiv x1 x3) < 2147483648) ∧ (-2147483648 ≤ (Int.tdiv (Int.tdiv x1 x3) 10) ∧ (Int.tdiv (Int.tdiv x1 x3) 10) < 2147483648) ∧ (-2147483648 ≤ (Int.tmod (Int.tdiv x1 x3) 10) ∧ (Int.tmod (Int.tdiv x1 x3) 10) < 2147483648) ∧ ((¬ x2 = 0 → RV 68 32 [vR (some 310), vI x1, vJ, vI x3, vI (Int.tmod (Int.tdiv x1 x3) 10)] [] e I D Q) ∧ (¬ (¬ x2 = 0) → (((0 : Int) < (Int.tmod (Int.tdiv x1 x3) 10) → RV 68 32 [vR (some 310), vI x1, vJ, vI x3, vI (Int.tmod (Int.tdiv x1 x3) 10)] [] e I D Q) ∧ (¬ ((0 : Int) < (Int.tmod (Int.tdiv x1 x3) 10)) → ((¬ x3 = 1 → RV 68 37 [vR (some 310), vI x1, vJ, vI x3, vI (Int.tmod (Int.tdiv x1 x3) 10)] [vI 0] e I D Q) ∧ (¬ (¬ x3 = 1) → RV 68 32 [vR (some 310), vI x1, vJ, vI x3, vI (Int.tmod (Int.tdiv x1 x3) 10)] [] e I D Q))))))))) :
    RV 68 6 [vR (some 310), vI x1, vI x2, vI x3, vJ] [] e I D Q := by
  show Run 68 6 [vR (some 310), vI x1, vI x2, vI x3, vJ] [] (mk e I D) (pV e Q)
  refine R_iload_n (pc' := 7) rfl rfl rfl ?_
  refine R_ifle (pc' := 10) rfl rfl (fun hc => ?_) (fun hc => ?_)
  · replace h := h.1 hc
    exact R_vret rfl rfl ⟨_, _, rfl, rfl, h⟩
  · replace h := h.2 hc
    refine R_iload_n (pc' := 11) rfl rfl rfl ?_
    refine R_iload_n (pc' := 12) rfl rfl rfl ?_
    have g1 := h.1
    replace h := h.2
    have g2 := h.1
    replace h := h.2
    refine R_idiv (pc' := 13) rfl rfl g1 g2 ?_
    refine R_bipush (pc' := 15) rfl rfl ?_
    have g3 := h.1
    replace h := h.2
    have g4 := h.1
    replace h := h.2
    refine R_irem (pc' := 16) rfl rfl (by decide) g3 g4 ?_
    refine R_istore (ls' := [vR (some 310), vI x1, vI x2, vI x3, vI (Int.tmod (Int.tdiv x1 x3) 10)]) (pc' := 18) rfl rfl rfl ?_
    refine R_iload_n (pc' := 19) rfl rfl rfl ?_
    refine R_ifne (pc' := 22) rfl rfl (fun hc => ?_) (fun hc => ?_)
    · replace h := h.1 hc
      exact R_forget (ls' := [vR (some 310), vI x1, vJ, vI x3, vI (Int.tmod (Int.tdiv x1 x3) 10)]) ⟨Or.inl rfl, Or.inl rfl, Or.inr rfl, Or.inl rfl, Or.inl rfl, trivial⟩ h
    · replace h := h.2 hc
      refine R_iload (pc' := 24) rfl rfl rfl ?_
      refine R_ifgt (pc' := 27) rfl rfl (fun hc => ?_) (fun hc => ?_)
      · replace h := h.1 hc
        exact R_forget (ls' := [vR (some 310), vI x1, vJ, vI x3, vI (Int.tmod (Int.tdiv x1 x3) 10)]) ⟨Or.inl rfl, Or.inl rfl, Or.inr rfl, Or.inl rfl, Or.inl rfl, trivial⟩ h
      · replace h := h.2 hc
        refine R_iload_n (pc' := 28) rfl rfl rfl ?_
        refine R_iconst (pc' := 29) rfl rfl ?_
        refine R_icne (pc' := 32) rfl rfl (fun hc => ?_) (fun hc => ?_)
        · replace h := h.1 hc
          refine R_iconst (pc' := 37) rfl rfl ?_
          exact R_forget (ls' := [vR (some 310), vI x1, vJ, vI x3, vI (Int.tmod (Int.tdiv x1 x3) 10)]) ⟨Or.inl rfl, Or.inl rfl, Or.inr rfl, Or.inl rfl, Or.inl rfl, trivial⟩ h
        · replace h := h.2 hc
          exact R_forget (ls' := [vR (some 310), vI x1, vJ, vI x3, vI (Int.tmod (Int.tdiv x1 x3) 10)]) ⟨Or.inl rfl, Or.inl rfl, Or.inr rfl, Or.inl rfl, Or.inl rfl, trivial⟩ h
theorem S68_32 {e : En} {I : HI} {D : HD} {Q : HI → HD → Prop} {x1 : Int} {x3 : Int} {x4 : Int} (he : HS e)
    (h : RV 68 37 [vR (some 310), vI x1, vJ, vI x3, vI x4] [vI 1] e I D Q) :
    RV 68 32 [vR (some 310), vI x1, vJ, vI x3, vI x4] [] e I D Q := by
  show Run 68 32 [vR (some 310), vI x1, vJ, vI x3, vI x4] [] (mk e I D) (pV e Q)
  refine R_iconst (pc' := 33) rfl rfl ?_
  refine R_goto rfl ?_
  exact h
theorem S68_37 {e : En} {I : HI} {D : HD} {Q : HI → HD → Prop} {x1 : Int} {x3 : Int} {x4 : Int} {y0 : Int} (he : HS e)
    (h : ((y0 = 0 → RV 68 51 [vR (some 310), vI x1, vI y0, vI x3, vJ] [] e I D Q) ∧ (¬ (y0 = 0) → (-2147483648 ≤ (48 + x4) ∧ (48 + x4) < 2147483648) ∧ CV 66 [vR (some 310), vI (48 + x4)] e I D (fun I3 D4 => RV 68 51 [vR (some 310), vI x1, vI y0, vI x3, vJ] [] e I3 D4 Q)))) :
    RV 68 37 [vR (some 310), vI x1, vJ, vI x3, vI x4] [vI y0] e I D Q := by
  show Run 68 37 [vR (some 310), vI x1, vJ, vI x3, vI x4] [vI y0] (mk e I D) (pV e Q)
  refine R_istore_n (ls' := [vR (some 310), vI x1, vI y0, vI x3, vI x4]) (pc' := 38) rfl rfl rfl ?_
  refine R_iload_n (pc' := 39) rfl rfl rfl ?_
  refine R_ifeq (pc' := 42) rfl rfl (fun hc => ?_) (fun hc => ?_)
  · replace h := h.1 hc
    exact R_forget (ls' := [vR (some 310), vI x1, vI y0, vI x3, vJ]) ⟨Or.inl rfl, Or.inl rfl, Or.inl rfl, Or.inl rfl, Or.inr rfl, trivial⟩ h
  · replace h := h.2 hc
    refine R_aload_n (pc' := 43) rfl rfl rfl ?_
    refine R_bipush (pc' := 45) rfl rfl ?_
    refine R_iload (pc' := 47) rfl rfl rfl ?_
    have g1 := h.1
    replace h := h.2
    refine R_iadd (pc' := 48) rfl rfl g1 ?_
    refine KV_iv (as := [vI (48 + x4)]) (rest := []) (pc' := 51) rfl rfl rfl rfl rfl (Nat.le_of_ble_eq_true rfl) rfl (CV_mono h ?_)
    intro I3 D4 h
    exact R_forget (ls' := [vR (some 310), vI x1, vI y0, vI x3, vJ]) ⟨Or.inl rfl, Or.inl rfl, Or.inl rfl, Or.inl rfl, Or.inr rfl, trivial⟩ h
theorem S68_51 {e : En} {I : HI} {D : HD} {Q : HI → HD → Prop} {x1 : Int} {x2 : Int} {x3 : Int} (he : HS e)
    (h : (-2147483648 ≤ (Int.tdiv x3 10) ∧ (Int.tdiv x3 10) < 2147483648) ∧ RV 68 6 [vR (some 310), vI x1, vI x2, vI (Int.tdiv x3 10), vJ] [] e I D Q) :
    RV 68 51 [vR (some 310), vI x1, vI x2, vI x3, vJ] [] e I D Q := by
  show Run 68 51 [vR (some 310), vI x1, vI x2, vI x3, vJ] [] (mk e I D) (pV e Q)
  refine R_iload_n (pc' := 52) rfl rfl rfl ?_
  refine R_bipush (pc' := 54) rfl rfl ?_
  have g1 := h.1
  replace h := h.2
  refine R_idiv (pc' := 55) rfl rfl (by decide) g1 ?_
  refine R_istore_n (ls' := [vR (some 310), vI x1, vI x2, vI (Int.tdiv x3 10), vJ]) (pc' := 56) rfl rfl rfl ?_
  refine R_goto rfl ?_
  exact h
