/-! what the code of each method does: printed by wip/whole/gen/decomp.py -/
/-! 1 X0_clearAt -/
theorem S1 {e : En} {I : HI} {D : HD} {Q : HI → HD → Prop} {q0 : Nat} {x1 : Int} {x2 : Int} {x3 : Int} (he : HS e) (hq0 : K0 q0 = 1)
    (h : Q (uI (uI (uI (uI (uI (uI (uI (uI (uI (uI (uI (uI (uI (uI I q0 0 x1) q0 1 x1) q0 2 0) q0 3 0) q0 4 0) q0 5 (-1)) q0 6 0) q0 7 (-1)) q0 8 0) q0 9 0) q0 10 x2) q0 11 x2) q0 12 x3) q0 13 x3) D) :
    CV 1 [vR (some q0), vI x1, vI x2, vI x3] e I D Q := by
  refine Call_run (ls := [vR (some q0), vI x1, vI x2, vI x3]) rfl rfl ?_
  refine R_aload_n (pc' := 1) rfl rfl rfl ?_
  refine R_iload_n (pc' := 2) rfl rfl rfl ?_
  refine K_putI (pc' := 5) rfl rfl (by decide) (fun h => absurd h (by decide)) hq0 ?_
  refine R_aload_n (pc' := 6) rfl rfl rfl ?_
  refine R_iload_n (pc' := 7) rfl rfl rfl ?_
  refine K_putI (pc' := 10) rfl rfl (by decide) (fun h => absurd h (by decide)) hq0 ?_
  refine R_aload_n (pc' := 11) rfl rfl rfl ?_
  refine R_iconst (pc' := 12) rfl rfl ?_
  refine K_putI (pc' := 15) rfl rfl (by decide) (fun _ => Or.inl rfl) hq0 ?_
  refine R_aload_n (pc' := 16) rfl rfl rfl ?_
  refine R_iconst (pc' := 17) rfl rfl ?_
  refine K_putI (pc' := 20) rfl rfl (by decide) (fun h => absurd h (by decide)) hq0 ?_
  refine R_aload_n (pc' := 21) rfl rfl rfl ?_
  refine R_iconst (pc' := 22) rfl rfl ?_
  refine K_putI (pc' := 25) rfl rfl (by decide) (fun h => absurd h (by decide)) hq0 ?_
  refine R_aload_n (pc' := 26) rfl rfl rfl ?_
  refine R_iconst (pc' := 27) rfl rfl ?_
  refine K_putI (pc' := 30) rfl rfl (by decide) (fun h => absurd h (by decide)) hq0 ?_
  refine R_aload_n (pc' := 31) rfl rfl rfl ?_
  refine R_iconst (pc' := 32) rfl rfl ?_
  refine K_putI (pc' := 35) rfl rfl (by decide) (fun h => absurd h (by decide)) hq0 ?_
  refine R_aload_n (pc' := 36) rfl rfl rfl ?_
  refine R_iconst (pc' := 37) rfl rfl ?_
  refine K_putI (pc' := 40) rfl rfl (by decide) (fun h => absurd h (by decide)) hq0 ?_
  refine R_aload_n (pc' := 41) rfl rfl rfl ?_
  refine R_iconst (pc' := 42) rfl rfl ?_
  refine K_putI (pc' := 45) rfl rfl (by decide) (fun h => absurd h (by decide)) hq0 ?_
  refine R_aload_n (pc' := 46) rfl rfl rfl ?_
  refine R_iconst (pc' := 47) rfl rfl ?_
  refine K_putI (pc' := 50) rfl rfl (by decide) (fun h => absurd h (by decide)) hq0 ?_
  refine R_aload_n (pc' := 51) rfl rfl rfl ?_
  refine R_iload_n (pc' := 52) rfl rfl rfl ?_
  refine K_putI (pc' := 55) rfl rfl (by decide) (fun h => absurd h (by decide)) hq0 ?_
  refine R_aload_n (pc' := 56) rfl rfl rfl ?_
  refine R_iload_n (pc' := 57) rfl rfl rfl ?_
  refine K_putI (pc' := 60) rfl rfl (by decide) (fun h => absurd h (by decide)) hq0 ?_
  refine R_aload_n (pc' := 61) rfl rfl rfl ?_
  refine R_iload_n (pc' := 62) rfl rfl rfl ?_
  refine K_putI (pc' := 65) rfl rfl (by decide) (fun h => absurd h (by decide)) hq0 ?_
  refine R_aload_n (pc' := 66) rfl rfl rfl ?_
  refine R_iload_n (pc' := 67) rfl rfl rfl ?_
  refine K_putI (pc' := 70) rfl rfl (by decide) (fun h => absurd h (by decide)) hq0 ?_
  exact R_vret rfl rfl ⟨_, _, rfl, rfl, h⟩
/-! 2 X0_finish -/
theorem S2 {e : En} {I : HI} {D : HD} {Q : HI → HD → Prop} {q0 : Nat} {x1 : Int} {x2 : Int} {x3 : Int} (he : HS e) (hq0 : K0 q0 = 1)
    (h : Q (uI (uI (uI I q0 1 x1) q0 11 x2) q0 13 x3) D) :
    CV 2 [vR (some q0), vI x1, vI x2, vI x3] e I D Q := by
  refine Call_run (ls := [vR (some q0), vI x1, vI x2, vI x3]) rfl rfl ?_
  refine R_aload_n (pc' := 1) rfl rfl rfl ?_
  refine R_iload_n (pc' := 2) rfl rfl rfl ?_
  refine K_putI (pc' := 5) rfl rfl (by decide) (fun h => absurd h (by decide)) hq0 ?_
  refine R_aload_n (pc' := 6) rfl rfl rfl ?_
  refine R_iload_n (pc' := 7) rfl rfl rfl ?_
  refine K_putI (pc' := 10) rfl rfl (by decide) (fun h => absurd h (by decide)) hq0 ?_
  refine R_aload_n (pc' := 11) rfl rfl rfl ?_
  refine R_iload_n (pc' := 12) rfl rfl rfl ?_
  refine K_putI (pc' := 15) rfl rfl (by decide) (fun h => absurd h (by decide)) hq0 ?_
  exact R_vret rfl rfl ⟨_, _, rfl, rfl, h⟩
/-! 9 X2_beginAt -/
theorem S9 {e : En} {I : HI} {D : HD} {Q : HI → HD → Prop} {q0 : Nat} {x1 : Int} {x2 : Int} {x3 : Int} {x4 : Int} (he : HS e) (hq0 : K0 q0 = 3)
    (h : CV 1 [vR (some (q0 + 1)), vI x2, vI x3, vI x4] e I D (fun I2 D3 => Q (uI (uI (uI (uI (uI (uI (uI (uI (uI (uI I2 q0 1 0) q0 2 x1) q0 3 x2) q0 4 x2) q0 5 0) q0 6 0) q0 7 0) q0 8 0) q0 9 0) q0 10 0) D3)) :
    CV 9 [vR (some q0), vI x1, vI x2, vI x3, vI x4] e I D Q := by
  refine Call_run (ls := [vR (some q0), vI x1, vI x2, vI x3, vI x4]) rfl rfl ?_
  refine R_aload_n (pc' := 1) rfl rfl rfl ?_
  refine K_getR (pc' := 4) rfl rfl rfl hq0 (gF0 he hq0) ?_
  refine R_iload_n (pc' := 5) rfl rfl rfl ?_
  refine R_iload_n (pc' := 6) rfl rfl rfl ?_
  refine R_iload (pc' := 8) rfl rfl rfl ?_
  refine KV_iv (as := [vI x2, vI x3, vI x4]) (rest := []) (pc' := 11) rfl rfl rfl (kF hq0).1 rfl (Nat.le_of_ble_eq_true rfl) rfl (CV_mono h ?_)
  intro I2 D3 h
  refine R_aload_n (pc' := 12) rfl rfl rfl ?_
  refine R_iconst (pc' := 13) rfl rfl ?_
  refine K_putI (pc' := 16) rfl rfl (by decide) (fun _ => Or.inl rfl) hq0 ?_
  refine R_aload_n (pc' := 17) rfl rfl rfl ?_
  refine R_iload_n (pc' := 18) rfl rfl rfl ?_
  refine K_putI (pc' := 21) rfl rfl (by decide) (fun h => absurd h (by decide)) hq0 ?_
  refine R_aload_n (pc' := 22) rfl rfl rfl ?_
  refine R_iload_n (pc' := 23) rfl rfl rfl ?_
  refine K_putI (pc' := 26) rfl rfl (by decide) (fun h => absurd h (by decide)) hq0 ?_
  refine R_aload_n (pc' := 27) rfl rfl rfl ?_
  refine R_iload_n (pc' := 28) rfl rfl rfl ?_
  refine K_putI (pc' := 31) rfl rfl (by decide) (fun h => absurd h (by decide)) hq0 ?_
  refine R_aload_n (pc' := 32) rfl rfl rfl ?_
  refine R_iconst (pc' := 33) rfl rfl ?_
  refine K_putI (pc' := 36) rfl rfl (by decide) (fun _ => Or.inl rfl) hq0 ?_
  refine R_aload_n (pc' := 37) rfl rfl rfl ?_
  refine R_iconst (pc' := 38) rfl rfl ?_
  refine K_putI (pc' := 41) rfl rfl (by decide) (fun _ => Or.inl rfl) hq0 ?_
  refine R_aload_n (pc' := 42) rfl rfl rfl ?_
  refine R_iconst (pc' := 43) rfl rfl ?_
  refine K_putI (pc' := 46) rfl rfl (by decide) (fun _ => Or.inl rfl) hq0 ?_
  refine R_aload_n (pc' := 47) rfl rfl rfl ?_
  refine R_iconst (pc' := 48) rfl rfl ?_
  refine K_putI (pc' := 51) rfl rfl (by decide) (fun _ => Or.inl rfl) hq0 ?_
  refine R_aload_n (pc' := 52) rfl rfl rfl ?_
  refine R_iconst (pc' := 53) rfl rfl ?_
  refine K_putI (pc' := 56) rfl rfl (by decide) (fun h => absurd h (by decide)) hq0 ?_
  refine R_aload_n (pc' := 57) rfl rfl rfl ?_
  refine R_iconst (pc' := 58) rfl rfl ?_
  refine K_putI (pc' := 61) rfl rfl (by decide) (fun h => absurd h (by decide)) hq0 ?_
  exact R_vret rfl rfl ⟨_, _, rfl, rfl, h⟩
/-! 11 X3_put -/
theorem S11 {e : En} {I : HI} {D : HD} {Q : HI → HD → Prop} {q0 : Nat} {x1 : Int} {x2 : Int} {x3 : Int} (he : HS e) (hq0 : K0 q0 = 4)
    (h : (((I q0 3) < 0 → Q I D) ∧ (¬ ((I q0 3) < 0) → ((((L0 (q0 + 1)) : Int) ≤ (I q0 3) → Q I D) ∧ (¬ (((L0 (q0 + 1)) : Int) ≤ (I q0 3)) → ((((L0 (q0 + 2)) : Int) ≤ (I q0 3) → Q I D) ∧ (¬ (((L0 (q0 + 2)) : Int) ≤ (I q0 3)) → ((((L0 (q0 + 3)) : Int) ≤ (I q0 3) → Q I D) ∧ (¬ (((L0 (q0 + 3)) : Int) ≤ (I q0 3)) → (0 ≤ (I q0 3) ∧ (I q0 3) < ((L0 (q0 + 1)) : Int)) ∧ (0 ≤ ((uI I (q0 + 1) (((I q0 3) : Int).toNat) x1) q0 3) ∧ ((uI I (q0 + 1) (((I q0 3) : Int).toNat) x1) q0 3) < ((L0 (q0 + 2)) : Int)) ∧ (0 ≤ ((uI (uI I (q0 + 1) (((I q0 3) : Int).toNat) x1) (q0 + 2) ((((uI I (q0 + 1) (((I q0 3) : Int).toNat) x1) q0 3) : Int).toNat) x2) q0 3) ∧ ((uI (uI I (q0 + 1) (((I q0 3) : Int).toNat) x1) (q0 + 2) ((((uI I (q0 + 1) (((I q0 3) : Int).toNat) x1) q0 3) : Int).toNat) x2) q0 3) < ((L0 (q0 + 3)) : Int)) ∧ (-2147483648 ≤ (((uI (uI (uI I (q0 + 1) (((I q0 3) : Int).toNat) x1) (q0 + 2) ((((uI I (q0 + 1) (((I q0 3) : Int).toNat) x1) q0 3) : Int).toNat) x2) (q0 + 3) ((((uI (uI I (q0 + 1) (((I q0 3) : Int).toNat) x1) (q0 + 2) ((((uI I (q0 + 1) (((I q0 3) : Int).toNat) x1) q0 3) : Int).toNat) x2) q0 3) : Int).toNat) x3) q0 3) + 1) ∧ (((uI (uI (uI I (q0 + 1) (((I q0 3) : Int).toNat) x1) (q0 + 2) ((((uI I (q0 + 1) (((I q0 3) : Int).toNat) x1) q0 3) : Int).toNat) x2) (q0 + 3) ((((uI (uI I (q0 + 1) (((I q0 3) : Int).toNat) x1) (q0 + 2) ((((uI I (q0 + 1) (((I q0 3) : Int).toNat) x1) q0 3) : Int).toNat) x2) q0 3) : Int).toNat) x3) q0 3) + 1) < 2147483648) ∧ Q (uI (uI (uI (uI I (q0 + 1) (((I q0 3) : Int).toNat) x1) (q0 + 2) ((((uI I (q0 + 1) (((I q0 3) : Int).toNat) x1) q0 3) : Int).toNat) x2) (q0 + 3) ((((uI (uI I (q0 + 1) (((I q0 3) : Int).toNat) x1) (q0 + 2) ((((uI I (q0 + 1) (((I q0 3) : Int).toNat) x1) q0 3) : Int).toNat) x2) q0 3) : Int).toNat) x3) q0 3 (((uI (uI (uI I (q0 + 1) (((I q0 3) : Int).toNat) x1) (q0 + 2) ((((uI I (q0 + 1) (((I q0 3) : Int).toNat) x1) q0 3) : Int).toNat) x2) (q0 + 3) ((((uI (uI I (q0 + 1) (((I q0 3) : Int).toNat) x1) (q0 + 2) ((((uI I (q0 + 1) (((I q0 3) : Int).toNat) x1) q0 3) : Int).toNat) x2) q0 3) : Int).toNat) x3) q0 3) + 1)) D))))))))) :
    CV 11 [vR (some q0), vI x1, vI x2, vI x3] e I D Q := by
  refine Call_run (ls := [vR (some q0), vI x1, vI x2, vI x3]) rfl rfl ?_
  refine R_aload_n (pc' := 1) rfl rfl rfl ?_
  refine K_getI (pc' := 4) rfl rfl (by decide) hq0 rfl ?_
  refine R_iflt (pc' := 7) rfl rfl (fun hc => ?_) (fun hc => ?_)
  · replace h := h.1 hc
    exact R_vret rfl rfl ⟨_, _, rfl, rfl, h⟩
  · replace h := h.2 hc
    refine R_aload_n (pc' := 8) rfl rfl rfl ?_
    refine K_getI (pc' := 11) rfl rfl (by decide) hq0 rfl ?_
    refine R_aload_n (pc' := 12) rfl rfl rfl ?_
    refine K_getR (pc' := 15) rfl rfl rfl hq0 (gM0 he hq0) ?_
    refine K_alen (pc' := 16) rfl rfl 0 (kM hq0).1 (by decide) rfl ?_
    refine R_icge (pc' := 19) rfl rfl (fun hc => ?_) (fun hc => ?_)
    · replace h := h.1 hc
      exact R_vret rfl rfl ⟨_, _, rfl, rfl, h⟩
    · replace h := h.2 hc
      refine R_aload_n (pc' := 20) rfl rfl rfl ?_
      refine K_getI (pc' := 23) rfl rfl (by decide) hq0 rfl ?_
      refine R_aload_n (pc' := 24) rfl rfl rfl ?_
      refine K_getR (pc' := 27) rfl rfl rfl hq0 (gM1 he hq0) ?_
      refine K_alen (pc' := 28) rfl rfl 0 (kM hq0).2.1 (by decide) rfl ?_
      refine R_icge (pc' := 31) rfl rfl (fun hc => ?_) (fun hc => ?_)
      · replace h := h.1 hc
        exact R_vret rfl rfl ⟨_, _, rfl, rfl, h⟩
      · replace h := h.2 hc
        refine R_aload_n (pc' := 32) rfl rfl rfl ?_
        refine K_getI (pc' := 35) rfl rfl (by decide) hq0 rfl ?_
        refine R_aload_n (pc' := 36) rfl rfl rfl ?_
        refine K_getR (pc' := 39) rfl rfl rfl hq0 (gM2 he hq0) ?_
        refine K_alen (pc' := 40) rfl rfl 0 (kM hq0).2.2.1 (by decide) rfl ?_
        refine R_icge (pc' := 43) rfl rfl (fun hc => ?_) (fun hc => ?_)
        · replace h := h.1 hc
          exact R_vret rfl rfl ⟨_, _, rfl, rfl, h⟩
        · replace h := h.2 hc
          refine R_aload_n (pc' := 44) rfl rfl rfl ?_
          refine K_getR (pc' := 47) rfl rfl rfl hq0 (gM0 he hq0) ?_
          refine R_aload_n (pc' := 48) rfl rfl rfl ?_
          refine K_getI (pc' := 51) rfl rfl (by decide) hq0 rfl ?_
          refine R_iload_n (pc' := 52) rfl rfl rfl ?_
          have g1 := h.1
          replace h := h.2
          refine K_iast (pc' := 53) rfl rfl (kM hq0).1 g1.1 g1.2 ?_
          refine R_aload_n (pc' := 54) rfl rfl rfl ?_
          refine K_getR (pc' := 57) rfl rfl rfl hq0 (gM1 he hq0) ?_
          refine R_aload_n (pc' := 58) rfl rfl rfl ?_
          refine K_getI (pc' := 61) rfl rfl (by decide) hq0 rfl ?_
          refine R_iload_n (pc' := 62) rfl rfl rfl ?_
          have g2 := h.1
          replace h := h.2
          refine K_iast (pc' := 63) rfl rfl (kM hq0).2.1 g2.1 g2.2 ?_
          refine R_aload_n (pc' := 64) rfl rfl rfl ?_
          refine K_getR (pc' := 67) rfl rfl rfl hq0 (gM2 he hq0) ?_
          refine R_aload_n (pc' := 68) rfl rfl rfl ?_
          refine K_getI (pc' := 71) rfl rfl (by decide) hq0 rfl ?_
          refine R_iload_n (pc' := 72) rfl rfl rfl ?_
          have g3 := h.1
          replace h := h.2
          refine K_iast (pc' := 73) rfl rfl (kM hq0).2.2.1 g3.1 g3.2 ?_
          refine R_aload_n (pc' := 74) rfl rfl rfl ?_
          refine R_dup (pc' := 75) rfl rfl rfl ?_
          refine K_getI (pc' := 78) rfl rfl (by decide) hq0 rfl ?_
          refine R_iconst (pc' := 79) rfl rfl ?_
          have g4 := h.1
          replace h := h.2
          refine R_iadd (pc' := 80) rfl rfl g4 ?_
          refine K_putI (pc' := 83) rfl rfl (by decide) (fun h => absurd h (by decide)) hq0 ?_
          exact R_vret rfl rfl ⟨_, _, rfl, rfl, h⟩
/-! 12 X3_shortenTo -/
theorem S12 {e : En} {I : HI} {D : HD} {Q : HI → HD → Prop} {q0 : Nat} {x1 : Int} (he : HS e) (hq0 : K0 q0 = 4)
    (h : Q (uI I q0 3 (max 0 (min (I q0 3) x1))) D) :
    CV 12 [vR (some q0), vI x1] e I D Q := by
  refine Call_run (ls := [vR (some q0), vI x1]) rfl rfl ?_
  refine R_aload_n (pc' := 1) rfl rfl rfl ?_
  refine R_iconst (pc' := 2) rfl rfl ?_
  refine R_aload_n (pc' := 3) rfl rfl rfl ?_
  refine K_getI (pc' := 6) rfl rfl (by decide) hq0 rfl ?_
  refine R_iload_n (pc' := 7) rfl rfl rfl ?_
  refine R_min (pc' := 10) rfl rfl (Nat.le_of_ble_eq_true rfl) ?_
  refine R_max (pc' := 13) rfl rfl (Nat.le_of_ble_eq_true rfl) ?_
  refine K_putI (pc' := 16) rfl rfl (by decide) (fun h => absurd h (by decide)) hq0 ?_
  exact R_vret rfl rfl ⟨_, _, rfl, rfl, h⟩
/-! 13 X3_numberAt -/
theorem S13 {e : En} {I : HI} {D : HD} {Q : Int → HI → HD → Prop} {q0 : Nat} {x1 : Int} (he : HS e) (hq0 : K0 q0 = 4)
    (h : ((x1 < 0 → Q (-1) I D) ∧ (¬ (x1 < 0) → (((I q0 3) ≤ x1 → Q (-1) I D) ∧ (¬ ((I q0 3) ≤ x1) → ((((L0 (q0 + 1)) : Int) ≤ x1 → Q (-1) I D) ∧ (¬ (((L0 (q0 + 1)) : Int) ≤ x1) → (0 ≤ x1 ∧ x1 < ((L0 (q0 + 1)) : Int)) ∧ Q (I (q0 + 1) (x1.toNat)) I D))))))) :
    CI 13 [vR (some q0), vI x1] e I D Q := by
  refine Call_run (ls := [vR (some q0), vI x1]) rfl rfl ?_
  refine R_iload_n (pc' := 1) rfl rfl rfl ?_
  refine R_iflt (pc' := 4) rfl rfl (fun hc => ?_) (fun hc => ?_)
  · replace h := h.1 hc
    refine R_iconst (pc' := 31) rfl rfl ?_
    exact R_iret rfl rfl ⟨_, _, _, rfl, rfl, h⟩
  · replace h := h.2 hc
    refine R_iload_n (pc' := 5) rfl rfl rfl ?_
    refine R_aload_n (pc' := 6) rfl rfl rfl ?_
    refine K_getI (pc' := 9) rfl rfl (by decide) hq0 rfl ?_
    refine R_icge (pc' := 12) rfl rfl (fun hc => ?_) (fun hc => ?_)
    · replace h := h.1 hc
      refine R_iconst (pc' := 31) rfl rfl ?_
      exact R_iret rfl rfl ⟨_, _, _, rfl, rfl, h⟩
    · replace h := h.2 hc
      refine R_iload_n (pc' := 13) rfl rfl rfl ?_
      refine R_aload_n (pc' := 14) rfl rfl rfl ?_
      refine K_getR (pc' := 17) rfl rfl rfl hq0 (gM0 he hq0) ?_
      refine K_alen (pc' := 18) rfl rfl 0 (kM hq0).1 (by decide) rfl ?_
      refine R_icge (pc' := 21) rfl rfl (fun hc => ?_) (fun hc => ?_)
      · replace h := h.1 hc
        refine R_iconst (pc' := 31) rfl rfl ?_
        exact R_iret rfl rfl ⟨_, _, _, rfl, rfl, h⟩
      · replace h := h.2 hc
        refine R_aload_n (pc' := 22) rfl rfl rfl ?_
        refine K_getR (pc' := 25) rfl rfl rfl hq0 (gM0 he hq0) ?_
        refine R_iload_n (pc' := 26) rfl rfl rfl ?_
        have g1 := h.1
        replace h := h.2
        refine K_iald (pc' := 27) rfl rfl (kM hq0).1 g1.1 g1.2 rfl ?_
        refine R_goto rfl ?_
        exact R_iret rfl rfl ⟨_, _, _, rfl, rfl, h⟩
/-! 14 X3_fromAt -/
theorem S14 {e : En} {I : HI} {D : HD} {Q : Int → HI → HD → Prop} {q0 : Nat} {x1 : Int} (he : HS e) (hq0 : K0 q0 = 4)
    (h : ((x1 < 0 → Q (-1) I D) ∧ (¬ (x1 < 0) → (((I q0 3) ≤ x1 → Q (-1) I D) ∧ (¬ ((I q0 3) ≤ x1) → ((((L0 (q0 + 2)) : Int) ≤ x1 → Q (-1) I D) ∧ (¬ (((L0 (q0 + 2)) : Int) ≤ x1) → (0 ≤ x1 ∧ x1 < ((L0 (q0 + 2)) : Int)) ∧ Q (I (q0 + 2) (x1.toNat)) I D))))))) :
    CI 14 [vR (some q0), vI x1] e I D Q := by
  refine Call_run (ls := [vR (some q0), vI x1]) rfl rfl ?_
  refine R_iload_n (pc' := 1) rfl rfl rfl ?_
  refine R_iflt (pc' := 4) rfl rfl (fun hc => ?_) (fun hc => ?_)
  · replace h := h.1 hc
    refine R_iconst (pc' := 31) rfl rfl ?_
    exact R_iret rfl rfl ⟨_, _, _, rfl, rfl, h⟩
  · replace h := h.2 hc
    refine R_iload_n (pc' := 5) rfl rfl rfl ?_
    refine R_aload_n (pc' := 6) rfl rfl rfl ?_
    refine K_getI (pc' := 9) rfl rfl (by decide) hq0 rfl ?_
    refine R_icge (pc' := 12) rfl rfl (fun hc => ?_) (fun hc => ?_)
    · replace h := h.1 hc
      refine R_iconst (pc' := 31) rfl rfl ?_
      exact R_iret rfl rfl ⟨_, _, _, rfl, rfl, h⟩
    · replace h := h.2 hc
      refine R_iload_n (pc' := 13) rfl rfl rfl ?_
      refine R_aload_n (pc' := 14) rfl rfl rfl ?_
      refine K_getR (pc' := 17) rfl rfl rfl hq0 (gM1 he hq0) ?_
      refine K_alen (pc' := 18) rfl rfl 0 (kM hq0).2.1 (by decide) rfl ?_
      refine R_icge (pc' := 21) rfl rfl (fun hc => ?_) (fun hc => ?_)
      · replace h := h.1 hc
        refine R_iconst (pc' := 31) rfl rfl ?_
        exact R_iret rfl rfl ⟨_, _, _, rfl, rfl, h⟩
      · replace h := h.2 hc
        refine R_aload_n (pc' := 22) rfl rfl rfl ?_
        refine K_getR (pc' := 25) rfl rfl rfl hq0 (gM1 he hq0) ?_
        refine R_iload_n (pc' := 26) rfl rfl rfl ?_
        have g1 := h.1
        replace h := h.2
        refine K_iald (pc' := 27) rfl rfl (kM hq0).2.1 g1.1 g1.2 rfl ?_
        refine R_goto rfl ?_
        exact R_iret rfl rfl ⟨_, _, _, rfl, rfl, h⟩
/-! 15 X3_toAt -/
theorem S15 {e : En} {I : HI} {D : HD} {Q : Int → HI → HD → Prop} {q0 : Nat} {x1 : Int} (he : HS e) (hq0 : K0 q0 = 4)
    (h : ((x1 < 0 → Q (-1) I D) ∧ (¬ (x1 < 0) → (((I q0 3) ≤ x1 → Q (-1) I D) ∧ (¬ ((I q0 3) ≤ x1) → ((((L0 (q0 + 3)) : Int) ≤ x1 → Q (-1) I D) ∧ (¬ (((L0 (q0 + 3)) : Int) ≤ x1) → (0 ≤ x1 ∧ x1 < ((L0 (q0 + 3)) : Int)) ∧ Q (I (q0 + 3) (x1.toNat)) I D))))))) :
    CI 15 [vR (some q0), vI x1] e I D Q := by
  refine Call_run (ls := [vR (some q0), vI x1]) rfl rfl ?_
  refine R_iload_n (pc' := 1) rfl rfl rfl ?_
  refine R_iflt (pc' := 4) rfl rfl (fun hc => ?_) (fun hc => ?_)
  · replace h := h.1 hc
    refine R_iconst (pc' := 31) rfl rfl ?_
    exact R_iret rfl rfl ⟨_, _, _, rfl, rfl, h⟩
  · replace h := h.2 hc
    refine R_iload_n (pc' := 5) rfl rfl rfl ?_
    refine R_aload_n (pc' := 6) rfl rfl rfl ?_
    refine K_getI (pc' := 9) rfl rfl (by decide) hq0 rfl ?_
    refine R_icge (pc' := 12) rfl rfl (fun hc => ?_) (fun hc => ?_)
    · replace h := h.1 hc
      refine R_iconst (pc' := 31) rfl rfl ?_
      exact R_iret rfl rfl ⟨_, _, _, rfl, rfl, h⟩
    · replace h := h.2 hc
      refine R_iload_n (pc' := 13) rfl rfl rfl ?_
      refine R_aload_n (pc' := 14) rfl rfl rfl ?_
      refine K_getR (pc' := 17) rfl rfl rfl hq0 (gM2 he hq0) ?_
      refine K_alen (pc' := 18) rfl rfl 0 (kM hq0).2.2.1 (by decide) rfl ?_
      refine R_icge (pc' := 21) rfl rfl (fun hc => ?_) (fun hc => ?_)
      · replace h := h.1 hc
        refine R_iconst (pc' := 31) rfl rfl ?_
        exact R_iret rfl rfl ⟨_, _, _, rfl, rfl, h⟩
      · replace h := h.2 hc
        refine R_aload_n (pc' := 22) rfl rfl rfl ?_
        refine K_getR (pc' := 25) rfl rfl rfl hq0 (gM2 he hq0) ?_
        refine R_iload_n (pc' := 26) rfl rfl rfl ?_
        have g1 := h.1
        replace h := h.2
        refine K_iald (pc' := 27) rfl rfl (kM hq0).2.2.1 g1.1 g1.2 rfl ?_
        refine R_goto rfl ?_
        exact R_iret rfl rfl ⟨_, _, _, rfl, rfl, h⟩
/-! 4 X1_read -/
theorem S4 {e : En} {I : HI} {D : HD} {Q : Int → HI → HD → Prop} {A : Nat} {q1 : Nat} {x2 : Int} {x3 : Int} (he : HS e) (hA : isA A) (hq1 : K0 q1 = 1)
    (h : (x3 = 0 ∨ x3 = 1) ∧ CI 52 [vR (some 1), vI x2] e (uI I (A + 18) 4 x3) (uD D (A + 18) 3 q1) (fun z2 I3 D4 => (K0 ((uD D (A + 18) 3 q1) (A + 18) 3) = 1) ∧ CV 1 [vR (some ((uD D (A + 18) 3 q1) (A + 18) 3)), vI z2, vI (I3 (A + 2) 3), vI (I3 (A + 6) 3)] e I3 D4 (fun I7 D8 => CI 55 [vR (some 1), vI x2] e I7 D8 (fun z9 I10 D11 => RI 4 52 [vR (some (A + 18)), vJ, vJ, vJ, vI z9, vI 0, vJ, vJ, vJ, vJ] [] e I10 D11 Q)))) :
    CI 4 [vR (some (A + 18)), vR (some q1), vI x2, vI x3] e I D Q := by
  refine Call_run (ls := [vR (some (A + 18)), vR (some q1), vI x2, vI x3, vJ, vJ, vJ, vJ, vJ, vJ]) rfl rfl ?_
  refine R_aload_n (pc' := 1) rfl rfl rfl ?_
  refine R_aload_n (pc' := 2) rfl rfl rfl ?_
  refine K_putR (pc' := 5) rfl rfl rfl (kA hA 18 2 ⟨rfl, rfl⟩) (dA hA 18 3 ⟨rfl, rfl⟩) ?_
  refine R_aload_n (pc' := 6) rfl rfl rfl ?_
  refine R_iload_n (pc' := 7) rfl rfl rfl ?_
  have g1 := h.1
  replace h := h.2
  refine K_putI (pc' := 10) rfl rfl (by decide) (fun _ => g1) (kA hA 18 2 ⟨rfl, rfl⟩) ?_
  refine R_aload_n (pc' := 11) rfl rfl rfl ?_
  refine K_getR (pc' := 14) rfl rfl rfl (kA hA 18 2 ⟨rfl, rfl⟩) (dy_at (dA hA 18 3 ⟨rfl, rfl⟩)) ?_
  refine R_aload_n (pc' := 15) rfl rfl rfl ?_
  refine K_getR (pc' := 18) rfl rfl rfl (kA hA 18 2 ⟨rfl, rfl⟩) (gA1 he hA 18 ⟨⟨rfl, rfl⟩, rfl, rfl⟩) ?_
  refine R_iload_n (pc' := 19) rfl rfl rfl ?_
  refine KI_iv (as := [vI x2]) (rest := [vR (some ((uD D (A + 18) 3 q1) (A + 18) 3))]) (pc' := 22) rfl rfl rfl rfl rfl (Nat.le_of_ble_eq_true rfl) rfl (CI_mono h ?_)
  intro z2 I3 D4 h
  refine R_aload_n (pc' := 23) rfl rfl rfl ?_
  refine K_getR (pc' := 26) rfl rfl rfl (kA hA 18 2 ⟨rfl, rfl⟩) (gA he hA 18 1 2 ⟨⟨rfl, rfl⟩, rfl, rfl⟩) ?_
  refine K_getIN (pc' := 29) rfl rfl (by decide) (kA hA 2 4 ⟨rfl, rfl⟩) rfl ?_
  refine R_aload_n (pc' := 30) rfl rfl rfl ?_
  refine K_getR (pc' := 33) rfl rfl rfl (kA hA 18 2 ⟨rfl, rfl⟩) (gA he hA 18 2 6 ⟨⟨rfl, rfl⟩, rfl, rfl⟩) ?_
  refine K_getIN (pc' := 36) rfl rfl (by decide) (kA hA 6 4 ⟨rfl, rfl⟩) rfl ?_
  have g5 := h.1
  replace h := h.2
  refine KV_iv (as := [vI z2, vI (I3 (A + 2) 3), vI (I3 (A + 6) 3)]) (rest := []) (pc' := 39) rfl rfl rfl g5 rfl (Nat.le_of_ble_eq_true rfl) rfl (CV_mono h ?_)
  intro I7 D8 h
  refine R_aload_n (pc' := 40) rfl rfl rfl ?_
  refine K_getR (pc' := 43) rfl rfl rfl (kA hA 18 2 ⟨rfl, rfl⟩) (gA1 he hA 18 ⟨⟨rfl, rfl⟩, rfl, rfl⟩) ?_
  refine R_iload_n (pc' := 44) rfl rfl rfl ?_
  refine KI_iv (as := [vI x2]) (rest := []) (pc' := 47) rfl rfl rfl rfl rfl (Nat.le_of_ble_eq_true rfl) rfl (CI_mono h ?_)
  intro z9 I10 D11 h
  refine R_istore (ls' := [vR (some (A + 18)), vR (some q1), vI x2, vI x3, vI z9, vJ, vJ, vJ, vJ, vJ]) (pc' := 49) rfl rfl rfl ?_
  refine R_iconst (pc' := 50) rfl rfl ?_
  refine R_istore (ls' := [vR (some (A + 18)), vR (some q1), vI x2, vI x3, vI z9, vI 0, vJ, vJ, vJ, vJ]) (pc' := 52) rfl rfl rfl ?_
  exact R_forget (ls' := [vR (some (A + 18)), vJ, vJ, vJ, vI z9, vI 0, vJ, vJ, vJ, vJ]) ⟨Or.inl rfl, Or.inr rfl, Or.inr rfl, Or.inr rfl, Or.inl rfl, Or.inl rfl, Or.inl rfl, Or.inl rfl, Or.inl rfl, Or.inl rfl, trivial⟩ h
theorem S4_52 {e : En} {I : HI} {D : HD} {Q : Int → HI → HD → Prop} {A : Nat} {x4 : Int} {x5 : Int} (he : HS e) (hA : isA A)
    (h : (((3000 : Int) < x5 → RI 4 200 [vR (some (A + 18)), vJ, vJ, vJ, vI x4, vJ, vJ, vJ, vJ, vJ] [] e I D Q) ∧ (¬ ((3000 : Int) < x5) → CI 5 [vR (some (A + 18)), vI x4] e I D (fun z1 I2 D3 => ((¬ z1 = 0 → RI 4 200 [vR (some (A + 18)), vJ, vJ, vJ, vI x4, vJ, vJ, vJ, vJ, vJ] [] e I2 D3 Q) ∧ (¬ (¬ z1 = 0) → CI 53 [vR (some 1), vI x4] e I2 D3 (fun z4 I5 D6 => ((¬ z4 = 10 → CI 55 [vR (some 1), vI x4] e I5 D6 (fun z7 I8 D9 => ((¬ z4 = 8 → RI 4 190 [vR (some (A + 18)), vJ, vJ, vJ, vJ, vI x5, vJ, vI z7, vJ, vJ] [] e I8 D9 Q) ∧ (¬ (¬ z4 = 8) → CI 53 [vR (some 1), vI z7] e I8 D9 (fun z10 I11 D12 => ((z10 = 10 → RI 4 190 [vR (some (A + 18)), vJ, vJ, vJ, vJ, vI x5, vJ, vI z7, vJ, vJ] [] e I11 D12 Q) ∧ (¬ (z10 = 10) → CI 5 [vR (some (A + 18)), vI z7] e I11 D12 (fun z13 I14 D15 => ((¬ z13 = 0 → RI 4 190 [vR (some (A + 18)), vJ, vJ, vJ, vJ, vI x5, vJ, vI z7, vJ, vJ] [] e I14 D15 Q) ∧ (¬ (¬ z13 = 0) → CI 6 [vR (some (A + 18)), vI z7] e I14 D15 (fun z16 I17 D18 => CV 7 [vR (some (A + 18)), vI x4, vI z7, vI z16, vI (I14 (A + 2) 3)] e I17 D18 (fun I20 D21 => CI 51 [vR (some 1), vI z16] e I20 D21 (fun z22 I23 D24 => RI 4 190 [vR (some (A + 18)), vJ, vJ, vJ, vJ, vI x5, vJ, vI z22, vJ, vJ] [] e I23 D24 Q))))))))))))) ∧ (¬ (¬ z4 = 10) → (K0 (D6 (A + 18) 3) = 1) ∧ CI 52 [vR (some 1), vI x4] e (uI I5 (D6 (A + 18) 3) 2 1) D6 (fun z26 I27 D28 => RI 4 200 [vR (some (A + 18)), vJ, vJ, vJ, vI z26, vJ, vJ, vJ, vJ, vJ] [] e I27 D28 Q)))))))))) :
    RI 4 52 [vR (some (A + 18)), vJ, vJ, vJ, vI x4, vI x5, vJ, vJ, vJ, vJ] [] e I D Q := by
  show Run 4 52 [vR (some (A + 18)), vJ, vJ, vJ, vI x4, vI x5, vJ, vJ, vJ, vJ] [] (mk e I D) (pI e Q)
  refine R_iload (pc' := 54) rfl rfl rfl ?_
  refine R_sipush (pc' := 57) rfl rfl ?_
  refine R_icgt (pc' := 60) rfl rfl (fun hc => ?_) (fun hc => ?_)
  · replace h := h.1 hc
    exact R_forget (ls' := [vR (some (A + 18)), vJ, vJ, vJ, vI x4, vJ, vJ, vJ, vJ, vJ]) ⟨Or.inl rfl, Or.inl rfl, Or.inl rfl, Or.inl rfl, Or.inl rfl, Or.inr rfl, Or.inl rfl, Or.inl rfl, Or.inl rfl, Or.inl rfl, trivial⟩ h
  · replace h := h.2 hc
    refine R_aload_n (pc' := 61) rfl rfl rfl ?_
    refine R_iload (pc' := 63) rfl rfl rfl ?_
    refine KI_iv (as := [vI x4]) (rest := []) (pc' := 66) rfl rfl rfl (kA hA 18 2 ⟨rfl, rfl⟩) rfl (Nat.le_of_ble_eq_true rfl) rfl (CI_mono h ?_)
    intro z1 I2 D3 h
    refine R_ifne (pc' := 69) rfl rfl (fun hc => ?_) (fun hc => ?_)
    · replace h := h.1 hc
      exact R_forget (ls' := [vR (some (A + 18)), vJ, vJ, vJ, vI x4, vJ, vJ, vJ, vJ, vJ]) ⟨Or.inl rfl, Or.inl rfl, Or.inl rfl, Or.inl rfl, Or.inl rfl, Or.inr rfl, Or.inl rfl, Or.inl rfl, Or.inl rfl, Or.inl rfl, trivial⟩ h
    · replace h := h.2 hc
      refine R_aload_n (pc' := 70) rfl rfl rfl ?_
      refine K_getR (pc' := 73) rfl rfl rfl (kA hA 18 2 ⟨rfl, rfl⟩) (gA1 he hA 18 ⟨⟨rfl, rfl⟩, rfl, rfl⟩) ?_
      refine R_iload (pc' := 75) rfl rfl rfl ?_
      refine KI_iv (as := [vI x4]) (rest := []) (pc' := 78) rfl rfl rfl rfl rfl (Nat.le_of_ble_eq_true rfl) rfl (CI_mono h ?_)
      intro z4 I5 D6 h
      refine R_istore (ls' := [vR (some (A + 18)), vJ, vJ, vJ, vI x4, vI x5, vI z4, vJ, vJ, vJ]) (pc' := 80) rfl rfl rfl ?_
      refine R_iload (pc' := 82) rfl rfl rfl ?_
      refine R_bipush (pc' := 84) rfl rfl ?_
      refine R_icne (pc' := 87) rfl rfl (fun hc => ?_) (fun hc => ?_)
      · replace h := h.1 hc
        refine R_aload_n (pc' := 110) rfl rfl rfl ?_
        refine K_getR (pc' := 113) rfl rfl rfl (kA hA 18 2 ⟨rfl, rfl⟩) (gA1 he hA 18 ⟨⟨rfl, rfl⟩, rfl, rfl⟩) ?_
        refine R_iload (pc' := 115) rfl rfl rfl ?_
        refine KI_iv (as := [vI x4]) (rest := []) (pc' := 118) rfl rfl rfl rfl rfl (Nat.le_of_ble_eq_true rfl) rfl (CI_mono h ?_)
        intro z7 I8 D9 h
        refine R_istore (ls' := [vR (some (A + 18)), vJ, vJ, vJ, vI x4, vI x5, vI z4, vI z7, vJ, vJ]) (pc' := 120) rfl rfl rfl ?_
        refine R_iload (pc' := 122) rfl rfl rfl ?_
        refine R_bipush (pc' := 124) rfl rfl ?_
        refine R_icne (pc' := 127) rfl rfl (fun hc => ?_) (fun hc => ?_)
        · replace h := h.1 hc
          exact R_forget (ls' := [vR (some (A + 18)), vJ, vJ, vJ, vJ, vI x5, vJ, vI z7, vJ, vJ]) ⟨Or.inl rfl, Or.inl rfl, Or.inl rfl, Or.inl rfl, Or.inr rfl, Or.inl rfl, Or.inr rfl, Or.inl rfl, Or.inl rfl, Or.inl rfl, trivial⟩ h
        · replace h := h.2 hc
          refine R_aload_n (pc' := 128) rfl rfl rfl ?_
          refine K_getR (pc' := 131) rfl rfl rfl (kA hA 18 2 ⟨rfl, rfl⟩) (gA1 he hA 18 ⟨⟨rfl, rfl⟩, rfl, rfl⟩) ?_
          refine R_iload (pc' := 133) rfl rfl rfl ?_
          refine KI_iv (as := [vI z7]) (rest := []) (pc' := 136) rfl rfl rfl rfl rfl (Nat.le_of_ble_eq_true rfl) rfl (CI_mono h ?_)
          intro z10 I11 D12 h
          refine R_bipush (pc' := 138) rfl rfl ?_
          refine R_iceq (pc' := 141) rfl rfl (fun hc => ?_) (fun hc => ?_)
          · replace h := h.1 hc
            exact R_forget (ls' := [vR (some (A + 18)), vJ, vJ, vJ, vJ, vI x5, vJ, vI z7, vJ, vJ]) ⟨Or.inl rfl, Or.inl rfl, Or.inl rfl, Or.inl rfl, Or.inr rfl, Or.inl rfl, Or.inr rfl, Or.inl rfl, Or.inl rfl, Or.inl rfl, trivial⟩ h
          · replace h := h.2 hc
            refine R_aload_n (pc' := 142) rfl rfl rfl ?_
            refine R_iload (pc' := 144) rfl rfl rfl ?_
            refine KI_iv (as := [vI z7]) (rest := []) (pc' := 147) rfl rfl rfl (kA hA 18 2 ⟨rfl, rfl⟩) rfl (Nat.le_of_ble_eq_true rfl) rfl (CI_mono h ?_)
            intro z13 I14 D15 h
            refine R_ifne (pc' := 150) rfl rfl (fun hc => ?_) (fun hc => ?_)
            · replace h := h.1 hc
              exact R_forget (ls' := [vR (some (A + 18)), vJ, vJ, vJ, vJ, vI x5, vJ, vI z7, vJ, vJ]) ⟨Or.inl rfl, Or.inl rfl, Or.inl rfl, Or.inl rfl, Or.inr rfl, Or.inl rfl, Or.inr rfl, Or.inl rfl, Or.inl rfl, Or.inl rfl, trivial⟩ h
            · replace h := h.2 hc
              refine R_aload_n (pc' := 151) rfl rfl rfl ?_
              refine K_getR (pc' := 154) rfl rfl rfl (kA hA 18 2 ⟨rfl, rfl⟩) (gA he hA 18 1 2 ⟨⟨rfl, rfl⟩, rfl, rfl⟩) ?_
              refine K_getIN (pc' := 157) rfl rfl (by decide) (kA hA 2 4 ⟨rfl, rfl⟩) rfl ?_
              refine R_istore (ls' := [vR (some (A + 18)), vJ, vJ, vJ, vI x4, vI x5, vI z4, vI z7, vI (I14 (A + 2) 3), vJ]) (pc' := 159) rfl rfl rfl ?_
              refine R_aload_n (pc' := 160) rfl rfl rfl ?_
              refine R_iload (pc' := 162) rfl rfl rfl ?_
              refine KI_iv (as := [vI z7]) (rest := []) (pc' := 165) rfl rfl rfl (kA hA 18 2 ⟨rfl, rfl⟩) rfl (Nat.le_of_ble_eq_true rfl) rfl (CI_mono h ?_)
              intro z16 I17 D18 h
              refine R_istore (ls' := [vR (some (A + 18)), vJ, vJ, vJ, vI x4, vI x5, vI z4, vI z7, vI (I14 (A + 2) 3), vI z16]) (pc' := 167) rfl rfl rfl ?_
              refine R_aload_n (pc' := 168) rfl rfl rfl ?_
              refine R_iload (pc' := 170) rfl rfl rfl ?_
              refine R_iload (pc' := 172) rfl rfl rfl ?_
              refine R_iload (pc' := 174) rfl rfl rfl ?_
              refine R_iload (pc' := 176) rfl rfl rfl ?_
              refine KV_iv (as := [vI x4, vI z7, vI z16, vI (I14 (A + 2) 3)]) (rest := []) (pc' := 179) rfl rfl rfl (kA hA 18 2 ⟨rfl, rfl⟩) rfl (Nat.le_of_ble_eq_true rfl) rfl (CV_mono h ?_)
              intro I20 D21 h
              refine R_aload_n (pc' := 180) rfl rfl rfl ?_
              refine K_getR (pc' := 183) rfl rfl rfl (kA hA 18 2 ⟨rfl, rfl⟩) (gA1 he hA 18 ⟨⟨rfl, rfl⟩, rfl, rfl⟩) ?_
              refine R_iload (pc' := 185) rfl rfl rfl ?_
              refine KI_iv (as := [vI z16]) (rest := []) (pc' := 188) rfl rfl rfl rfl rfl (Nat.le_of_ble_eq_true rfl) rfl (CI_mono h ?_)
              intro z22 I23 D24 h
              refine R_istore (ls' := [vR (some (A + 18)), vJ, vJ, vJ, vI x4, vI x5, vI z4, vI z22, vI (I14 (A + 2) 3), vI z16]) (pc' := 190) rfl rfl rfl ?_
              exact R_forget (ls' := [vR (some (A + 18)), vJ, vJ, vJ, vJ, vI x5, vJ, vI z22, vJ, vJ]) ⟨Or.inl rfl, Or.inl rfl, Or.inl rfl, Or.inl rfl, Or.inr rfl, Or.inl rfl, Or.inr rfl, Or.inl rfl, Or.inr rfl, Or.inr rfl, trivial⟩ h
      · replace h := h.2 hc
        refine R_aload_n (pc' := 88) rfl rfl rfl ?_
        refine K_getR (pc' := 91) rfl rfl rfl (kA hA 18 2 ⟨rfl, rfl⟩) (dy_at (dA hA 18 3 ⟨rfl, rfl⟩)) ?_
        refine R_iconst (pc' := 92) rfl rfl ?_
        have g25 := h.1
        replace h := h.2
        refine K_putIN (pc' := 95) rfl rfl (by decide) (fun _ => Or.inr rfl) g25 ?_
        refine R_aload_n (pc' := 96) rfl rfl rfl ?_
        refine K_getR (pc' := 99) rfl rfl rfl (kA hA 18 2 ⟨rfl, rfl⟩) (gA1 he hA 18 ⟨⟨rfl, rfl⟩, rfl, rfl⟩) ?_
        refine R_iload (pc' := 101) rfl rfl rfl ?_
        refine KI_iv (as := [vI x4]) (rest := []) (pc' := 104) rfl rfl rfl rfl rfl (Nat.le_of_ble_eq_true rfl) rfl (CI_mono h ?_)
        intro z26 I27 D28 h
        refine R_istore (ls' := [vR (some (A + 18)), vJ, vJ, vJ, vI z26, vI x5, vI z4, vJ, vJ, vJ]) (pc' := 106) rfl rfl rfl ?_
        refine R_goto rfl ?_
        exact R_forget (ls' := [vR (some (A + 18)), vJ, vJ, vJ, vI z26, vJ, vJ, vJ, vJ, vJ]) ⟨Or.inl rfl, Or.inl rfl, Or.inl rfl, Or.inl rfl, Or.inl rfl, Or.inr rfl, Or.inr rfl, Or.inl rfl, Or.inl rfl, Or.inl rfl, trivial⟩ h
theorem S4_190 {e : En} {I : HI} {D : HD} {Q : Int → HI → HD → Prop} {A : Nat} {x5 : Int} {x7 : Int} (he : HS e) (hA : isA A)
    (h : (-2147483648 ≤ (x5 + 1) ∧ (x5 + 1) < 2147483648) ∧ RI 4 52 [vR (some (A + 18)), vJ, vJ, vJ, vI x7, vI (x5 + 1), vJ, vJ, vJ, vJ] [] e I D Q) :
    RI 4 190 [vR (some (A + 18)), vJ, vJ, vJ, vJ, vI x5, vJ, vI x7, vJ, vJ] [] e I D Q := by
  show Run 4 190 [vR (some (A + 18)), vJ, vJ, vJ, vJ, vI x5, vJ, vI x7, vJ, vJ] [] (mk e I D) (pI e Q)
  refine R_iload (pc' := 192) rfl rfl rfl ?_
  refine R_istore (ls' := [vR (some (A + 18)), vJ, vJ, vJ, vI x7, vI x5, vJ, vI x7, vJ, vJ]) (pc' := 194) rfl rfl rfl ?_
  have g1 := h.1
  replace h := h.2
  refine R_iinc (ls' := [vR (some (A + 18)), vJ, vJ, vJ, vI x7, vI (x5 + 1), vJ, vI x7, vJ, vJ]) (pc' := 197) rfl rfl rfl g1 rfl ?_
  refine R_goto rfl ?_
  exact R_forget (ls' := [vR (some (A + 18)), vJ, vJ, vJ, vI x7, vI (x5 + 1), vJ, vJ, vJ, vJ]) ⟨Or.inl rfl, Or.inl rfl, Or.inl rfl, Or.inl rfl, Or.inl rfl, Or.inl rfl, Or.inl rfl, Or.inr rfl, Or.inl rfl, Or.inl rfl, trivial⟩ h
theorem S4_200 {e : En} {I : HI} {D : HD} {Q : Int → HI → HD → Prop} {A : Nat} {x4 : Int} (he : HS e) (hA : isA A)
    (h : (K0 (D (A + 18) 3) = 1) ∧ CV 2 [vR (some (D (A + 18) 3)), vI x4, vI (I (A + 2) 3), vI (I (A + 6) 3)] e I D (fun I3 D4 => Q x4 I3 D4)) :
    RI 4 200 [vR (some (A + 18)), vJ, vJ, vJ, vI x4, vJ, vJ, vJ, vJ, vJ] [] e I D Q := by
  show Run 4 200 [vR (some (A + 18)), vJ, vJ, vJ, vI x4, vJ, vJ, vJ, vJ, vJ] [] (mk e I D) (pI e Q)
  refine R_aload_n (pc' := 201) rfl rfl rfl ?_
  refine K_getR (pc' := 204) rfl rfl rfl (kA hA 18 2 ⟨rfl, rfl⟩) (dy_at (dA hA 18 3 ⟨rfl, rfl⟩)) ?_
  refine R_iload (pc' := 206) rfl rfl rfl ?_
  refine R_aload_n (pc' := 207) rfl rfl rfl ?_
  refine K_getR (pc' := 210) rfl rfl rfl (kA hA 18 2 ⟨rfl, rfl⟩) (gA he hA 18 1 2 ⟨⟨rfl, rfl⟩, rfl, rfl⟩) ?_
  refine K_getIN (pc' := 213) rfl rfl (by decide) (kA hA 2 4 ⟨rfl, rfl⟩) rfl ?_
  refine R_aload_n (pc' := 214) rfl rfl rfl ?_
  refine K_getR (pc' := 217) rfl rfl rfl (kA hA 18 2 ⟨rfl, rfl⟩) (gA he hA 18 2 6 ⟨⟨rfl, rfl⟩, rfl, rfl⟩) ?_
  refine K_getIN (pc' := 220) rfl rfl (by decide) (kA hA 6 4 ⟨rfl, rfl⟩) rfl ?_
  have g1 := h.1
  replace h := h.2
  refine KV_iv (as := [vI x4, vI (I (A + 2) 3), vI (I (A + 6) 3)]) (rest := []) (pc' := 223) rfl rfl rfl g1 rfl (Nat.le_of_ble_eq_true rfl) rfl (CV_mono h ?_)
  intro I3 D4 h
  refine R_iload (pc' := 225) rfl rfl rfl ?_
  exact R_iret rfl rfl ⟨_, _, _, rfl, rfl, h⟩
/-! 5 X1_endsAt -/
theorem S5 {e : En} {I : HI} {D : HD} {Q : Int → HI → HD → Prop} {A : Nat} {x1 : Int} (he : HS e) (hA : isA A)
    (h : CI 53 [vR (some 1), vI x1] e I D (fun z1 I2 D3 => ((z1 = 0 → RI 5 27 [vJ, vJ, vJ] [] e I2 D3 Q) ∧ (¬ (z1 = 0) → (((I2 (A + 18) 4) = 0 → Q 0 I2 D3) ∧ (¬ ((I2 (A + 18) 4) = 0) → CI 84 [vI z1] e I2 D3 (fun z4 I5 D6 => ((z4 = 0 → Q 0 I5 D6) ∧ (¬ (z4 = 0) → RI 5 27 [vJ, vJ, vJ] [] e I5 D6 Q))))))))) :
    CI 5 [vR (some (A + 18)), vI x1] e I D Q := by
  refine Call_run (ls := [vR (some (A + 18)), vI x1, vJ]) rfl rfl ?_
  refine R_aload_n (pc' := 1) rfl rfl rfl ?_
  refine K_getR (pc' := 4) rfl rfl rfl (kA hA 18 2 ⟨rfl, rfl⟩) (gA1 he hA 18 ⟨⟨rfl, rfl⟩, rfl, rfl⟩) ?_
  refine R_iload_n (pc' := 5) rfl rfl rfl ?_
  refine KI_iv (as := [vI x1]) (rest := []) (pc' := 8) rfl rfl rfl rfl rfl (Nat.le_of_ble_eq_true rfl) rfl (CI_mono h ?_)
  intro z1 I2 D3 h
  refine R_istore_n (ls' := [vR (some (A + 18)), vI x1, vI z1]) (pc' := 9) rfl rfl rfl ?_
  refine R_iload_n (pc' := 10) rfl rfl rfl ?_
  refine R_ifeq (pc' := 13) rfl rfl (fun hc => ?_) (fun hc => ?_)
  · replace h := h.1 hc
    exact R_forget (ls' := [vJ, vJ, vJ]) ⟨Or.inr rfl, Or.inr rfl, Or.inr rfl, trivial⟩ h
  · replace h := h.2 hc
    refine R_aload_n (pc' := 14) rfl rfl rfl ?_
    refine K_getI (pc' := 17) rfl rfl (by decide) (kA hA 18 2 ⟨rfl, rfl⟩) rfl ?_
    refine R_ifeq (pc' := 20) rfl rfl (fun hc => ?_) (fun hc => ?_)
    · replace h := h.1 hc
      refine R_iconst (pc' := 32) rfl rfl ?_
      exact R_zret rfl rfl (Or.inl rfl) ⟨_, _, _, rfl, rfl, h⟩
    · replace h := h.2 hc
      refine R_iload_n (pc' := 21) rfl rfl rfl ?_
      refine KI_stN (as := [vI z1]) (rest := []) (pc' := 24) rfl rfl rfl rfl (Nat.le_of_ble_eq_true rfl) rfl (CI_mono h ?_)
      intro z4 I5 D6 h
      refine R_ifeq (pc' := 27) rfl rfl (fun hc => ?_) (fun hc => ?_)
      · replace h := h.1 hc
        refine R_iconst (pc' := 32) rfl rfl ?_
        exact R_zret rfl rfl (Or.inl rfl) ⟨_, _, _, rfl, rfl, h⟩
      · replace h := h.2 hc
        exact R_forget (ls' := [vJ, vJ, vJ]) ⟨Or.inr rfl, Or.inr rfl, Or.inr rfl, trivial⟩ h
theorem S5_27 {e : En} {I : HI} {D : HD} {Q : Int → HI → HD → Prop} (he : HS e)
    (h : Q 1 I D) :
    RI 5 27 [vJ, vJ, vJ] [] e I D Q := by
  show Run 5 27 [vJ, vJ, vJ] [] (mk e I D) (pI e Q)
  refine R_iconst (pc' := 28) rfl rfl ?_
  refine R_goto rfl ?_
  exact R_zret rfl rfl (Or.inr rfl) ⟨_, _, _, rfl, rfl, h⟩
/-! 6 X1_takeValue -/
theorem S6 {e : En} {I : HI} {D : HD} {Q : Int → HI → HD → Prop} {A : Nat} {x1 : Int} (he : HS e) (hA : isA A)
    (h : CI 53 [vR (some 1), vI x1] e I D (fun z1 I2 D3 => ((¬ z1 = 9 → ((¬ z1 = 11 → RI 6 32 [vR (some (A + 18)), vI x1, vI z1, vJ, vJ, vJ, vJ, vJ, vJ] [vI 0] e I2 D3 Q) ∧ (¬ (¬ z1 = 11) → RI 6 32 [vR (some (A + 18)), vI x1, vI z1, vJ, vJ, vJ, vJ, vJ, vJ] [vI 12] e I2 D3 Q))) ∧ (¬ (¬ z1 = 9) → RI 6 32 [vR (some (A + 18)), vI x1, vI z1, vJ, vJ, vJ, vJ, vJ, vJ] [vI 10] e I2 D3 Q)))) :
    CI 6 [vR (some (A + 18)), vI x1] e I D Q := by
  refine Call_run (ls := [vR (some (A + 18)), vI x1, vJ, vJ, vJ, vJ, vJ, vJ, vJ]) rfl rfl ?_
  refine R_aload_n (pc' := 1) rfl rfl rfl ?_
  refine K_getR (pc' := 4) rfl rfl rfl (kA hA 18 2 ⟨rfl, rfl⟩) (gA1 he hA 18 ⟨⟨rfl, rfl⟩, rfl, rfl⟩) ?_
  refine R_iload_n (pc' := 5) rfl rfl rfl ?_
  refine KI_iv (as := [vI x1]) (rest := []) (pc' := 8) rfl rfl rfl rfl rfl (Nat.le_of_ble_eq_true rfl) rfl (CI_mono h ?_)
  intro z1 I2 D3 h
  refine R_istore_n (ls' := [vR (some (A + 18)), vI x1, vI z1, vJ, vJ, vJ, vJ, vJ, vJ]) (pc' := 9) rfl rfl rfl ?_
  refine R_iload_n (pc' := 10) rfl rfl rfl ?_
  refine R_bipush (pc' := 12) rfl rfl ?_
  refine R_icne (pc' := 15) rfl rfl (fun hc => ?_) (fun hc => ?_)
  · replace h := h.1 hc
    refine R_iload_n (pc' := 21) rfl rfl rfl ?_
    refine R_bipush (pc' := 23) rfl rfl ?_
    refine R_icne (pc' := 26) rfl rfl (fun hc => ?_) (fun hc => ?_)
    · replace h := h.1 hc
      refine R_iconst (pc' := 32) rfl rfl ?_
      exact h
    · replace h := h.2 hc
      refine R_bipush (pc' := 28) rfl rfl ?_
      refine R_goto rfl ?_
      exact h
  · replace h := h.2 hc
    refine R_bipush (pc' := 17) rfl rfl ?_
    refine R_goto rfl ?_
    exact h
theorem S6_32 {e : En} {I : HI} {D : HD} {Q : Int → HI → HD → Prop} {A : Nat} {x1 : Int} {x2 : Int} {y0 : Int} (he : HS e) (hA : isA A)
    (h : RI 6 42 [vR (some (A + 18)), vJ, vI x2, vI y0, vI 0, vI x1, vI 0, vJ, vJ] [] e I D Q) :
    RI 6 32 [vR (some (A + 18)), vI x1, vI x2, vJ, vJ, vJ, vJ, vJ, vJ] [vI y0] e I D Q := by
  show Run 6 32 [vR (some (A + 18)), vI x1, vI x2, vJ, vJ, vJ, vJ, vJ, vJ] [vI y0] (mk e I D) (pI e Q)
  refine R_istore_n (ls' := [vR (some (A + 18)), vI x1, vI x2, vI y0, vJ, vJ, vJ, vJ, vJ]) (pc' := 33) rfl rfl rfl ?_
  refine R_iconst (pc' := 34) rfl rfl ?_
  refine R_istore (ls' := [vR (some (A + 18)), vI x1, vI x2, vI y0, vI 0, vJ, vJ, vJ, vJ]) (pc' := 36) rfl rfl rfl ?_
  refine R_iload_n (pc' := 37) rfl rfl rfl ?_
  refine R_istore (ls' := [vR (some (A + 18)), vI x1, vI x2, vI y0, vI 0, vI x1, vJ, vJ, vJ]) (pc' := 39) rfl rfl rfl ?_
  refine R_iconst (pc' := 40) rfl rfl ?_
  refine R_istore (ls' := [vR (some (A + 18)), vI x1, vI x2, vI y0, vI 0, vI x1, vI 0, vJ, vJ]) (pc' := 42) rfl rfl rfl ?_
  exact R_forget (ls' := [vR (some (A + 18)), vJ, vI x2, vI y0, vI 0, vI x1, vI 0, vJ, vJ]) ⟨Or.inl rfl, Or.inr rfl, Or.inl rfl, Or.inl rfl, Or.inl rfl, Or.inl rfl, Or.inl rfl, Or.inl rfl, Or.inl rfl, trivial⟩ h
theorem S6_42 {e : En} {I : HI} {D : HD} {Q : Int → HI → HD → Prop} {A : Nat} {x2 : Int} {x3 : Int} {x4 : Int} {x5 : Int} {x6 : Int} (he : HS e) (hA : isA A)
    (h : (((3000 : Int) < x6 → Q x5 I D) ∧ (¬ ((3000 : Int) < x6) → CI 5 [vR (some (A + 18)), vI x5] e I D (fun z1 I2 D3 => ((¬ z1 = 0 → Q x5 I2 D3) ∧ (¬ (¬ z1 = 0) → CI 53 [vR (some 1), vI x5] e I2 D3 (fun z4 I5 D6 => CI 52 [vR (some 1), vI x5] e I5 D6 (fun z7 I8 D9 => ((¬ z4 = 4 → ((¬ z4 = x3 → ((¬ z4 = x2 → RI 6 146 [vR (some (A + 18)), vJ, vI x2, vI x3, vI x4, vJ, vI x6, vJ, vI z7] [] e I8 D9 Q) ∧ (¬ (¬ z4 = x2) → ((x3 = 0 → RI 6 146 [vR (some (A + 18)), vJ, vI x2, vI x3, vI x4, vJ, vI x6, vJ, vI z7] [] e I8 D9 Q) ∧ (¬ (x3 = 0) → (-2147483648 ≤ (x4 + 1) ∧ (x4 + 1) < 2147483648) ∧ RI 6 146 [vR (some (A + 18)), vJ, vI x2, vI x3, vI (x4 + 1), vJ, vI x6, vJ, vI z7] [] e I8 D9 Q))))) ∧ (¬ (¬ z4 = x3) → (-2147483648 ≤ (x4 + (-1)) ∧ (x4 + (-1)) < 2147483648) ∧ RI 6 146 [vR (some (A + 18)), vJ, vI x2, vI x3, vI (x4 + (-1)), vJ, vI x6, vJ, vI z7] [] e I8 D9 Q))) ∧ (¬ (¬ z4 = 4) → CI 56 [vR (some 1), vI x5] e I8 D9 (fun z12 I13 D14 => CI 54 [vR (some 1), vI x5] e I13 D14 (fun z15 I16 D17 => CV 11 [vR (some (A + 2)), vI z15, vI x5, vI z12] e I16 D17 (fun I19 D20 => RI 6 146 [vR (some (A + 18)), vJ, vI x2, vI x3, vI x4, vJ, vI x6, vJ, vI z12] [] e I19 D20 Q))))))))))))) :
    RI 6 42 [vR (some (A + 18)), vJ, vI x2, vI x3, vI x4, vI x5, vI x6, vJ, vJ] [] e I D Q := by
  show Run 6 42 [vR (some (A + 18)), vJ, vI x2, vI x3, vI x4, vI x5, vI x6, vJ, vJ] [] (mk e I D) (pI e Q)
  refine R_iload (pc' := 44) rfl rfl rfl ?_
  refine R_sipush (pc' := 47) rfl rfl ?_
  refine R_icgt (pc' := 50) rfl rfl (fun hc => ?_) (fun hc => ?_)
  · replace h := h.1 hc
    refine R_iload (pc' := 173) rfl rfl rfl ?_
    exact R_iret rfl rfl ⟨_, _, _, rfl, rfl, h⟩
  · replace h := h.2 hc
    refine R_aload_n (pc' := 51) rfl rfl rfl ?_
    refine R_iload (pc' := 53) rfl rfl rfl ?_
    refine KI_iv (as := [vI x5]) (rest := []) (pc' := 56) rfl rfl rfl (kA hA 18 2 ⟨rfl, rfl⟩) rfl (Nat.le_of_ble_eq_true rfl) rfl (CI_mono h ?_)
    intro z1 I2 D3 h
    refine R_ifne (pc' := 59) rfl rfl (fun hc => ?_) (fun hc => ?_)
    · replace h := h.1 hc
      refine R_iload (pc' := 173) rfl rfl rfl ?_
      exact R_iret rfl rfl ⟨_, _, _, rfl, rfl, h⟩
    · replace h := h.2 hc
      refine R_aload_n (pc' := 60) rfl rfl rfl ?_
      refine K_getR (pc' := 63) rfl rfl rfl (kA hA 18 2 ⟨rfl, rfl⟩) (gA1 he hA 18 ⟨⟨rfl, rfl⟩, rfl, rfl⟩) ?_
      refine R_iload (pc' := 65) rfl rfl rfl ?_
      refine KI_iv (as := [vI x5]) (rest := []) (pc' := 68) rfl rfl rfl rfl rfl (Nat.le_of_ble_eq_true rfl) rfl (CI_mono h ?_)
      intro z4 I5 D6 h
      refine R_istore (ls' := [vR (some (A + 18)), vJ, vI x2, vI x3, vI x4, vI x5, vI x6, vI z4, vJ]) (pc' := 70) rfl rfl rfl ?_
      refine R_aload_n (pc' := 71) rfl rfl rfl ?_
      refine K_getR (pc' := 74) rfl rfl rfl (kA hA 18 2 ⟨rfl, rfl⟩) (gA1 he hA 18 ⟨⟨rfl, rfl⟩, rfl, rfl⟩) ?_
      refine R_iload (pc' := 76) rfl rfl rfl ?_
      refine KI_iv (as := [vI x5]) (rest := []) (pc' := 79) rfl rfl rfl rfl rfl (Nat.le_of_ble_eq_true rfl) rfl (CI_mono h ?_)
      intro z7 I8 D9 h
      refine R_istore (ls' := [vR (some (A + 18)), vJ, vI x2, vI x3, vI x4, vI x5, vI x6, vI z4, vI z7]) (pc' := 81) rfl rfl rfl ?_
      refine R_iload (pc' := 83) rfl rfl rfl ?_
      refine R_iconst (pc' := 84) rfl rfl ?_
      refine R_icne (pc' := 87) rfl rfl (fun hc => ?_) (fun hc => ?_)
      · replace h := h.1 hc
        refine R_iload (pc' := 123) rfl rfl rfl ?_
        refine R_iload_n (pc' := 124) rfl rfl rfl ?_
        refine R_icne (pc' := 127) rfl rfl (fun hc => ?_) (fun hc => ?_)
        · replace h := h.1 hc
          refine R_iload (pc' := 135) rfl rfl rfl ?_
          refine R_iload_n (pc' := 136) rfl rfl rfl ?_
          refine R_icne (pc' := 139) rfl rfl (fun hc => ?_) (fun hc => ?_)
          · replace h := h.1 hc
            exact R_forget (ls' := [vR (some (A + 18)), vJ, vI x2, vI x3, vI x4, vJ, vI x6, vJ, vI z7]) ⟨Or.inl rfl, Or.inl rfl, Or.inl rfl, Or.inl rfl, Or.inl rfl, Or.inr rfl, Or.inl rfl, Or.inr rfl, Or.inl rfl, trivial⟩ h
          · replace h := h.2 hc
            refine R_iload_n (pc' := 140) rfl rfl rfl ?_
            refine R_ifeq (pc' := 143) rfl rfl (fun hc => ?_) (fun hc => ?_)
            · replace h := h.1 hc
              exact R_forget (ls' := [vR (some (A + 18)), vJ, vI x2, vI x3, vI x4, vJ, vI x6, vJ, vI z7]) ⟨Or.inl rfl, Or.inl rfl, Or.inl rfl, Or.inl rfl, Or.inl rfl, Or.inr rfl, Or.inl rfl, Or.inr rfl, Or.inl rfl, trivial⟩ h
            · replace h := h.2 hc
              have g10 := h.1
              replace h := h.2
              refine R_iinc (ls' := [vR (some (A + 18)), vJ, vI x2, vI x3, vI (x4 + 1), vI x5, vI x6, vI z4, vI z7]) (pc' := 146) rfl rfl rfl g10 rfl ?_
              exact R_forget (ls' := [vR (some (A + 18)), vJ, vI x2, vI x3, vI (x4 + 1), vJ, vI x6, vJ, vI z7]) ⟨Or.inl rfl, Or.inl rfl, Or.inl rfl, Or.inl rfl, Or.inl rfl, Or.inr rfl, Or.inl rfl, Or.inr rfl, Or.inl rfl, trivial⟩ h
        · replace h := h.2 hc
          have g11 := h.1
          replace h := h.2
          refine R_iinc (ls' := [vR (some (A + 18)), vJ, vI x2, vI x3, vI (x4 + (-1)), vI x5, vI x6, vI z4, vI z7]) (pc' := 130) rfl rfl rfl g11 rfl ?_
          refine R_goto rfl ?_
          exact R_forget (ls' := [vR (some (A + 18)), vJ, vI x2, vI x3, vI (x4 + (-1)), vJ, vI x6, vJ, vI z7]) ⟨Or.inl rfl, Or.inl rfl, Or.inl rfl, Or.inl rfl, Or.inl rfl, Or.inr rfl, Or.inl rfl, Or.inr rfl, Or.inl rfl, trivial⟩ h
      · replace h := h.2 hc
        refine R_aload_n (pc' := 88) rfl rfl rfl ?_
        refine K_getR (pc' := 91) rfl rfl rfl (kA hA 18 2 ⟨rfl, rfl⟩) (gA1 he hA 18 ⟨⟨rfl, rfl⟩, rfl, rfl⟩) ?_
        refine R_iload (pc' := 93) rfl rfl rfl ?_
        refine KI_iv (as := [vI x5]) (rest := []) (pc' := 96) rfl rfl rfl rfl rfl (Nat.le_of_ble_eq_true rfl) rfl (CI_mono h ?_)
        intro z12 I13 D14 h
        refine R_istore (ls' := [vR (some (A + 18)), vJ, vI x2, vI x3, vI x4, vI x5, vI x6, vI z4, vI z12]) (pc' := 98) rfl rfl rfl ?_
        refine R_aload_n (pc' := 99) rfl rfl rfl ?_
        refine K_getR (pc' := 102) rfl rfl rfl (kA hA 18 2 ⟨rfl, rfl⟩) (gA he hA 18 1 2 ⟨⟨rfl, rfl⟩, rfl, rfl⟩) ?_
        refine R_aload_n (pc' := 103) rfl rfl rfl ?_
        refine K_getR (pc' := 106) rfl rfl rfl (kA hA 18 2 ⟨rfl, rfl⟩) (gA1 he hA 18 ⟨⟨rfl, rfl⟩, rfl, rfl⟩) ?_
        refine R_iload (pc' := 108) rfl rfl rfl ?_
        refine KI_iv (as := [vI x5]) (rest := [vR (some (A + 2))]) (pc' := 111) rfl rfl rfl rfl rfl (Nat.le_of_ble_eq_true rfl) rfl (CI_mono h ?_)
        intro z15 I16 D17 h
        refine R_iload (pc' := 113) rfl rfl rfl ?_
        refine R_iload (pc' := 115) rfl rfl rfl ?_
        refine KV_iv (as := [vI z15, vI x5, vI z12]) (rest := []) (pc' := 118) rfl rfl rfl (kA hA 2 4 ⟨rfl, rfl⟩) rfl (Nat.le_of_ble_eq_true rfl) rfl (CV_mono h ?_)
        intro I19 D20 h
        refine R_goto rfl ?_
        exact R_forget (ls' := [vR (some (A + 18)), vJ, vI x2, vI x3, vI x4, vJ, vI x6, vJ, vI z12]) ⟨Or.inl rfl, Or.inl rfl, Or.inl rfl, Or.inl rfl, Or.inl rfl, Or.inr rfl, Or.inl rfl, Or.inr rfl, Or.inl rfl, trivial⟩ h
theorem S6_146 {e : En} {I : HI} {D : HD} {Q : Int → HI → HD → Prop} {A : Nat} {x2 : Int} {x3 : Int} {x4 : Int} {x6 : Int} {x8 : Int} (he : HS e) (hA : isA A)
    (h : ((¬ x4 = 0 → CI 51 [vR (some 1), vI x8] e I D (fun z1 I2 D3 => (-2147483648 ≤ (x6 + 1) ∧ (x6 + 1) < 2147483648) ∧ RI 6 42 [vR (some (A + 18)), vJ, vI x2, vI x3, vI x4, vI z1, vI (x6 + 1), vJ, vJ] [] e I2 D3 Q)) ∧ (¬ (¬ x4 = 0) → Q x8 I D))) :
    RI 6 146 [vR (some (A + 18)), vJ, vI x2, vI x3, vI x4, vJ, vI x6, vJ, vI x8] [] e I D Q := by
  show Run 6 146 [vR (some (A + 18)), vJ, vI x2, vI x3, vI x4, vJ, vI x6, vJ, vI x8] [] (mk e I D) (pI e Q)
  refine R_iload (pc' := 148) rfl rfl rfl ?_
  refine R_ifne (pc' := 151) rfl rfl (fun hc => ?_) (fun hc => ?_)
  · replace h := h.1 hc
    refine R_aload_n (pc' := 155) rfl rfl rfl ?_
    refine K_getR (pc' := 158) rfl rfl rfl (kA hA 18 2 ⟨rfl, rfl⟩) (gA1 he hA 18 ⟨⟨rfl, rfl⟩, rfl, rfl⟩) ?_
    refine R_iload (pc' := 160) rfl rfl rfl ?_
    refine KI_iv (as := [vI x8]) (rest := []) (pc' := 163) rfl rfl rfl rfl rfl (Nat.le_of_ble_eq_true rfl) rfl (CI_mono h ?_)
    intro z1 I2 D3 h
    refine R_istore (ls' := [vR (some (A + 18)), vJ, vI x2, vI x3, vI x4, vI z1, vI x6, vJ, vI x8]) (pc' := 165) rfl rfl rfl ?_
    have g4 := h.1
    replace h := h.2
    refine R_iinc (ls' := [vR (some (A + 18)), vJ, vI x2, vI x3, vI x4, vI z1, vI (x6 + 1), vJ, vI x8]) (pc' := 168) rfl rfl rfl g4 rfl ?_
    refine R_goto rfl ?_
    exact R_forget (ls' := [vR (some (A + 18)), vJ, vI x2, vI x3, vI x4, vI z1, vI (x6 + 1), vJ, vJ]) ⟨Or.inl rfl, Or.inl rfl, Or.inl rfl, Or.inl rfl, Or.inl rfl, Or.inl rfl, Or.inl rfl, Or.inl rfl, Or.inr rfl, trivial⟩ h
  · replace h := h.2 hc
    refine R_iload (pc' := 153) rfl rfl rfl ?_
    exact R_iret rfl rfl ⟨_, _, _, rfl, rfl, h⟩
/-! 7 X1_keepPair -/
theorem S7 {e : En} {I : HI} {D : HD} {Q : HI → HD → Prop} {A : Nat} {x1 : Int} {x2 : Int} {x3 : Int} {x4 : Int} (he : HS e) (hA : isA A)
    (h : CI 53 [vR (some 1), vI x2] e I D (fun z1 I2 D3 => ((¬ z1 = 4 → RV 7 17 [vR (some (A + 18)), vI x1, vI x2, vI x3, vI x4, vJ, vJ, vJ, vJ, vJ] [vI 0] e I2 D3 Q) ∧ (¬ (¬ z1 = 4) → RV 7 17 [vR (some (A + 18)), vI x1, vI x2, vI x3, vI x4, vJ, vJ, vJ, vJ, vJ] [vI 1] e I2 D3 Q)))) :
    CV 7 [vR (some (A + 18)), vI x1, vI x2, vI x3, vI x4] e I D Q := by
  refine Call_run (ls := [vR (some (A + 18)), vI x1, vI x2, vI x3, vI x4, vJ, vJ, vJ, vJ, vJ]) rfl rfl ?_
  refine R_aload_n (pc' := 1) rfl rfl rfl ?_
  refine K_getR (pc' := 4) rfl rfl rfl (kA hA 18 2 ⟨rfl, rfl⟩) (gA1 he hA 18 ⟨⟨rfl, rfl⟩, rfl, rfl⟩) ?_
  refine R_iload_n (pc' := 5) rfl rfl rfl ?_
  refine KI_iv (as := [vI x2]) (rest := []) (pc' := 8) rfl rfl rfl rfl rfl (Nat.le_of_ble_eq_true rfl) rfl (CI_mono h ?_)
  intro z1 I2 D3 h
  refine R_iconst (pc' := 9) rfl rfl ?_
  refine R_icne (pc' := 12) rfl rfl (fun hc => ?_) (fun hc => ?_)
  · replace h := h.1 hc
    refine R_iconst (pc' := 17) rfl rfl ?_
    exact h
  · replace h := h.2 hc
    refine R_iconst (pc' := 13) rfl rfl ?_
    refine R_goto rfl ?_
    exact h
theorem S7_17 {e : En} {I : HI} {D : HD} {Q : HI → HD → Prop} {A : Nat} {x1 : Int} {x2 : Int} {x3 : Int} {x4 : Int} {y0 : Int} (he : HS e) (hA : isA A)
    (h : CI 54 [vR (some 1), vI x2] e I D (fun z1 I2 D3 => CI 57 [vR (some 1), vI x1, vS 15] e I2 D3 (fun z4 I5 D6 => ((z4 = 0 → CI 57 [vR (some 1), vI x1, vS 17] e I5 D6 (fun z7 I8 D9 => ((z7 = 0 → CI 57 [vR (some 1), vI x1, vS 19] e I8 D9 (fun z10 I11 D12 => ((z10 = 0 → CI 57 [vR (some 1), vI x1, vS 20] e I11 D12 (fun z13 I14 D15 => ((z13 = 0 → CI 57 [vR (some 1), vI x1, vS 21] e I14 D15 (fun z16 I17 D18 => ((z16 = 0 → CI 57 [vR (some 1), vI x1, vS 22] e I17 D18 (fun z19 I20 D21 => ((z19 = 0 → Q I20 D21) ∧ (¬ (z19 = 0) → ((y0 = 0 → (K0 (D21 (A + 18) 3) = 1) ∧ Q (uI I20 (D21 (A + 18) 3) 7 z1) D21) ∧ (¬ (y0 = 0) → (K0 (D21 (A + 18) 3) = 1) ∧ Q (uI I20 (D21 (A + 18) 3) 7 (-1)) D21)))))) ∧ (¬ (z16 = 0) → ((y0 = 0 → RV 7 261 [vJ, vJ, vJ, vJ, vJ, vJ, vJ, vJ, vJ, vJ] [vI 0, vR (some (D18 (A + 18) 3))] e I17 D18 Q) ∧ (¬ (y0 = 0) → RV 7 261 [vJ, vJ, vJ, vJ, vJ, vJ, vJ, vJ, vJ, vJ] [vI z1, vR (some (D18 (A + 18) 3))] e I17 D18 Q)))))) ∧ (¬ (z13 = 0) → ((y0 = 0 → RV 7 217 [vR (some (A + 18)), vI x1, vJ, vI x3, vJ, vJ, vJ, vJ, vJ, vJ] [vI z1, vR (some (D15 (A + 18) 3))] e I14 D15 Q) ∧ (¬ (y0 = 0) → RV 7 217 [vR (some (A + 18)), vI x1, vJ, vI x3, vJ, vJ, vJ, vJ, vJ, vJ] [vI (-1), vR (some (D15 (A + 18) 3))] e I14 D15 Q)))))) ∧ (¬ (z10 = 0) → (K0 (D12 (A + 18) 3) = 1) ∧ Q (uI (uI I11 (D12 (A + 18) 3) 8 x4) (D12 (A + 18) 3) 9 ((uI I11 (D12 (A + 18) 3) 8 x4) (A + 2) 3)) D12)))) ∧ (¬ (z7 = 0) → ((y0 = 0 → RV 7 144 [vJ, vJ, vJ, vJ, vJ, vJ, vJ, vJ, vJ, vJ] [vI 0, vR (some (D9 (A + 18) 3))] e I8 D9 Q) ∧ (¬ (y0 = 0) → RV 7 144 [vJ, vJ, vJ, vJ, vJ, vJ, vJ, vJ, vJ, vJ] [vI z1, vR (some (D9 (A + 18) 3))] e I8 D9 Q)))))) ∧ (¬ (z4 = 0) → CI 57 [vR (some 1), vI x2, vS 16] e I5 D6 (fun z25 I26 D27 => CI 57 [vR (some 1), vI x2, vS 17] e I26 D27 (fun z28 I29 D30 => CI 57 [vR (some 1), vI x2, vS 18] e I29 D30 (fun z31 I32 D33 => ((z25 = 0 → ((z28 = 0 → ((z31 = 0 → RV 7 110 [vJ, vJ, vJ, vJ, vJ, vJ, vJ, vJ, vJ, vJ] [vI 0, vR (some (D33 (A + 18) 3))] e I32 D33 Q) ∧ (¬ (z31 = 0) → RV 7 110 [vJ, vJ, vJ, vJ, vJ, vJ, vJ, vJ, vJ, vJ] [vI 3, vR (some (D33 (A + 18) 3))] e I32 D33 Q))) ∧ (¬ (z28 = 0) → RV 7 110 [vJ, vJ, vJ, vJ, vJ, vJ, vJ, vJ, vJ, vJ] [vI 2, vR (some (D33 (A + 18) 3))] e I32 D33 Q))) ∧ (¬ (z25 = 0) → RV 7 110 [vJ, vJ, vJ, vJ, vJ, vJ, vJ, vJ, vJ, vJ] [vI 1, vR (some (D33 (A + 18) 3))] e I32 D33 Q)))))))))) :
    RV 7 17 [vR (some (A + 18)), vI x1, vI x2, vI x3, vI x4, vJ, vJ, vJ, vJ, vJ] [vI y0] e I D Q := by
  show Run 7 17 [vR (some (A + 18)), vI x1, vI x2, vI x3, vI x4, vJ, vJ, vJ, vJ, vJ] [vI y0] (mk e I D) (pV e Q)
  refine R_istore (ls' := [vR (some (A + 18)), vI x1, vI x2, vI x3, vI x4, vI y0, vJ, vJ, vJ, vJ]) (pc' := 19) rfl rfl rfl ?_
  refine R_aload_n (pc' := 20) rfl rfl rfl ?_
  refine K_getR (pc' := 23) rfl rfl rfl (kA hA 18 2 ⟨rfl, rfl⟩) (gA1 he hA 18 ⟨⟨rfl, rfl⟩, rfl, rfl⟩) ?_
  refine R_iload_n (pc' := 24) rfl rfl rfl ?_
  refine KI_iv (as := [vI x2]) (rest := []) (pc' := 27) rfl rfl rfl rfl rfl (Nat.le_of_ble_eq_true rfl) rfl (CI_mono h ?_)
  intro z1 I2 D3 h
  refine R_istore (ls' := [vR (some (A + 18)), vI x1, vI x2, vI x3, vI x4, vI y0, vI z1, vJ, vJ, vJ]) (pc' := 29) rfl rfl rfl ?_
  refine R_aload_n (pc' := 30) rfl rfl rfl ?_
  refine K_getR (pc' := 33) rfl rfl rfl (kA hA 18 2 ⟨rfl, rfl⟩) (gA1 he hA 18 ⟨⟨rfl, rfl⟩, rfl, rfl⟩) ?_
  refine R_iload_n (pc' := 34) rfl rfl rfl ?_
  refine R_ldcS (pc' := 36) rfl rfl ?_
  refine KI_iv (as := [vI x1, vS 15]) (rest := []) (pc' := 39) rfl rfl rfl rfl rfl (Nat.le_of_ble_eq_true rfl) rfl (CI_mono h ?_)
  intro z4 I5 D6 h
  refine R_ifeq (pc' := 42) rfl rfl (fun hc => ?_) (fun hc => ?_)
  · replace h := h.1 hc
    refine R_aload_n (pc' := 117) rfl rfl rfl ?_
    refine K_getR (pc' := 120) rfl rfl rfl (kA hA 18 2 ⟨rfl, rfl⟩) (gA1 he hA 18 ⟨⟨rfl, rfl⟩, rfl, rfl⟩) ?_
    refine R_iload_n (pc' := 121) rfl rfl rfl ?_
    refine R_ldcS (pc' := 123) rfl rfl ?_
    refine KI_iv (as := [vI x1, vS 17]) (rest := []) (pc' := 126) rfl rfl rfl rfl rfl (Nat.le_of_ble_eq_true rfl) rfl (CI_mono h ?_)
    intro z7 I8 D9 h
    refine R_ifeq (pc' := 129) rfl rfl (fun hc => ?_) (fun hc => ?_)
    · replace h := h.1 hc
      refine R_aload_n (pc' := 151) rfl rfl rfl ?_
      refine K_getR (pc' := 154) rfl rfl rfl (kA hA 18 2 ⟨rfl, rfl⟩) (gA1 he hA 18 ⟨⟨rfl, rfl⟩, rfl, rfl⟩) ?_
      refine R_iload_n (pc' := 155) rfl rfl rfl ?_
      refine R_ldcS (pc' := 157) rfl rfl ?_
      refine KI_iv (as := [vI x1, vS 19]) (rest := []) (pc' := 160) rfl rfl rfl rfl rfl (Nat.le_of_ble_eq_true rfl) rfl (CI_mono h ?_)
      intro z10 I11 D12 h
      refine R_ifeq (pc' := 163) rfl rfl (fun hc => ?_) (fun hc => ?_)
      · replace h := h.1 hc
        refine R_aload_n (pc' := 190) rfl rfl rfl ?_
        refine K_getR (pc' := 193) rfl rfl rfl (kA hA 18 2 ⟨rfl, rfl⟩) (gA1 he hA 18 ⟨⟨rfl, rfl⟩, rfl, rfl⟩) ?_
        refine R_iload_n (pc' := 194) rfl rfl rfl ?_
        refine R_ldcS (pc' := 196) rfl rfl ?_
        refine KI_iv (as := [vI x1, vS 20]) (rest := []) (pc' := 199) rfl rfl rfl rfl rfl (Nat.le_of_ble_eq_true rfl) rfl (CI_mono h ?_)
        intro z13 I14 D15 h
        refine R_ifeq (pc' := 202) rfl rfl (fun hc => ?_) (fun hc => ?_)
        · replace h := h.1 hc
          refine R_aload_n (pc' := 234) rfl rfl rfl ?_
          refine K_getR (pc' := 237) rfl rfl rfl (kA hA 18 2 ⟨rfl, rfl⟩) (gA1 he hA 18 ⟨⟨rfl, rfl⟩, rfl, rfl⟩) ?_
          refine R_iload_n (pc' := 238) rfl rfl rfl ?_
          refine R_ldcS (pc' := 240) rfl rfl ?_
          refine KI_iv (as := [vI x1, vS 21]) (rest := []) (pc' := 243) rfl rfl rfl rfl rfl (Nat.le_of_ble_eq_true rfl) rfl (CI_mono h ?_)
          intro z16 I17 D18 h
          refine R_ifeq (pc' := 246) rfl rfl (fun hc => ?_) (fun hc => ?_)
          · replace h := h.1 hc
            refine R_aload_n (pc' := 268) rfl rfl rfl ?_
            refine K_getR (pc' := 271) rfl rfl rfl (kA hA 18 2 ⟨rfl, rfl⟩) (gA1 he hA 18 ⟨⟨rfl, rfl⟩, rfl, rfl⟩) ?_
            refine R_iload_n (pc' := 272) rfl rfl rfl ?_
            refine R_ldcS (pc' := 274) rfl rfl ?_
            refine KI_iv (as := [vI x1, vS 22]) (rest := []) (pc' := 277) rfl rfl rfl rfl rfl (Nat.le_of_ble_eq_true rfl) rfl (CI_mono h ?_)
            intro z19 I20 D21 h
            refine R_ifeq (pc' := 280) rfl rfl (fun hc => ?_) (fun hc => ?_)
            · replace h := h.1 hc
              exact R_vret rfl rfl ⟨_, _, rfl, rfl, h⟩
            · replace h := h.2 hc
              refine R_aload_n (pc' := 281) rfl rfl rfl ?_
              refine K_getR (pc' := 284) rfl rfl rfl (kA hA 18 2 ⟨rfl, rfl⟩) (dy_at (dA hA 18 3 ⟨rfl, rfl⟩)) ?_
              refine R_iload (pc' := 286) rfl rfl rfl ?_
              refine R_ifeq (pc' := 289) rfl rfl (fun hc => ?_) (fun hc => ?_)
              · replace h := h.1 hc
                refine R_iload (pc' := 295) rfl rfl rfl ?_
                have g22 := h.1
                replace h := h.2
                refine K_putIN (pc' := 298) rfl rfl (by decide) (fun h => absurd h (by decide)) g22 ?_
                exact R_vret rfl rfl ⟨_, _, rfl, rfl, h⟩
              · replace h := h.2 hc
                refine R_iconst (pc' := 290) rfl rfl ?_
                refine R_goto rfl ?_
                have g23 := h.1
                replace h := h.2
                refine K_putIN (pc' := 298) rfl rfl (by decide) (fun h => absurd h (by decide)) g23 ?_
                exact R_vret rfl rfl ⟨_, _, rfl, rfl, h⟩
          · replace h := h.2 hc
            refine R_aload_n (pc' := 247) rfl rfl rfl ?_
            refine K_getR (pc' := 250) rfl rfl rfl (kA hA 18 2 ⟨rfl, rfl⟩) (dy_at (dA hA 18 3 ⟨rfl, rfl⟩)) ?_
            refine R_iload (pc' := 252) rfl rfl rfl ?_
            refine R_ifeq (pc' := 255) rfl rfl (fun hc => ?_) (fun hc => ?_)
            · replace h := h.1 hc
              refine R_iconst (pc' := 261) rfl rfl ?_
              exact R_forget (ls' := [vJ, vJ, vJ, vJ, vJ, vJ, vJ, vJ, vJ, vJ]) ⟨Or.inr rfl, Or.inr rfl, Or.inr rfl, Or.inr rfl, Or.inr rfl, Or.inr rfl, Or.inr rfl, Or.inl rfl, Or.inl rfl, Or.inl rfl, trivial⟩ h
            · replace h := h.2 hc
              refine R_iload (pc' := 257) rfl rfl rfl ?_
              refine R_goto rfl ?_
              exact R_forget (ls' := [vJ, vJ, vJ, vJ, vJ, vJ, vJ, vJ, vJ, vJ]) ⟨Or.inr rfl, Or.inr rfl, Or.inr rfl, Or.inr rfl, Or.inr rfl, Or.inr rfl, Or.inr rfl, Or.inl rfl, Or.inl rfl, Or.inl rfl, trivial⟩ h
        · replace h := h.2 hc
          refine R_aload_n (pc' := 203) rfl rfl rfl ?_
          refine K_getR (pc' := 206) rfl rfl rfl (kA hA 18 2 ⟨rfl, rfl⟩) (dy_at (dA hA 18 3 ⟨rfl, rfl⟩)) ?_
          refine R_iload (pc' := 208) rfl rfl rfl ?_
          refine R_ifeq (pc' := 211) rfl rfl (fun hc => ?_) (fun hc => ?_)
          · replace h := h.1 hc
            refine R_iload (pc' := 217) rfl rfl rfl ?_
            exact R_forget (ls' := [vR (some (A + 18)), vI x1, vJ, vI x3, vJ, vJ, vJ, vJ, vJ, vJ]) ⟨Or.inl rfl, Or.inl rfl, Or.inr rfl, Or.inl rfl, Or.inr rfl, Or.inr rfl, Or.inr rfl, Or.inl rfl, Or.inl rfl, Or.inl rfl, trivial⟩ h
          · replace h := h.2 hc
            refine R_iconst (pc' := 212) rfl rfl ?_
            refine R_goto rfl ?_
            exact R_forget (ls' := [vR (some (A + 18)), vI x1, vJ, vI x3, vJ, vJ, vJ, vJ, vJ, vJ]) ⟨Or.inl rfl, Or.inl rfl, Or.inr rfl, Or.inl rfl, Or.inr rfl, Or.inr rfl, Or.inr rfl, Or.inl rfl, Or.inl rfl, Or.inl rfl, trivial⟩ h
      · replace h := h.2 hc
        refine R_aload_n (pc' := 164) rfl rfl rfl ?_
        refine K_getR (pc' := 167) rfl rfl rfl (kA hA 18 2 ⟨rfl, rfl⟩) (dy_at (dA hA 18 3 ⟨rfl, rfl⟩)) ?_
        refine R_iload (pc' := 169) rfl rfl rfl ?_
        have g24 := h.1
        replace h := h.2
        refine K_putIN (pc' := 172) rfl rfl (by decide) (fun h => absurd h (by decide)) g24 ?_
        refine R_aload_n (pc' := 173) rfl rfl rfl ?_
        refine K_getR (pc' := 176) rfl rfl rfl (kA hA 18 2 ⟨rfl, rfl⟩) (dy_at (dA hA 18 3 ⟨rfl, rfl⟩)) ?_
        refine R_aload_n (pc' := 177) rfl rfl rfl ?_
        refine K_getR (pc' := 180) rfl rfl rfl (kA hA 18 2 ⟨rfl, rfl⟩) (gA he hA 18 1 2 ⟨⟨rfl, rfl⟩, rfl, rfl⟩) ?_
        refine K_getIN (pc' := 183) rfl rfl (by decide) (kA hA 2 4 ⟨rfl, rfl⟩) rfl ?_
        refine K_putIN (pc' := 186) rfl rfl (by decide) (fun h => absurd h (by decide)) g24 ?_
        refine R_goto rfl ?_
        exact R_vret rfl rfl ⟨_, _, rfl, rfl, h⟩
    · replace h := h.2 hc
      refine R_aload_n (pc' := 130) rfl rfl rfl ?_
      refine K_getR (pc' := 133) rfl rfl rfl (kA hA 18 2 ⟨rfl, rfl⟩) (dy_at (dA hA 18 3 ⟨rfl, rfl⟩)) ?_
      refine R_iload (pc' := 135) rfl rfl rfl ?_
      refine R_ifeq (pc' := 138) rfl rfl (fun hc => ?_) (fun hc => ?_)
      · replace h := h.1 hc
        refine R_iconst (pc' := 144) rfl rfl ?_
        exact R_forget (ls' := [vJ, vJ, vJ, vJ, vJ, vJ, vJ, vJ, vJ, vJ]) ⟨Or.inr rfl, Or.inr rfl, Or.inr rfl, Or.inr rfl, Or.inr rfl, Or.inr rfl, Or.inr rfl, Or.inl rfl, Or.inl rfl, Or.inl rfl, trivial⟩ h
      · replace h := h.2 hc
        refine R_iload (pc' := 140) rfl rfl rfl ?_
        refine R_goto rfl ?_
        exact R_forget (ls' := [vJ, vJ, vJ, vJ, vJ, vJ, vJ, vJ, vJ, vJ]) ⟨Or.inr rfl, Or.inr rfl, Or.inr rfl, Or.inr rfl, Or.inr rfl, Or.inr rfl, Or.inr rfl, Or.inl rfl, Or.inl rfl, Or.inl rfl, trivial⟩ h
  · replace h := h.2 hc
    refine R_aload_n (pc' := 43) rfl rfl rfl ?_
    refine K_getR (pc' := 46) rfl rfl rfl (kA hA 18 2 ⟨rfl, rfl⟩) (gA1 he hA 18 ⟨⟨rfl, rfl⟩, rfl, rfl⟩) ?_
    refine R_iload_n (pc' := 47) rfl rfl rfl ?_
    refine R_ldcS (pc' := 49) rfl rfl ?_
    refine KI_iv (as := [vI x2, vS 16]) (rest := []) (pc' := 52) rfl rfl rfl rfl rfl (Nat.le_of_ble_eq_true rfl) rfl (CI_mono h ?_)
    intro z25 I26 D27 h
    refine R_istore (ls' := [vR (some (A + 18)), vI x1, vI x2, vI x3, vI x4, vI y0, vI z1, vI z25, vJ, vJ]) (pc' := 54) rfl rfl rfl ?_
    refine R_aload_n (pc' := 55) rfl rfl rfl ?_
    refine K_getR (pc' := 58) rfl rfl rfl (kA hA 18 2 ⟨rfl, rfl⟩) (gA1 he hA 18 ⟨⟨rfl, rfl⟩, rfl, rfl⟩) ?_
    refine R_iload_n (pc' := 59) rfl rfl rfl ?_
    refine R_ldcS (pc' := 61) rfl rfl ?_
    refine KI_iv (as := [vI x2, vS 17]) (rest := []) (pc' := 64) rfl rfl rfl rfl rfl (Nat.le_of_ble_eq_true rfl) rfl (CI_mono h ?_)
    intro z28 I29 D30 h
    refine R_istore (ls' := [vR (some (A + 18)), vI x1, vI x2, vI x3, vI x4, vI y0, vI z1, vI z25, vI z28, vJ]) (pc' := 66) rfl rfl rfl ?_
    refine R_aload_n (pc' := 67) rfl rfl rfl ?_
    refine K_getR (pc' := 70) rfl rfl rfl (kA hA 18 2 ⟨rfl, rfl⟩) (gA1 he hA 18 ⟨⟨rfl, rfl⟩, rfl, rfl⟩) ?_
    refine R_iload_n (pc' := 71) rfl rfl rfl ?_
    refine R_ldcS (pc' := 73) rfl rfl ?_
    refine KI_iv (as := [vI x2, vS 18]) (rest := []) (pc' := 76) rfl rfl rfl rfl rfl (Nat.le_of_ble_eq_true rfl) rfl (CI_mono h ?_)
    intro z31 I32 D33 h
    refine R_istore (ls' := [vR (some (A + 18)), vI x1, vI x2, vI x3, vI x4, vI y0, vI z1, vI z25, vI z28, vI z31]) (pc' := 78) rfl rfl rfl ?_
    refine R_aload_n (pc' := 79) rfl rfl rfl ?_
    refine K_getR (pc' := 82) rfl rfl rfl (kA hA 18 2 ⟨rfl, rfl⟩) (dy_at (dA hA 18 3 ⟨rfl, rfl⟩)) ?_
    refine R_iload (pc' := 84) rfl rfl rfl ?_
    refine R_ifeq (pc' := 87) rfl rfl (fun hc => ?_) (fun hc => ?_)
    · replace h := h.1 hc
      refine R_iload (pc' := 93) rfl rfl rfl ?_
      refine R_ifeq (pc' := 96) rfl rfl (fun hc => ?_) (fun hc => ?_)
      · replace h := h.1 hc
        refine R_iload (pc' := 102) rfl rfl rfl ?_
        refine R_ifeq (pc' := 105) rfl rfl (fun hc => ?_) (fun hc => ?_)
        · replace h := h.1 hc
          refine R_iconst (pc' := 110) rfl rfl ?_
          exact R_forget (ls' := [vJ, vJ, vJ, vJ, vJ, vJ, vJ, vJ, vJ, vJ]) ⟨Or.inr rfl, Or.inr rfl, Or.inr rfl, Or.inr rfl, Or.inr rfl, Or.inr rfl, Or.inr rfl, Or.inr rfl, Or.inr rfl, Or.inr rfl, trivial⟩ h
        · replace h := h.2 hc
          refine R_iconst (pc' := 106) rfl rfl ?_
          refine R_goto rfl ?_
          exact R_forget (ls' := [vJ, vJ, vJ, vJ, vJ, vJ, vJ, vJ, vJ, vJ]) ⟨Or.inr rfl, Or.inr rfl, Or.inr rfl, Or.inr rfl, Or.inr rfl, Or.inr rfl, Or.inr rfl, Or.inr rfl, Or.inr rfl, Or.inr rfl, trivial⟩ h
      · replace h := h.2 hc
        refine R_iconst (pc' := 97) rfl rfl ?_
        refine R_goto rfl ?_
        exact R_forget (ls' := [vJ, vJ, vJ, vJ, vJ, vJ, vJ, vJ, vJ, vJ]) ⟨Or.inr rfl, Or.inr rfl, Or.inr rfl, Or.inr rfl, Or.inr rfl, Or.inr rfl, Or.inr rfl, Or.inr rfl, Or.inr rfl, Or.inr rfl, trivial⟩ h
    · replace h := h.2 hc
      refine R_iconst (pc' := 88) rfl rfl ?_
      refine R_goto rfl ?_
      exact R_forget (ls' := [vJ, vJ, vJ, vJ, vJ, vJ, vJ, vJ, vJ, vJ]) ⟨Or.inr rfl, Or.inr rfl, Or.inr rfl, Or.inr rfl, Or.inr rfl, Or.inr rfl, Or.inr rfl, Or.inr rfl, Or.inr rfl, Or.inr rfl, trivial⟩ h
theorem S7_110 {e : En} {I : HI} {D : HD} {Q : HI → HD → Prop} {p0 : Nat} {y1 : Int} (he : HS e) (hp0 : K0 p0 = 1)
    (h : Q (uI I p0 3 y1) D) :
    RV 7 110 [vJ, vJ, vJ, vJ, vJ, vJ, vJ, vJ, vJ, vJ] [vI y1, vR (some p0)] e I D Q := by
  show Run 7 110 [vJ, vJ, vJ, vJ, vJ, vJ, vJ, vJ, vJ, vJ] [vI y1, vR (some p0)] (mk e I D) (pV e Q)
  refine K_putIN (pc' := 113) rfl rfl (by decide) (fun h => absurd h (by decide)) hp0 ?_
  refine R_goto rfl ?_
  exact R_vret rfl rfl ⟨_, _, rfl, rfl, h⟩
theorem S7_144 {e : En} {I : HI} {D : HD} {Q : HI → HD → Prop} {p0 : Nat} {y1 : Int} (he : HS e) (hp0 : K0 p0 = 1)
    (h : Q (uI I p0 4 y1) D) :
    RV 7 144 [vJ, vJ, vJ, vJ, vJ, vJ, vJ, vJ, vJ, vJ] [vI y1, vR (some p0)] e I D Q := by
  show Run 7 144 [vJ, vJ, vJ, vJ, vJ, vJ, vJ, vJ, vJ, vJ] [vI y1, vR (some p0)] (mk e I D) (pV e Q)
  refine K_putIN (pc' := 147) rfl rfl (by decide) (fun h => absurd h (by decide)) hp0 ?_
  refine R_goto rfl ?_
  exact R_vret rfl rfl ⟨_, _, rfl, rfl, h⟩
theorem S7_217 {e : En} {I : HI} {D : HD} {Q : HI → HD → Prop} {A : Nat} {x1 : Int} {x3 : Int} {p0 : Nat} {y1 : Int} (he : HS e) (hA : isA A) (hp0 : K0 p0 = 1)
    (h : CV 11 [vR (some (A + 6)), vI 0, vI x1, vI x3] e (uI I p0 5 y1) D (fun I2 D3 => Q I2 D3)) :
    RV 7 217 [vR (some (A + 18)), vI x1, vJ, vI x3, vJ, vJ, vJ, vJ, vJ, vJ] [vI y1, vR (some p0)] e I D Q := by
  show Run 7 217 [vR (some (A + 18)), vI x1, vJ, vI x3, vJ, vJ, vJ, vJ, vJ, vJ] [vI y1, vR (some p0)] (mk e I D) (pV e Q)
  refine K_putIN (pc' := 220) rfl rfl (by decide) (fun h => absurd h (by decide)) hp0 ?_
  refine R_aload_n (pc' := 221) rfl rfl rfl ?_
  refine K_getR (pc' := 224) rfl rfl rfl (kA hA 18 2 ⟨rfl, rfl⟩) (gA he hA 18 2 6 ⟨⟨rfl, rfl⟩, rfl, rfl⟩) ?_
  refine R_iconst (pc' := 225) rfl rfl ?_
  refine R_iload_n (pc' := 226) rfl rfl rfl ?_
  refine R_iload_n (pc' := 227) rfl rfl rfl ?_
  refine KV_iv (as := [vI 0, vI x1, vI x3]) (rest := []) (pc' := 230) rfl rfl rfl (kA hA 6 4 ⟨rfl, rfl⟩) rfl (Nat.le_of_ble_eq_true rfl) rfl (CV_mono h ?_)
  intro I2 D3 h
  refine R_goto rfl ?_
  exact R_vret rfl rfl ⟨_, _, rfl, rfl, h⟩
theorem S7_261 {e : En} {I : HI} {D : HD} {Q : HI → HD → Prop} {p0 : Nat} {y1 : Int} (he : HS e) (hp0 : K0 p0 = 1)
    (h : Q (uI I p0 6 y1) D) :
    RV 7 261 [vJ, vJ, vJ, vJ, vJ, vJ, vJ, vJ, vJ, vJ] [vI y1, vR (some p0)] e I D Q := by
  show Run 7 261 [vJ, vJ, vJ, vJ, vJ, vJ, vJ, vJ, vJ, vJ] [vI y1, vR (some p0)] (mk e I D) (pV e Q)
  refine K_putIN (pc' := 264) rfl rfl (by decide) (fun h => absurd h (by decide)) hp0 ?_
  refine R_goto rfl ?_
  exact R_vret rfl rfl ⟨_, _, rfl, rfl, h⟩
