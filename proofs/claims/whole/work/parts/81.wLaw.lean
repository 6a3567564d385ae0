/-! the law's own methods: printed by wip/whole/gen/declaw.py -/
def pY (Q : En → Int → HI → HD → Prop) (r : Res) (M : MH) : Prop := ∃ e z I D, r = .inl (some (vI z)) ∧ M = mk e I D ∧ Q e z I D
def RY (m pc : Nat) (ls st : List MV) (e : En) (I : HI) (D : HD) (Q : En → Int → HI → HD → Prop) : Prop := Run m pc ls st (mk e I D) (pY Q)
def CY (m : Nat) (as : List MV) (e : En) (I : HI) (D : HD) (Q : En → Int → HI → HD → Prop) : Prop := Call m as (mk e I D) (pY Q)
theorem CY_mono {m : Nat} {as : List MV} {e : En} {I : HI} {D : HD} {Q Q' : En → Int → HI → HD → Prop} (h : CY m as e I D Q) (hq : ∀ e z I D, Q e z I D → Q' e z I D) : CY m as e I D Q' :=
  Call_mono h fun r M' q => by
    obtain ⟨e, z, I, D, h1, h2, h3⟩ := q
    exact ⟨e, z, I, D, h1, h2, hq _ _ _ _ h3⟩
theorem CY_run {m : Nat} {as ls : List MV} {e : En} {I : HI} {D : HD} {Q : En → Int → HI → HD → Prop} (hm : m < 147) (hk : (lay as).length ≤ zml m) (hls : ent m as = ls) (h : RY m 0 ls [] e I D Q) : CY m as e I D Q :=
  Call_runT hm hk hls (Run_mono h fun r M' q => ⟨by obtain ⟨e, z, I, D, rfl, -⟩ := q; exact ⟨_, rfl⟩, q⟩)
theorem K_slen {m pc pc' : Nat} {ls st : List MV} {e : En} {I : HI} {D : HD} {Q : Res → MH → Prop} {a b d : Nat} {z : Int} {tb : List (Int × Nat)} (hc : cod m pc = some (66, a, b, d, z, tb)) (hp : pc + 1 = pc') (h : Run m pc' ls (vI (e.2.1 : Int) :: st) (mk e I D) Q) : Run m pc ls (vS 100 :: st) (mk e I D) Q := R_slen hc hp h
theorem K_sald {m pc pc' : Nat} {ls st : List MV} {e : En} {I : HI} {D : HD} {Q : Res → MH → Prop} {a b d : Nat} {z : Int} {tb : List (Int × Nat)} {i : Int} (hc : cod m pc = some (58, a, b, d, z, tb)) (hp : pc + 1 = pc') (h0 : 0 ≤ i) (h1 : i < (e.2.1 : Int)) (h : Run m pc' ls (vI (e.2.2.1 i.toNat) :: st) (mk e I D) Q) : Run m pc ls (vI i :: vS 100 :: st) (mk e I D) Q := R_sald hc hp h0 h1 h
theorem KY_st {m pc pc' : Nat} {ls stk rest as : List MV} {e : En} {I : HI} {D : HD} {Q : Res → MH → Prop} {a b d : Nat} {z : Int} {tb : List (Int × Nat)} (hc : cod m pc = some (75, a, b, d, z, tb)) (hp : pc + 3 = pc') (hn : as.length = zna b) (hr : vcs rest ≤ 8) (hst : stk = as.reverse ++ rest) (h : CY b as e I D (fun e z I D => Run m pc' ls (vI z :: rest) (mk e I D) Q)) : Run m pc ls stk (mk e I D) Q :=
  R_st hc hp hn hr hst (Call_mono h fun r M1 q => by
    obtain ⟨e, z, I, D, rfl, rfl, h3⟩ := q
    exact ⟨_, rfl, h3⟩)
/-! 137 L_add -/
theorem S137 {e : En} {I : HI} {D : HD} {Q : En → Int → HI → HD → Prop} {x1 : Int} (he : HS e)
    (h : CX 70 [vR (some 0), vI x1] e I D (fun r3 I1 D2 => (r3 = .inl none ∧ Q e 0 I1 D2) ∨ (r3 = .inr 0 ∧ Q (e.1 + 1, e.2) 1 I1 D2))) :
    CY 137 [vR (some 0), vI x1] e I D Q := by
  refine CY_run (ls := [vR (some 0), vI x1, vJ]) (by decide) (Nat.le_of_ble_eq_true rfl) rfl ?_
  show Run 137 0 [vR (some 0), vI x1, vJ] [] (mk e I D) (pY Q)
  refine R_aload_n (pc' := 1) rfl rfl rfl ?_
  refine R_iload_n (pc' := 2) rfl rfl rfl ?_
  refine R_ivX (as := [vI x1]) (rest := []) (pc' := 5) rfl rfl rfl rfl rfl rfl (Nat.le_of_ble_eq_true rfl) rfl (Call_mono h ?_)
  intro rr_ MM_ h
  obtain ⟨I1, D2, rfl, h⟩ := h
  rcases h with ⟨rfl, h⟩ | ⟨rfl, h⟩
  · refine Or.inl ⟨_, rfl, ?_⟩
    refine R_goto rfl ?_
    refine R_iconst (pc' := 12) rfl rfl ?_
    exact R_iret rfl rfl ⟨_, _, _, _, rfl, rfl, h⟩
  · refine Or.inr ⟨0, 8, rfl, by decide, rfl, ?_⟩
    show Run 137 8 [vR (some 0), vI x1, vJ] [vJ] (mk (e.1 + 1, e.2) I1 D2) _
    refine R_astore_nJ (ls' := [vR (some 0), vI x1, vJ]) (pc' := 9) rfl rfl rfl ?_
    refine R_iconst (pc' := 10) rfl rfl ?_
    exact R_iret rfl rfl ⟨_, _, _, _, rfl, rfl, h⟩
/-! 138 L_scan -/
theorem S138 {e : En} {I : HI} {D : HD} {Q : En → Int → HI → HD → Prop} (he : HS e)
    (h : CX 71 [vR (some 0)] e I D (fun r3 I1 D2 => (∃ z4, r3 = .inl (some (vI z4)) ∧ Q e 0 (uI I1 341 0 z4) D2) ∨ (r3 = .inr 1 ∧ Q (e.1 + 1, e.2) 1 I1 D2))) :
    CY 138 [vR (some 0), vR (some 341)] e I D Q := by
  refine CY_run (ls := [vR (some 0), vR (some 341), vJ]) (by decide) (Nat.le_of_ble_eq_true rfl) rfl ?_
  show Run 138 0 [vR (some 0), vR (some 341), vJ] [] (mk e I D) (pY Q)
  refine R_aload_n (pc' := 1) rfl rfl rfl ?_
  refine R_iconst (pc' := 2) rfl rfl ?_
  refine R_aload_n (pc' := 3) rfl rfl rfl ?_
  refine R_ivX (as := []) (rest := [vI 0, vR (some 341)]) (pc' := 6) rfl rfl rfl rfl rfl rfl (Nat.le_of_ble_eq_true rfl) rfl (Call_mono h ?_)
  intro rr_ MM_ h
  obtain ⟨I1, D2, rfl, h⟩ := h
  rcases h with ⟨z4, rfl, h⟩ | ⟨rfl, h⟩
  · refine Or.inl ⟨_, rfl, ?_⟩
    refine R_i2l (pc' := 7) rfl rfl ?_
    refine K_last (pc' := 8) rfl rfl rfl (by decide) (by decide) ?_
    refine R_goto rfl ?_
    refine R_iconst (pc' := 15) rfl rfl ?_
    exact R_iret rfl rfl ⟨_, _, _, _, rfl, rfl, h⟩
  · refine Or.inr ⟨1, 11, rfl, by decide, rfl, ?_⟩
    show Run 138 11 [vR (some 0), vR (some 341), vJ] [vJ] (mk (e.1 + 1, e.2) I1 D2) _
    refine R_astore_nJ (ls' := [vR (some 0), vR (some 341), vJ]) (pc' := 12) rfl rfl rfl ?_
    refine R_iconst (pc' := 13) rfl rfl ?_
    exact R_iret rfl rfl ⟨_, _, _, _, rfl, rfl, h⟩
/-! 139 L_found -/
theorem S139 {e : En} {I : HI} {D : HD} {Q : En → Int → HI → HD → Prop} {x1 : Int} {x2 : Int} (he : HS e)
    (h : CX 72 [vR (some 0), vI x1, vI x2] e I D (fun r3 I1 D2 => (∃ z4, r3 = .inl (some (vL z4)) ∧ Q e 0 (uI I1 341 0 z4) D2) ∨ (r3 = .inr 2 ∧ Q (e.1 + 1, e.2) 1 I1 D2) ∨ (r3 = .inr 3 ∧ Q (e.1 + 1, e.2) 2 I1 D2))) :
    CY 139 [vR (some 0), vI x1, vI x2, vR (some 341)] e I D Q := by
  refine CY_run (ls := [vR (some 0), vI x1, vI x2, vR (some 341), vJ]) (by decide) (Nat.le_of_ble_eq_true rfl) rfl ?_
  show Run 139 0 [vR (some 0), vI x1, vI x2, vR (some 341), vJ] [] (mk e I D) (pY Q)
  refine R_aload_n (pc' := 1) rfl rfl rfl ?_
  refine R_iconst (pc' := 2) rfl rfl ?_
  refine R_aload_n (pc' := 3) rfl rfl rfl ?_
  refine R_iload_n (pc' := 4) rfl rfl rfl ?_
  refine R_iload_n (pc' := 5) rfl rfl rfl ?_
  refine R_ivX (as := [vI x1, vI x2]) (rest := [vI 0, vR (some 341)]) (pc' := 8) rfl rfl rfl rfl rfl rfl (Nat.le_of_ble_eq_true rfl) rfl (Call_mono h ?_)
  intro rr_ MM_ h
  obtain ⟨I1, D2, rfl, h⟩ := h
  rcases h with ⟨z4, rfl, h⟩ | ⟨rfl, h⟩ | ⟨rfl, h⟩
  · refine Or.inl ⟨_, rfl, ?_⟩
    refine K_last (pc' := 9) rfl rfl rfl (by decide) (by decide) ?_
    refine R_goto rfl ?_
    refine R_iconst (pc' := 21) rfl rfl ?_
    exact R_iret rfl rfl ⟨_, _, _, _, rfl, rfl, h⟩
  · refine Or.inr ⟨2, 12, rfl, by decide, rfl, ?_⟩
    show Run 139 12 [vR (some 0), vI x1, vI x2, vR (some 341), vJ] [vJ] (mk (e.1 + 1, e.2) I1 D2) _
    refine R_astoreJ (ls' := [vR (some 0), vI x1, vI x2, vR (some 341), vJ]) (pc' := 14) rfl rfl rfl ?_
    refine R_iconst (pc' := 15) rfl rfl ?_
    exact R_iret rfl rfl ⟨_, _, _, _, rfl, rfl, h⟩
  · refine Or.inr ⟨3, 16, rfl, by decide, rfl, ?_⟩
    show Run 139 16 [vR (some 0), vI x1, vI x2, vR (some 341), vJ] [vJ] (mk (e.1 + 1, e.2) I1 D2) _
    refine R_astoreJ (ls' := [vR (some 0), vI x1, vI x2, vR (some 341), vJ]) (pc' := 18) rfl rfl rfl ?_
    refine R_iconst (pc' := 19) rfl rfl ?_
    exact R_iret rfl rfl ⟨_, _, _, _, rfl, rfl, h⟩
/-! 140 L_mended -/
theorem S140 {e : En} {I : HI} {D : HD} {Q : En → Int → HI → HD → Prop} {x1 : Int} {x2 : Int} (he : HS e)
    (h : CX 73 [vR (some 0), vI x1, vI x2] e I D (fun r3 I1 D2 => (∃ z4, r3 = .inl (some (vI z4)) ∧ Q e 0 (uI I1 341 0 z4) D2) ∨ (r3 = .inr 3 ∧ Q (e.1 + 1, e.2) 1 I1 D2))) :
    CY 140 [vR (some 0), vI x1, vI x2, vR (some 341)] e I D Q := by
  refine CY_run (ls := [vR (some 0), vI x1, vI x2, vR (some 341), vJ]) (by decide) (Nat.le_of_ble_eq_true rfl) rfl ?_
  show Run 140 0 [vR (some 0), vI x1, vI x2, vR (some 341), vJ] [] (mk e I D) (pY Q)
  refine R_aload_n (pc' := 1) rfl rfl rfl ?_
  refine R_iconst (pc' := 2) rfl rfl ?_
  refine R_aload_n (pc' := 3) rfl rfl rfl ?_
  refine R_iload_n (pc' := 4) rfl rfl rfl ?_
  refine R_iload_n (pc' := 5) rfl rfl rfl ?_
  refine R_ivX (as := [vI x1, vI x2]) (rest := [vI 0, vR (some 341)]) (pc' := 8) rfl rfl rfl rfl rfl rfl (Nat.le_of_ble_eq_true rfl) rfl (Call_mono h ?_)
  intro rr_ MM_ h
  obtain ⟨I1, D2, rfl, h⟩ := h
  rcases h with ⟨z4, rfl, h⟩ | ⟨rfl, h⟩
  · refine Or.inl ⟨_, rfl, ?_⟩
    refine R_i2l (pc' := 9) rfl rfl ?_
    refine K_last (pc' := 10) rfl rfl rfl (by decide) (by decide) ?_
    refine R_goto rfl ?_
    refine R_iconst (pc' := 18) rfl rfl ?_
    exact R_iret rfl rfl ⟨_, _, _, _, rfl, rfl, h⟩
  · refine Or.inr ⟨3, 13, rfl, by decide, rfl, ?_⟩
    show Run 140 13 [vR (some 0), vI x1, vI x2, vR (some 341), vJ] [vJ] (mk (e.1 + 1, e.2) I1 D2) _
    refine R_astoreJ (ls' := [vR (some 0), vI x1, vI x2, vR (some 341), vJ]) (pc' := 15) rfl rfl rfl ?_
    refine R_iconst (pc' := 16) rfl rfl ?_
    exact R_iret rfl rfl ⟨_, _, _, _, rfl, rfl, h⟩
/-! 141 L_page -/
theorem S141 {e : En} {I : HI} {D : HD} {Q : En → Int → HI → HD → Prop} {x1 : Int} (he : HS e)
    (h : CX 76 [vR (some 0), vI x1] e I D (fun r3 I1 D2 => (∃ z4, r3 = .inl (some (vI z4)) ∧ Q e 0 (uI I1 341 0 z4) D2) ∨ (r3 = .inr 3 ∧ Q (e.1 + 1, e.2) 1 I1 D2))) :
    CY 141 [vR (some 0), vI x1, vR (some 341)] e I D Q := by
  refine CY_run (ls := [vR (some 0), vI x1, vR (some 341), vJ]) (by decide) (Nat.le_of_ble_eq_true rfl) rfl ?_
  show Run 141 0 [vR (some 0), vI x1, vR (some 341), vJ] [] (mk e I D) (pY Q)
  refine R_aload_n (pc' := 1) rfl rfl rfl ?_
  refine R_iconst (pc' := 2) rfl rfl ?_
  refine R_aload_n (pc' := 3) rfl rfl rfl ?_
  refine R_iload_n (pc' := 4) rfl rfl rfl ?_
  refine R_ivX (as := [vI x1]) (rest := [vI 0, vR (some 341)]) (pc' := 7) rfl rfl rfl rfl rfl rfl (Nat.le_of_ble_eq_true rfl) rfl (Call_mono h ?_)
  intro rr_ MM_ h
  obtain ⟨I1, D2, rfl, h⟩ := h
  rcases h with ⟨z4, rfl, h⟩ | ⟨rfl, h⟩
  · refine Or.inl ⟨_, rfl, ?_⟩
    refine R_i2l (pc' := 8) rfl rfl ?_
    refine K_last (pc' := 9) rfl rfl rfl (by decide) (by decide) ?_
    refine R_goto rfl ?_
    refine R_iconst (pc' := 16) rfl rfl ?_
    exact R_iret rfl rfl ⟨_, _, _, _, rfl, rfl, h⟩
  · refine Or.inr ⟨3, 12, rfl, by decide, rfl, ?_⟩
    show Run 141 12 [vR (some 0), vI x1, vR (some 341), vJ] [vJ] (mk (e.1 + 1, e.2) I1 D2) _
    refine R_astore_nJ (ls' := [vR (some 0), vI x1, vR (some 341), vJ]) (pc' := 13) rfl rfl rfl ?_
    refine R_iconst (pc' := 14) rfl rfl ?_
    exact R_iret rfl rfl ⟨_, _, _, _, rfl, rfl, h⟩
/-! 142 L_trailer -/
theorem S142 {e : En} {I : HI} {D : HD} {Q : En → Int → HI → HD → Prop} {x1 : Int} (he : HS e)
    (h : CX 78 [vR (some 0), vI x1] e I D (fun r3 I1 D2 => (∃ z4, r3 = .inl (some (vI z4)) ∧ Q e 0 (uI I1 341 0 z4) D2) ∨ (r3 = .inr 3 ∧ Q (e.1 + 1, e.2) 1 I1 D2))) :
    CY 142 [vR (some 0), vI x1, vR (some 341)] e I D Q := by
  refine CY_run (ls := [vR (some 0), vI x1, vR (some 341), vJ]) (by decide) (Nat.le_of_ble_eq_true rfl) rfl ?_
  show Run 142 0 [vR (some 0), vI x1, vR (some 341), vJ] [] (mk e I D) (pY Q)
  refine R_aload_n (pc' := 1) rfl rfl rfl ?_
  refine R_iconst (pc' := 2) rfl rfl ?_
  refine R_aload_n (pc' := 3) rfl rfl rfl ?_
  refine R_iload_n (pc' := 4) rfl rfl rfl ?_
  refine R_ivX (as := [vI x1]) (rest := [vI 0, vR (some 341)]) (pc' := 7) rfl rfl rfl rfl rfl rfl (Nat.le_of_ble_eq_true rfl) rfl (Call_mono h ?_)
  intro rr_ MM_ h
  obtain ⟨I1, D2, rfl, h⟩ := h
  rcases h with ⟨z4, rfl, h⟩ | ⟨rfl, h⟩
  · refine Or.inl ⟨_, rfl, ?_⟩
    refine R_i2l (pc' := 8) rfl rfl ?_
    refine K_last (pc' := 9) rfl rfl rfl (by decide) (by decide) ?_
    refine R_goto rfl ?_
    refine R_iconst (pc' := 16) rfl rfl ?_
    exact R_iret rfl rfl ⟨_, _, _, _, rfl, rfl, h⟩
  · refine Or.inr ⟨3, 12, rfl, by decide, rfl, ?_⟩
    show Run 142 12 [vR (some 0), vI x1, vR (some 341), vJ] [vJ] (mk (e.1 + 1, e.2) I1 D2) _
    refine R_astore_nJ (ls' := [vR (some 0), vI x1, vR (some 341), vJ]) (pc' := 13) rfl rfl rfl ?_
    refine R_iconst (pc' := 14) rfl rfl ?_
    exact R_iret rfl rfl ⟨_, _, _, _, rfl, rfl, h⟩
/-! 143 L_stream -/
theorem S143 {e : En} {I : HI} {D : HD} {Q : En → Int → HI → HD → Prop} {x1 : Int} {x2 : Int} (he : HS e)
    (h : CX 79 [vR (some 0), vI x1, vI x2] e I D (fun r3 I1 D2 => (∃ z4, r3 = .inl (some (vI z4)) ∧ Q e 0 (uI I1 341 0 z4) D2) ∨ (r3 = .inr 2 ∧ Q (e.1 + 1, e.2) 1 I1 D2) ∨ (r3 = .inr 3 ∧ Q (e.1 + 1, e.2) 2 I1 D2))) :
    CY 143 [vR (some 0), vI x1, vI x2, vR (some 341)] e I D Q := by
  refine CY_run (ls := [vR (some 0), vI x1, vI x2, vR (some 341), vJ]) (by decide) (Nat.le_of_ble_eq_true rfl) rfl ?_
  show Run 143 0 [vR (some 0), vI x1, vI x2, vR (some 341), vJ] [] (mk e I D) (pY Q)
  refine R_aload_n (pc' := 1) rfl rfl rfl ?_
  refine R_iconst (pc' := 2) rfl rfl ?_
  refine R_aload_n (pc' := 3) rfl rfl rfl ?_
  refine R_iload_n (pc' := 4) rfl rfl rfl ?_
  refine R_iload_n (pc' := 5) rfl rfl rfl ?_
  refine R_ivX (as := [vI x1, vI x2]) (rest := [vI 0, vR (some 341)]) (pc' := 8) rfl rfl rfl rfl rfl rfl (Nat.le_of_ble_eq_true rfl) rfl (Call_mono h ?_)
  intro rr_ MM_ h
  obtain ⟨I1, D2, rfl, h⟩ := h
  rcases h with ⟨z4, rfl, h⟩ | ⟨rfl, h⟩ | ⟨rfl, h⟩
  · refine Or.inl ⟨_, rfl, ?_⟩
    refine R_i2l (pc' := 9) rfl rfl ?_
    refine K_last (pc' := 10) rfl rfl rfl (by decide) (by decide) ?_
    refine R_goto rfl ?_
    refine R_iconst (pc' := 22) rfl rfl ?_
    exact R_iret rfl rfl ⟨_, _, _, _, rfl, rfl, h⟩
  · refine Or.inr ⟨2, 13, rfl, by decide, rfl, ?_⟩
    show Run 143 13 [vR (some 0), vI x1, vI x2, vR (some 341), vJ] [vJ] (mk (e.1 + 1, e.2) I1 D2) _
    refine R_astoreJ (ls' := [vR (some 0), vI x1, vI x2, vR (some 341), vJ]) (pc' := 15) rfl rfl rfl ?_
    refine R_iconst (pc' := 16) rfl rfl ?_
    exact R_iret rfl rfl ⟨_, _, _, _, rfl, rfl, h⟩
  · refine Or.inr ⟨3, 17, rfl, by decide, rfl, ?_⟩
    show Run 143 17 [vR (some 0), vI x1, vI x2, vR (some 341), vJ] [vJ] (mk (e.1 + 1, e.2) I1 D2) _
    refine R_astoreJ (ls' := [vR (some 0), vI x1, vI x2, vR (some 341), vJ]) (pc' := 19) rfl rfl rfl ?_
    refine R_iconst (pc' := 20) rfl rfl ?_
    exact R_iret rfl rfl ⟨_, _, _, _, rfl, rfl, h⟩
/-! 144 L_whole -/
theorem S144 {e : En} {I : HI} {D : HD} {Q : En → Int → HI → HD → Prop} {x1 : Int} (he : HS e)
    (h : CX 80 [vR (some 0), vI x1] e I D (fun r3 I1 D2 => (∃ z4, r3 = .inl (some (vI z4)) ∧ ((z4 = 0 → RY 144 15 [vJ, vJ, vJ, vJ] [vL 0, vI 0, vR (some 341)] e I1 D2 Q) ∧ (¬ (z4 = 0) → RY 144 15 [vJ, vJ, vJ, vJ] [vL 1, vI 0, vR (some 341)] e I1 D2 Q))) ∨ (r3 = .inr 2 ∧ Q (e.1 + 1, e.2) 1 I1 D2))) :
    CY 144 [vR (some 0), vI x1, vR (some 341)] e I D Q := by
  refine CY_run (ls := [vR (some 0), vI x1, vR (some 341), vJ]) (by decide) (Nat.le_of_ble_eq_true rfl) rfl ?_
  show Run 144 0 [vR (some 0), vI x1, vR (some 341), vJ] [] (mk e I D) (pY Q)
  refine R_aload_n (pc' := 1) rfl rfl rfl ?_
  refine R_iconst (pc' := 2) rfl rfl ?_
  refine R_aload_n (pc' := 3) rfl rfl rfl ?_
  refine R_iload_n (pc' := 4) rfl rfl rfl ?_
  refine R_ivX (as := [vI x1]) (rest := [vI 0, vR (some 341)]) (pc' := 7) rfl rfl rfl rfl rfl rfl (Nat.le_of_ble_eq_true rfl) rfl (Call_mono h ?_)
  intro rr_ MM_ h
  obtain ⟨I1, D2, rfl, h⟩ := h
  rcases h with ⟨z4, rfl, h⟩ | ⟨rfl, h⟩
  · refine Or.inl ⟨_, rfl, ?_⟩
    refine R_ifeq (pc' := 10) rfl rfl (fun hc => ?_) (fun hc => ?_)
    · replace h := h.1 hc
      refine R_lconst (pc' := 15) rfl rfl ?_
      exact R_forget (ls' := [vJ, vJ, vJ, vJ]) ⟨Or.inr rfl, Or.inr rfl, Or.inr rfl, Or.inl rfl, trivial⟩ h
    · replace h := h.2 hc
      refine R_lconst (pc' := 11) rfl rfl ?_
      refine R_goto rfl ?_
      exact R_forget (ls' := [vJ, vJ, vJ, vJ]) ⟨Or.inr rfl, Or.inr rfl, Or.inr rfl, Or.inl rfl, trivial⟩ h
  · refine Or.inr ⟨2, 19, rfl, by decide, rfl, ?_⟩
    show Run 144 19 [vR (some 0), vI x1, vR (some 341), vJ] [vJ] (mk (e.1 + 1, e.2) I1 D2) _
    refine R_astore_nJ (ls' := [vR (some 0), vI x1, vR (some 341), vJ]) (pc' := 20) rfl rfl rfl ?_
    refine R_iconst (pc' := 21) rfl rfl ?_
    exact R_iret rfl rfl ⟨_, _, _, _, rfl, rfl, h⟩
theorem S144_15 {e : En} {I : HI} {D : HD} {Q : En → Int → HI → HD → Prop} {y1 : Int} {v2 : Int} (he : HS e)
    (h : (0 ≤ y1 ∧ y1 < 1) ∧ Q e 0 (uI I 341 (y1.toNat) v2) D) :
    RY 144 15 [vJ, vJ, vJ, vJ] [vL v2, vI y1, vR (some 341)] e I D Q := by
  show Run 144 15 [vJ, vJ, vJ, vJ] [vL v2, vI y1, vR (some 341)] (mk e I D) (pY Q)
  have g1 := h.1
  replace h := h.2
  refine K_last (pc' := 16) rfl rfl rfl g1.1 g1.2 ?_
  refine R_goto rfl ?_
  refine R_iconst (pc' := 23) rfl rfl ?_
  exact R_iret rfl rfl ⟨_, _, _, _, rfl, rfl, h⟩
/-! 145 L_twice -/
theorem S145 {e : En} {I : HI} {D : HD} {Q : En → Int → HI → HD → Prop} {x1 : Int} (he : HS e)
    (h : CX 81 [vR (some 0), vI x1] e I D (fun r3 I1 D2 => (∃ z4, r3 = .inl (some (vI z4)) ∧ Q e 0 (uI I1 341 0 z4) D2) ∨ (r3 = .inr 3 ∧ Q (e.1 + 1, e.2) 1 I1 D2))) :
    CY 145 [vR (some 0), vI x1, vR (some 341)] e I D Q := by
  refine CY_run (ls := [vR (some 0), vI x1, vR (some 341), vJ]) (by decide) (Nat.le_of_ble_eq_true rfl) rfl ?_
  show Run 145 0 [vR (some 0), vI x1, vR (some 341), vJ] [] (mk e I D) (pY Q)
  refine R_aload_n (pc' := 1) rfl rfl rfl ?_
  refine R_iconst (pc' := 2) rfl rfl ?_
  refine R_aload_n (pc' := 3) rfl rfl rfl ?_
  refine R_iload_n (pc' := 4) rfl rfl rfl ?_
  refine R_ivX (as := [vI x1]) (rest := [vI 0, vR (some 341)]) (pc' := 7) rfl rfl rfl rfl rfl rfl (Nat.le_of_ble_eq_true rfl) rfl (Call_mono h ?_)
  intro rr_ MM_ h
  obtain ⟨I1, D2, rfl, h⟩ := h
  rcases h with ⟨z4, rfl, h⟩ | ⟨rfl, h⟩
  · refine Or.inl ⟨_, rfl, ?_⟩
    refine R_i2l (pc' := 8) rfl rfl ?_
    refine K_last (pc' := 9) rfl rfl rfl (by decide) (by decide) ?_
    refine R_goto rfl ?_
    refine R_iconst (pc' := 16) rfl rfl ?_
    exact R_iret rfl rfl ⟨_, _, _, _, rfl, rfl, h⟩
  · refine Or.inr ⟨3, 12, rfl, by decide, rfl, ?_⟩
    show Run 145 12 [vR (some 0), vI x1, vR (some 341), vJ] [vJ] (mk (e.1 + 1, e.2) I1 D2) _
    refine R_astore_nJ (ls' := [vR (some 0), vI x1, vR (some 341), vJ]) (pc' := 13) rfl rfl rfl ?_
    refine R_iconst (pc' := 14) rfl rfl ?_
    exact R_iret rfl rfl ⟨_, _, _, _, rfl, rfl, h⟩
/-! 146 L_written -/
theorem S146 {e : En} {I : HI} {D : HD} {Q : En → Int → HI → HD → Prop} {x1 : Int} (he : HS e)
    (h : CX 83 [vR (some 0), vI x1] e I D (fun r3 I1 D2 => (∃ z4, r3 = .inl (some (vI z4)) ∧ Q e 0 (uI I1 341 0 z4) D2) ∨ (r3 = .inr 3 ∧ Q (e.1 + 1, e.2) 1 I1 D2))) :
    CY 146 [vR (some 0), vI x1, vR (some 341)] e I D Q := by
  refine CY_run (ls := [vR (some 0), vI x1, vR (some 341), vJ]) (by decide) (Nat.le_of_ble_eq_true rfl) rfl ?_
  show Run 146 0 [vR (some 0), vI x1, vR (some 341), vJ] [] (mk e I D) (pY Q)
  refine R_aload_n (pc' := 1) rfl rfl rfl ?_
  refine R_iconst (pc' := 2) rfl rfl ?_
  refine R_aload_n (pc' := 3) rfl rfl rfl ?_
  refine R_iload_n (pc' := 4) rfl rfl rfl ?_
  refine R_ivX (as := [vI x1]) (rest := [vI 0, vR (some 341)]) (pc' := 7) rfl rfl rfl rfl rfl rfl (Nat.le_of_ble_eq_true rfl) rfl (Call_mono h ?_)
  intro rr_ MM_ h
  obtain ⟨I1, D2, rfl, h⟩ := h
  rcases h with ⟨z4, rfl, h⟩ | ⟨rfl, h⟩
  · refine Or.inl ⟨_, rfl, ?_⟩
    refine R_i2l (pc' := 8) rfl rfl ?_
    refine K_last (pc' := 9) rfl rfl rfl (by decide) (by decide) ?_
    refine R_goto rfl ?_
    refine R_iconst (pc' := 16) rfl rfl ?_
    exact R_iret rfl rfl ⟨_, _, _, _, rfl, rfl, h⟩
  · refine Or.inr ⟨3, 12, rfl, by decide, rfl, ?_⟩
    show Run 146 12 [vR (some 0), vI x1, vR (some 341), vJ] [vJ] (mk (e.1 + 1, e.2) I1 D2) _
    refine R_astore_nJ (ls' := [vR (some 0), vI x1, vR (some 341), vJ]) (pc' := 13) rfl rfl rfl ?_
    refine R_iconst (pc' := 14) rfl rfl ?_
    exact R_iret rfl rfl ⟨_, _, _, _, rfl, rfl, h⟩
/-! 147 L_law -/
set_option maxRecDepth 20000 in
theorem c147_23 : cod 147 23 = some (7, 4, 0, 0, 0, []) := rfl
set_option maxRecDepth 20000 in
theorem c147_25 : cod 147 25 = some (8, 0, 0, 0, 0, []) := rfl
set_option maxRecDepth 20000 in
theorem c147_26 : cod 147 26 = some (66, 0, 0, 0, 0, []) := rfl
set_option maxRecDepth 20000 in
theorem c147_27 : cod 147 27 = some (1, 0, 0, 0, 3, []) := rfl
set_option maxRecDepth 20000 in
theorem c147_28 : cod 147 28 = some (20, 0, 0, 0, 0, []) := rfl
set_option maxRecDepth 20000 in
theorem c147_29 : cod 147 29 = some (46, 738, 0, 0, 709, []) := rfl
set_option maxRecDepth 20000 in
theorem c147_32 : cod 147 32 = some (8, 0, 0, 0, 0, []) := rfl
set_option maxRecDepth 20000 in
theorem c147_33 : cod 147 33 = some (7, 4, 0, 0, 0, []) := rfl
set_option maxRecDepth 20000 in
theorem c147_35 : cod 147 35 = some (58, 0, 0, 0, 0, []) := rfl
set_option maxRecDepth 20000 in
theorem c147_36 : cod 147 36 = some (2, 0, 0, 0, 15, []) := rfl
set_option maxRecDepth 20000 in
theorem c147_38 : cod 147 38 = some (24, 0, 0, 0, 0, []) := rfl
set_option maxRecDepth 20000 in
theorem c147_39 : cod 147 39 = some (51, 732, 69, 0, 0, [(0, 108), (1, 146), (2, 190), (3, 257), (4, 325), (5, 338), (6, 351), (7, 407), (8, 420), (9, 476), (10, 544), (11, 607), (12, 663), (13, 676)]) := rfl
set_option maxRecDepth 20000 in
theorem c147_108 : cod 147 108 = some (8, 1, 0, 0, 0, []) := rfl
set_option maxRecDepth 20000 in
theorem c147_109 : cod 147 109 = some (8, 0, 0, 0, 0, []) := rfl
set_option maxRecDepth 20000 in
theorem c147_110 : cod 147 110 = some (7, 4, 0, 0, 0, []) := rfl
set_option maxRecDepth 20000 in
theorem c147_112 : cod 147 112 = some (1, 0, 0, 0, 1, []) := rfl
set_option maxRecDepth 20000 in
theorem c147_113 : cod 147 113 = some (19, 0, 0, 0, 0, []) := rfl
set_option maxRecDepth 20000 in
theorem c147_114 : cod 147 114 = some (58, 0, 0, 0, 0, []) := rfl
set_option maxRecDepth 20000 in
theorem c147_115 : cod 147 115 = some (27, 0, 0, 0, 0, []) := rfl
set_option maxRecDepth 20000 in
theorem c147_116 : cod 147 116 = some (75, 57, 137, 0, 746, []) := rfl
set_option maxRecDepth 20000 in
theorem c147_119 : cod 147 119 = some (13, 5, 0, 0, 0, []) := rfl
set_option maxRecDepth 20000 in
theorem c147_121 : cod 147 121 = some (8, 2, 0, 0, 0, []) := rfl
set_option maxRecDepth 20000 in
theorem c147_122 : cod 147 122 = some (8, 0, 0, 0, 0, []) := rfl
set_option maxRecDepth 20000 in
theorem c147_123 : cod 147 123 = some (7, 4, 0, 0, 0, []) := rfl
set_option maxRecDepth 20000 in
theorem c147_125 : cod 147 125 = some (1, 0, 0, 0, 1, []) := rfl
set_option maxRecDepth 20000 in
theorem c147_126 : cod 147 126 = some (19, 0, 0, 0, 0, []) := rfl
set_option maxRecDepth 20000 in
theorem c147_127 : cod 147 127 = some (58, 0, 0, 0, 0, []) := rfl
set_option maxRecDepth 20000 in
theorem c147_128 : cod 147 128 = some (27, 0, 0, 0, 0, []) := rfl
set_option maxRecDepth 20000 in
theorem c147_129 : cod 147 129 = some (72, 62, 87, 0, 1120, []) := rfl
set_option maxRecDepth 20000 in
theorem c147_132 : cod 147 132 = some (8, 2, 0, 0, 0, []) := rfl
set_option maxRecDepth 20000 in
theorem c147_133 : cod 147 133 = some (72, 63, 86, 0, 1116, []) := rfl
set_option maxRecDepth 20000 in
theorem c147_136 : cod 147 136 = some (7, 5, 0, 0, 0, []) := rfl
set_option maxRecDepth 20000 in
theorem c147_138 : cod 147 138 = some (42, 143, 0, 0, 5, []) := rfl
set_option maxRecDepth 20000 in
theorem c147_141 : cod 147 141 = some (1, 0, 0, 0, 0, []) := rfl
set_option maxRecDepth 20000 in
theorem c147_142 : cod 147 142 = some (83, 0, 0, 0, 0, []) := rfl
set_option maxRecDepth 20000 in
theorem c147_143 : cod 147 143 = some (50, 732, 0, 0, 589, []) := rfl
set_option maxRecDepth 20000 in
theorem c147_146 : cod 147 146 = some (8, 1, 0, 0, 0, []) := rfl
set_option maxRecDepth 20000 in
theorem c147_147 : cod 147 147 = some (8, 3, 0, 0, 0, []) := rfl
set_option maxRecDepth 20000 in
theorem c147_148 : cod 147 148 = some (75, 66, 138, 0, 818, []) := rfl
set_option maxRecDepth 20000 in
theorem c147_151 : cod 147 151 = some (13, 5, 0, 0, 0, []) := rfl
set_option maxRecDepth 20000 in
theorem c147_153 : cod 147 153 = some (8, 2, 0, 0, 0, []) := rfl
set_option maxRecDepth 20000 in
theorem c147_154 : cod 147 154 = some (72, 69, 118, 0, 1124, []) := rfl
set_option maxRecDepth 20000 in
theorem c147_157 : cod 147 157 = some (13, 6, 0, 0, 0, []) := rfl
set_option maxRecDepth 20000 in
theorem c147_159 : cod 147 159 = some (8, 2, 0, 0, 0, []) := rfl
set_option maxRecDepth 20000 in
theorem c147_160 : cod 147 160 = some (72, 63, 86, 0, 1116, []) := rfl
set_option maxRecDepth 20000 in
theorem c147_163 : cod 147 163 = some (7, 5, 0, 0, 0, []) := rfl
set_option maxRecDepth 20000 in
theorem c147_165 : cod 147 165 = some (42, 170, 0, 0, 5, []) := rfl
set_option maxRecDepth 20000 in
theorem c147_168 : cod 147 168 = some (1, 0, 0, 0, 0, []) := rfl
set_option maxRecDepth 20000 in
theorem c147_169 : cod 147 169 = some (83, 0, 0, 0, 0, []) := rfl
set_option maxRecDepth 20000 in
theorem c147_170 : cod 147 170 = some (7, 5, 0, 0, 0, []) := rfl
set_option maxRecDepth 20000 in
theorem c147_172 : cod 147 172 = some (37, 187, 0, 0, 15, []) := rfl
set_option maxRecDepth 20000 in
theorem c147_175 : cod 147 175 = some (8, 3, 0, 0, 0, []) := rfl
set_option maxRecDepth 20000 in
theorem c147_176 : cod 147 176 = some (1, 0, 0, 0, 0, []) := rfl
set_option maxRecDepth 20000 in
theorem c147_177 : cod 147 177 = some (62, 0, 0, 0, 0, []) := rfl
set_option maxRecDepth 20000 in
theorem c147_178 : cod 147 178 = some (7, 6, 0, 0, 0, []) := rfl
set_option maxRecDepth 20000 in
theorem c147_180 : cod 147 180 = some (25, 0, 0, 0, 0, []) := rfl
set_option maxRecDepth 20000 in
theorem c147_181 : cod 147 181 = some (28, 0, 0, 0, 0, []) := rfl
set_option maxRecDepth 20000 in
theorem c147_182 : cod 147 182 = some (36, 187, 0, 0, 5, []) := rfl
set_option maxRecDepth 20000 in
theorem c147_185 : cod 147 185 = some (1, 0, 0, 0, 0, []) := rfl
set_option maxRecDepth 20000 in
theorem c147_186 : cod 147 186 = some (83, 0, 0, 0, 0, []) := rfl
set_option maxRecDepth 20000 in
theorem c147_187 : cod 147 187 = some (50, 732, 0, 0, 545, []) := rfl
set_option maxRecDepth 20000 in
theorem c147_190 : cod 147 190 = some (8, 1, 0, 0, 0, []) := rfl
set_option maxRecDepth 20000 in
theorem c147_191 : cod 147 191 = some (8, 0, 0, 0, 0, []) := rfl
set_option maxRecDepth 20000 in
theorem c147_192 : cod 147 192 = some (7, 4, 0, 0, 0, []) := rfl
set_option maxRecDepth 20000 in
theorem c147_194 : cod 147 194 = some (1, 0, 0, 0, 1, []) := rfl
set_option maxRecDepth 20000 in
theorem c147_195 : cod 147 195 = some (19, 0, 0, 0, 0, []) := rfl
set_option maxRecDepth 20000 in
theorem c147_196 : cod 147 196 = some (58, 0, 0, 0, 0, []) := rfl
set_option maxRecDepth 20000 in
theorem c147_197 : cod 147 197 = some (8, 0, 0, 0, 0, []) := rfl
set_option maxRecDepth 20000 in
theorem c147_198 : cod 147 198 = some (7, 4, 0, 0, 0, []) := rfl
set_option maxRecDepth 20000 in
theorem c147_200 : cod 147 200 = some (1, 0, 0, 0, 2, []) := rfl
set_option maxRecDepth 20000 in
theorem c147_201 : cod 147 201 = some (19, 0, 0, 0, 0, []) := rfl
set_option maxRecDepth 20000 in
theorem c147_202 : cod 147 202 = some (58, 0, 0, 0, 0, []) := rfl
set_option maxRecDepth 20000 in
theorem c147_203 : cod 147 203 = some (8, 3, 0, 0, 0, []) := rfl
set_option maxRecDepth 20000 in
theorem c147_204 : cod 147 204 = some (75, 70, 139, 0, 841, []) := rfl
set_option maxRecDepth 20000 in
theorem c147_207 : cod 147 207 = some (13, 5, 0, 0, 0, []) := rfl
set_option maxRecDepth 20000 in
theorem c147_209 : cod 147 209 = some (8, 2, 0, 0, 0, []) := rfl
set_option maxRecDepth 20000 in
theorem c147_210 : cod 147 210 = some (8, 0, 0, 0, 0, []) := rfl
set_option maxRecDepth 20000 in
theorem c147_211 : cod 147 211 = some (7, 4, 0, 0, 0, []) := rfl
set_option maxRecDepth 20000 in
theorem c147_213 : cod 147 213 = some (1, 0, 0, 0, 1, []) := rfl
set_option maxRecDepth 20000 in
theorem c147_214 : cod 147 214 = some (19, 0, 0, 0, 0, []) := rfl
set_option maxRecDepth 20000 in
theorem c147_215 : cod 147 215 = some (58, 0, 0, 0, 0, []) := rfl
set_option maxRecDepth 20000 in
theorem c147_216 : cod 147 216 = some (8, 0, 0, 0, 0, []) := rfl
set_option maxRecDepth 20000 in
theorem c147_217 : cod 147 217 = some (7, 4, 0, 0, 0, []) := rfl
set_option maxRecDepth 20000 in
theorem c147_219 : cod 147 219 = some (1, 0, 0, 0, 2, []) := rfl
set_option maxRecDepth 20000 in
theorem c147_220 : cod 147 220 = some (19, 0, 0, 0, 0, []) := rfl
set_option maxRecDepth 20000 in
theorem c147_221 : cod 147 221 = some (58, 0, 0, 0, 0, []) := rfl
set_option maxRecDepth 20000 in
theorem c147_222 : cod 147 222 = some (72, 73, 120, 0, 1267, []) := rfl
set_option maxRecDepth 20000 in
theorem c147_225 : cod 147 225 = some (17, 6, 0, 0, 0, []) := rfl
set_option maxRecDepth 20000 in
theorem c147_227 : cod 147 227 = some (8, 2, 0, 0, 0, []) := rfl
set_option maxRecDepth 20000 in
theorem c147_228 : cod 147 228 = some (72, 63, 86, 0, 1116, []) := rfl
set_option maxRecDepth 20000 in
theorem c147_231 : cod 147 231 = some (7, 5, 0, 0, 0, []) := rfl
set_option maxRecDepth 20000 in
theorem c147_233 : cod 147 233 = some (42, 238, 0, 0, 5, []) := rfl
set_option maxRecDepth 20000 in
theorem c147_236 : cod 147 236 = some (1, 0, 0, 0, 0, []) := rfl
set_option maxRecDepth 20000 in
theorem c147_237 : cod 147 237 = some (83, 0, 0, 0, 0, []) := rfl
set_option maxRecDepth 20000 in
theorem c147_238 : cod 147 238 = some (7, 5, 0, 0, 0, []) := rfl
set_option maxRecDepth 20000 in
theorem c147_240 : cod 147 240 = some (37, 254, 0, 0, 14, []) := rfl
set_option maxRecDepth 20000 in
theorem c147_243 : cod 147 243 = some (8, 3, 0, 0, 0, []) := rfl
set_option maxRecDepth 20000 in
theorem c147_244 : cod 147 244 = some (1, 0, 0, 0, 0, []) := rfl
set_option maxRecDepth 20000 in
theorem c147_245 : cod 147 245 = some (62, 0, 0, 0, 0, []) := rfl
set_option maxRecDepth 20000 in
theorem c147_246 : cod 147 246 = some (11, 6, 0, 0, 0, []) := rfl
set_option maxRecDepth 20000 in
theorem c147_248 : cod 147 248 = some (28, 0, 0, 0, 0, []) := rfl
set_option maxRecDepth 20000 in
theorem c147_249 : cod 147 249 = some (36, 254, 0, 0, 5, []) := rfl
set_option maxRecDepth 20000 in
theorem c147_252 : cod 147 252 = some (1, 0, 0, 0, 0, []) := rfl
set_option maxRecDepth 20000 in
theorem c147_253 : cod 147 253 = some (83, 0, 0, 0, 0, []) := rfl
set_option maxRecDepth 20000 in
theorem c147_254 : cod 147 254 = some (50, 732, 0, 0, 478, []) := rfl
set_option maxRecDepth 20000 in
theorem c147_257 : cod 147 257 = some (8, 1, 0, 0, 0, []) := rfl
set_option maxRecDepth 20000 in
theorem c147_258 : cod 147 258 = some (8, 0, 0, 0, 0, []) := rfl
set_option maxRecDepth 20000 in
theorem c147_259 : cod 147 259 = some (7, 4, 0, 0, 0, []) := rfl
set_option maxRecDepth 20000 in
theorem c147_261 : cod 147 261 = some (1, 0, 0, 0, 1, []) := rfl
set_option maxRecDepth 20000 in
theorem c147_262 : cod 147 262 = some (19, 0, 0, 0, 0, []) := rfl
set_option maxRecDepth 20000 in
theorem c147_263 : cod 147 263 = some (58, 0, 0, 0, 0, []) := rfl
set_option maxRecDepth 20000 in
theorem c147_264 : cod 147 264 = some (8, 0, 0, 0, 0, []) := rfl
set_option maxRecDepth 20000 in
theorem c147_265 : cod 147 265 = some (7, 4, 0, 0, 0, []) := rfl
set_option maxRecDepth 20000 in
theorem c147_267 : cod 147 267 = some (1, 0, 0, 0, 2, []) := rfl
set_option maxRecDepth 20000 in
theorem c147_268 : cod 147 268 = some (19, 0, 0, 0, 0, []) := rfl
set_option maxRecDepth 20000 in
theorem c147_269 : cod 147 269 = some (58, 0, 0, 0, 0, []) := rfl
set_option maxRecDepth 20000 in
theorem c147_270 : cod 147 270 = some (8, 3, 0, 0, 0, []) := rfl
set_option maxRecDepth 20000 in
theorem c147_271 : cod 147 271 = some (75, 74, 140, 0, 881, []) := rfl
set_option maxRecDepth 20000 in
theorem c147_274 : cod 147 274 = some (13, 5, 0, 0, 0, []) := rfl
set_option maxRecDepth 20000 in
theorem c147_276 : cod 147 276 = some (8, 2, 0, 0, 0, []) := rfl
set_option maxRecDepth 20000 in
theorem c147_277 : cod 147 277 = some (8, 0, 0, 0, 0, []) := rfl
set_option maxRecDepth 20000 in
theorem c147_278 : cod 147 278 = some (7, 4, 0, 0, 0, []) := rfl
set_option maxRecDepth 20000 in
theorem c147_280 : cod 147 280 = some (1, 0, 0, 0, 1, []) := rfl
set_option maxRecDepth 20000 in
theorem c147_281 : cod 147 281 = some (19, 0, 0, 0, 0, []) := rfl
set_option maxRecDepth 20000 in
theorem c147_282 : cod 147 282 = some (58, 0, 0, 0, 0, []) := rfl
set_option maxRecDepth 20000 in
theorem c147_283 : cod 147 283 = some (8, 0, 0, 0, 0, []) := rfl
set_option maxRecDepth 20000 in
theorem c147_284 : cod 147 284 = some (7, 4, 0, 0, 0, []) := rfl
set_option maxRecDepth 20000 in
theorem c147_286 : cod 147 286 = some (1, 0, 0, 0, 2, []) := rfl
set_option maxRecDepth 20000 in
theorem c147_287 : cod 147 287 = some (19, 0, 0, 0, 0, []) := rfl
set_option maxRecDepth 20000 in
theorem c147_288 : cod 147 288 = some (58, 0, 0, 0, 0, []) := rfl
set_option maxRecDepth 20000 in
theorem c147_289 : cod 147 289 = some (72, 76, 121, 0, 1275, []) := rfl
set_option maxRecDepth 20000 in
theorem c147_292 : cod 147 292 = some (13, 6, 0, 0, 0, []) := rfl
set_option maxRecDepth 20000 in
theorem c147_294 : cod 147 294 = some (8, 2, 0, 0, 0, []) := rfl
set_option maxRecDepth 20000 in
theorem c147_295 : cod 147 295 = some (72, 63, 86, 0, 1116, []) := rfl
set_option maxRecDepth 20000 in
theorem c147_298 : cod 147 298 = some (7, 5, 0, 0, 0, []) := rfl
set_option maxRecDepth 20000 in
theorem c147_300 : cod 147 300 = some (42, 305, 0, 0, 5, []) := rfl
set_option maxRecDepth 20000 in
theorem c147_303 : cod 147 303 = some (1, 0, 0, 0, 0, []) := rfl
set_option maxRecDepth 20000 in
theorem c147_304 : cod 147 304 = some (83, 0, 0, 0, 0, []) := rfl
set_option maxRecDepth 20000 in
theorem c147_305 : cod 147 305 = some (7, 5, 0, 0, 0, []) := rfl
set_option maxRecDepth 20000 in
theorem c147_307 : cod 147 307 = some (37, 322, 0, 0, 15, []) := rfl
set_option maxRecDepth 20000 in
theorem c147_310 : cod 147 310 = some (8, 3, 0, 0, 0, []) := rfl
set_option maxRecDepth 20000 in
theorem c147_311 : cod 147 311 = some (1, 0, 0, 0, 0, []) := rfl
set_option maxRecDepth 20000 in
theorem c147_312 : cod 147 312 = some (62, 0, 0, 0, 0, []) := rfl
set_option maxRecDepth 20000 in
theorem c147_313 : cod 147 313 = some (7, 6, 0, 0, 0, []) := rfl
set_option maxRecDepth 20000 in
theorem c147_315 : cod 147 315 = some (25, 0, 0, 0, 0, []) := rfl
set_option maxRecDepth 20000 in
theorem c147_316 : cod 147 316 = some (28, 0, 0, 0, 0, []) := rfl
set_option maxRecDepth 20000 in
theorem c147_317 : cod 147 317 = some (36, 322, 0, 0, 5, []) := rfl
set_option maxRecDepth 20000 in
theorem c147_320 : cod 147 320 = some (1, 0, 0, 0, 0, []) := rfl
set_option maxRecDepth 20000 in
theorem c147_321 : cod 147 321 = some (83, 0, 0, 0, 0, []) := rfl
set_option maxRecDepth 20000 in
theorem c147_322 : cod 147 322 = some (50, 732, 0, 0, 410, []) := rfl
set_option maxRecDepth 20000 in
theorem c147_325 : cod 147 325 = some (8, 1, 0, 0, 0, []) := rfl
set_option maxRecDepth 20000 in
theorem c147_326 : cod 147 326 = some (72, 77, 74, 0, 381, []) := rfl
set_option maxRecDepth 20000 in
theorem c147_329 : cod 147 329 = some (8, 2, 0, 0, 0, []) := rfl
set_option maxRecDepth 20000 in
theorem c147_330 : cod 147 330 = some (72, 80, 122, 0, 1279, []) := rfl
set_option maxRecDepth 20000 in
theorem c147_333 : cod 147 333 = some (42, 732, 0, 0, 399, []) := rfl
set_option maxRecDepth 20000 in
theorem c147_336 : cod 147 336 = some (1, 0, 0, 0, 0, []) := rfl
set_option maxRecDepth 20000 in
theorem c147_337 : cod 147 337 = some (83, 0, 0, 0, 0, []) := rfl
set_option maxRecDepth 20000 in
theorem c147_338 : cod 147 338 = some (8, 1, 0, 0, 0, []) := rfl
set_option maxRecDepth 20000 in
theorem c147_339 : cod 147 339 = some (72, 81, 75, 0, 385, []) := rfl
set_option maxRecDepth 20000 in
theorem c147_342 : cod 147 342 = some (8, 2, 0, 0, 0, []) := rfl
set_option maxRecDepth 20000 in
theorem c147_343 : cod 147 343 = some (72, 84, 123, 0, 1283, []) := rfl
set_option maxRecDepth 20000 in
theorem c147_346 : cod 147 346 = some (42, 732, 0, 0, 386, []) := rfl
set_option maxRecDepth 20000 in
theorem c147_349 : cod 147 349 = some (1, 0, 0, 0, 0, []) := rfl
set_option maxRecDepth 20000 in
theorem c147_350 : cod 147 350 = some (83, 0, 0, 0, 0, []) := rfl
set_option maxRecDepth 20000 in
theorem c147_351 : cod 147 351 = some (8, 1, 0, 0, 0, []) := rfl
set_option maxRecDepth 20000 in
theorem c147_352 : cod 147 352 = some (8, 0, 0, 0, 0, []) := rfl
set_option maxRecDepth 20000 in
theorem c147_353 : cod 147 353 = some (7, 4, 0, 0, 0, []) := rfl
set_option maxRecDepth 20000 in
theorem c147_355 : cod 147 355 = some (1, 0, 0, 0, 1, []) := rfl
set_option maxRecDepth 20000 in
theorem c147_356 : cod 147 356 = some (19, 0, 0, 0, 0, []) := rfl
set_option maxRecDepth 20000 in
theorem c147_357 : cod 147 357 = some (58, 0, 0, 0, 0, []) := rfl
set_option maxRecDepth 20000 in
theorem c147_358 : cod 147 358 = some (8, 3, 0, 0, 0, []) := rfl
set_option maxRecDepth 20000 in
theorem c147_359 : cod 147 359 = some (75, 85, 141, 0, 890, []) := rfl
set_option maxRecDepth 20000 in
theorem c147_362 : cod 147 362 = some (13, 5, 0, 0, 0, []) := rfl
set_option maxRecDepth 20000 in
theorem c147_364 : cod 147 364 = some (8, 2, 0, 0, 0, []) := rfl
set_option maxRecDepth 20000 in
theorem c147_365 : cod 147 365 = some (8, 0, 0, 0, 0, []) := rfl
set_option maxRecDepth 20000 in
theorem c147_366 : cod 147 366 = some (7, 4, 0, 0, 0, []) := rfl
set_option maxRecDepth 20000 in
theorem c147_368 : cod 147 368 = some (1, 0, 0, 0, 1, []) := rfl
set_option maxRecDepth 20000 in
theorem c147_369 : cod 147 369 = some (19, 0, 0, 0, 0, []) := rfl
set_option maxRecDepth 20000 in
theorem c147_370 : cod 147 370 = some (58, 0, 0, 0, 0, []) := rfl
set_option maxRecDepth 20000 in
theorem c147_371 : cod 147 371 = some (72, 88, 124, 0, 1287, []) := rfl
set_option maxRecDepth 20000 in
theorem c147_374 : cod 147 374 = some (13, 6, 0, 0, 0, []) := rfl
set_option maxRecDepth 20000 in
theorem c147_376 : cod 147 376 = some (8, 2, 0, 0, 0, []) := rfl
set_option maxRecDepth 20000 in
theorem c147_377 : cod 147 377 = some (72, 63, 86, 0, 1116, []) := rfl
set_option maxRecDepth 20000 in
theorem c147_380 : cod 147 380 = some (7, 5, 0, 0, 0, []) := rfl
set_option maxRecDepth 20000 in
theorem c147_382 : cod 147 382 = some (42, 387, 0, 0, 5, []) := rfl
set_option maxRecDepth 20000 in
theorem c147_385 : cod 147 385 = some (1, 0, 0, 0, 0, []) := rfl
set_option maxRecDepth 20000 in
theorem c147_386 : cod 147 386 = some (83, 0, 0, 0, 0, []) := rfl
set_option maxRecDepth 20000 in
theorem c147_387 : cod 147 387 = some (7, 5, 0, 0, 0, []) := rfl
set_option maxRecDepth 20000 in
theorem c147_389 : cod 147 389 = some (37, 404, 0, 0, 15, []) := rfl
set_option maxRecDepth 20000 in
theorem c147_392 : cod 147 392 = some (8, 3, 0, 0, 0, []) := rfl
set_option maxRecDepth 20000 in
theorem c147_393 : cod 147 393 = some (1, 0, 0, 0, 0, []) := rfl
set_option maxRecDepth 20000 in
theorem c147_394 : cod 147 394 = some (62, 0, 0, 0, 0, []) := rfl
set_option maxRecDepth 20000 in
theorem c147_395 : cod 147 395 = some (7, 6, 0, 0, 0, []) := rfl
set_option maxRecDepth 20000 in
theorem c147_397 : cod 147 397 = some (25, 0, 0, 0, 0, []) := rfl
set_option maxRecDepth 20000 in
theorem c147_398 : cod 147 398 = some (28, 0, 0, 0, 0, []) := rfl
set_option maxRecDepth 20000 in
theorem c147_399 : cod 147 399 = some (36, 404, 0, 0, 5, []) := rfl
set_option maxRecDepth 20000 in
theorem c147_402 : cod 147 402 = some (1, 0, 0, 0, 0, []) := rfl
set_option maxRecDepth 20000 in
theorem c147_403 : cod 147 403 = some (83, 0, 0, 0, 0, []) := rfl
set_option maxRecDepth 20000 in
theorem c147_404 : cod 147 404 = some (50, 732, 0, 0, 328, []) := rfl
set_option maxRecDepth 20000 in
theorem c147_407 : cod 147 407 = some (8, 1, 0, 0, 0, []) := rfl
set_option maxRecDepth 20000 in
theorem c147_408 : cod 147 408 = some (72, 89, 77, 0, 389, []) := rfl
set_option maxRecDepth 20000 in
theorem c147_411 : cod 147 411 = some (8, 2, 0, 0, 0, []) := rfl
set_option maxRecDepth 20000 in
theorem c147_412 : cod 147 412 = some (72, 92, 125, 0, 1291, []) := rfl
set_option maxRecDepth 20000 in
theorem c147_415 : cod 147 415 = some (42, 732, 0, 0, 317, []) := rfl
set_option maxRecDepth 20000 in
theorem c147_418 : cod 147 418 = some (1, 0, 0, 0, 0, []) := rfl
set_option maxRecDepth 20000 in
theorem c147_419 : cod 147 419 = some (83, 0, 0, 0, 0, []) := rfl
set_option maxRecDepth 20000 in
theorem c147_420 : cod 147 420 = some (8, 1, 0, 0, 0, []) := rfl
set_option maxRecDepth 20000 in
theorem c147_421 : cod 147 421 = some (8, 0, 0, 0, 0, []) := rfl
set_option maxRecDepth 20000 in
theorem c147_422 : cod 147 422 = some (7, 4, 0, 0, 0, []) := rfl
set_option maxRecDepth 20000 in
theorem c147_424 : cod 147 424 = some (1, 0, 0, 0, 1, []) := rfl
set_option maxRecDepth 20000 in
theorem c147_425 : cod 147 425 = some (19, 0, 0, 0, 0, []) := rfl
set_option maxRecDepth 20000 in
theorem c147_426 : cod 147 426 = some (58, 0, 0, 0, 0, []) := rfl
set_option maxRecDepth 20000 in
theorem c147_427 : cod 147 427 = some (8, 3, 0, 0, 0, []) := rfl
set_option maxRecDepth 20000 in
theorem c147_428 : cod 147 428 = some (75, 93, 142, 0, 901, []) := rfl
set_option maxRecDepth 20000 in
theorem c147_431 : cod 147 431 = some (13, 5, 0, 0, 0, []) := rfl
set_option maxRecDepth 20000 in
theorem c147_433 : cod 147 433 = some (8, 2, 0, 0, 0, []) := rfl
set_option maxRecDepth 20000 in
theorem c147_434 : cod 147 434 = some (8, 0, 0, 0, 0, []) := rfl
set_option maxRecDepth 20000 in
theorem c147_435 : cod 147 435 = some (7, 4, 0, 0, 0, []) := rfl
set_option maxRecDepth 20000 in
theorem c147_437 : cod 147 437 = some (1, 0, 0, 0, 1, []) := rfl
set_option maxRecDepth 20000 in
theorem c147_438 : cod 147 438 = some (19, 0, 0, 0, 0, []) := rfl
set_option maxRecDepth 20000 in
theorem c147_439 : cod 147 439 = some (58, 0, 0, 0, 0, []) := rfl
set_option maxRecDepth 20000 in
theorem c147_440 : cod 147 440 = some (72, 95, 126, 0, 1295, []) := rfl
set_option maxRecDepth 20000 in
theorem c147_443 : cod 147 443 = some (13, 6, 0, 0, 0, []) := rfl
set_option maxRecDepth 20000 in
theorem c147_445 : cod 147 445 = some (8, 2, 0, 0, 0, []) := rfl
set_option maxRecDepth 20000 in
theorem c147_446 : cod 147 446 = some (72, 63, 86, 0, 1116, []) := rfl
set_option maxRecDepth 20000 in
theorem c147_449 : cod 147 449 = some (7, 5, 0, 0, 0, []) := rfl
set_option maxRecDepth 20000 in
theorem c147_451 : cod 147 451 = some (42, 456, 0, 0, 5, []) := rfl
set_option maxRecDepth 20000 in
theorem c147_454 : cod 147 454 = some (1, 0, 0, 0, 0, []) := rfl
set_option maxRecDepth 20000 in
theorem c147_455 : cod 147 455 = some (83, 0, 0, 0, 0, []) := rfl
set_option maxRecDepth 20000 in
theorem c147_456 : cod 147 456 = some (7, 5, 0, 0, 0, []) := rfl
set_option maxRecDepth 20000 in
theorem c147_458 : cod 147 458 = some (37, 473, 0, 0, 15, []) := rfl
set_option maxRecDepth 20000 in
theorem c147_461 : cod 147 461 = some (8, 3, 0, 0, 0, []) := rfl
set_option maxRecDepth 20000 in
theorem c147_462 : cod 147 462 = some (1, 0, 0, 0, 0, []) := rfl
set_option maxRecDepth 20000 in
theorem c147_463 : cod 147 463 = some (62, 0, 0, 0, 0, []) := rfl
set_option maxRecDepth 20000 in
theorem c147_464 : cod 147 464 = some (7, 6, 0, 0, 0, []) := rfl
set_option maxRecDepth 20000 in
theorem c147_466 : cod 147 466 = some (25, 0, 0, 0, 0, []) := rfl
set_option maxRecDepth 20000 in
theorem c147_467 : cod 147 467 = some (28, 0, 0, 0, 0, []) := rfl
set_option maxRecDepth 20000 in
theorem c147_468 : cod 147 468 = some (36, 473, 0, 0, 5, []) := rfl
set_option maxRecDepth 20000 in
theorem c147_471 : cod 147 471 = some (1, 0, 0, 0, 0, []) := rfl
set_option maxRecDepth 20000 in
theorem c147_472 : cod 147 472 = some (83, 0, 0, 0, 0, []) := rfl
set_option maxRecDepth 20000 in
theorem c147_473 : cod 147 473 = some (50, 732, 0, 0, 259, []) := rfl
set_option maxRecDepth 20000 in
theorem c147_476 : cod 147 476 = some (8, 1, 0, 0, 0, []) := rfl
set_option maxRecDepth 20000 in
theorem c147_477 : cod 147 477 = some (8, 0, 0, 0, 0, []) := rfl
set_option maxRecDepth 20000 in
theorem c147_478 : cod 147 478 = some (7, 4, 0, 0, 0, []) := rfl
set_option maxRecDepth 20000 in
theorem c147_480 : cod 147 480 = some (1, 0, 0, 0, 1, []) := rfl
set_option maxRecDepth 20000 in
theorem c147_481 : cod 147 481 = some (19, 0, 0, 0, 0, []) := rfl
set_option maxRecDepth 20000 in
theorem c147_482 : cod 147 482 = some (58, 0, 0, 0, 0, []) := rfl
set_option maxRecDepth 20000 in
theorem c147_483 : cod 147 483 = some (8, 0, 0, 0, 0, []) := rfl
set_option maxRecDepth 20000 in
theorem c147_484 : cod 147 484 = some (7, 4, 0, 0, 0, []) := rfl
set_option maxRecDepth 20000 in
theorem c147_486 : cod 147 486 = some (1, 0, 0, 0, 2, []) := rfl
set_option maxRecDepth 20000 in
theorem c147_487 : cod 147 487 = some (19, 0, 0, 0, 0, []) := rfl
set_option maxRecDepth 20000 in
theorem c147_488 : cod 147 488 = some (58, 0, 0, 0, 0, []) := rfl
set_option maxRecDepth 20000 in
theorem c147_489 : cod 147 489 = some (8, 3, 0, 0, 0, []) := rfl
set_option maxRecDepth 20000 in
theorem c147_490 : cod 147 490 = some (75, 96, 143, 0, 908, []) := rfl
set_option maxRecDepth 20000 in
theorem c147_493 : cod 147 493 = some (13, 5, 0, 0, 0, []) := rfl
set_option maxRecDepth 20000 in
theorem c147_495 : cod 147 495 = some (8, 2, 0, 0, 0, []) := rfl
set_option maxRecDepth 20000 in
theorem c147_496 : cod 147 496 = some (8, 0, 0, 0, 0, []) := rfl
set_option maxRecDepth 20000 in
theorem c147_497 : cod 147 497 = some (7, 4, 0, 0, 0, []) := rfl
set_option maxRecDepth 20000 in
theorem c147_499 : cod 147 499 = some (1, 0, 0, 0, 1, []) := rfl
set_option maxRecDepth 20000 in
theorem c147_500 : cod 147 500 = some (19, 0, 0, 0, 0, []) := rfl
set_option maxRecDepth 20000 in
theorem c147_501 : cod 147 501 = some (58, 0, 0, 0, 0, []) := rfl
set_option maxRecDepth 20000 in
theorem c147_502 : cod 147 502 = some (8, 0, 0, 0, 0, []) := rfl
set_option maxRecDepth 20000 in
theorem c147_503 : cod 147 503 = some (7, 4, 0, 0, 0, []) := rfl
set_option maxRecDepth 20000 in
theorem c147_505 : cod 147 505 = some (1, 0, 0, 0, 2, []) := rfl
set_option maxRecDepth 20000 in
theorem c147_506 : cod 147 506 = some (19, 0, 0, 0, 0, []) := rfl
set_option maxRecDepth 20000 in
theorem c147_507 : cod 147 507 = some (58, 0, 0, 0, 0, []) := rfl
set_option maxRecDepth 20000 in
theorem c147_508 : cod 147 508 = some (72, 98, 127, 0, 1299, []) := rfl
set_option maxRecDepth 20000 in
theorem c147_511 : cod 147 511 = some (13, 6, 0, 0, 0, []) := rfl
set_option maxRecDepth 20000 in
theorem c147_513 : cod 147 513 = some (8, 2, 0, 0, 0, []) := rfl
set_option maxRecDepth 20000 in
theorem c147_514 : cod 147 514 = some (72, 63, 86, 0, 1116, []) := rfl
set_option maxRecDepth 20000 in
theorem c147_517 : cod 147 517 = some (7, 5, 0, 0, 0, []) := rfl
set_option maxRecDepth 20000 in
theorem c147_519 : cod 147 519 = some (42, 524, 0, 0, 5, []) := rfl
set_option maxRecDepth 20000 in
theorem c147_522 : cod 147 522 = some (1, 0, 0, 0, 0, []) := rfl
set_option maxRecDepth 20000 in
theorem c147_523 : cod 147 523 = some (83, 0, 0, 0, 0, []) := rfl
set_option maxRecDepth 20000 in
theorem c147_524 : cod 147 524 = some (7, 5, 0, 0, 0, []) := rfl
set_option maxRecDepth 20000 in
theorem c147_526 : cod 147 526 = some (37, 541, 0, 0, 15, []) := rfl
set_option maxRecDepth 20000 in
theorem c147_529 : cod 147 529 = some (8, 3, 0, 0, 0, []) := rfl
set_option maxRecDepth 20000 in
theorem c147_530 : cod 147 530 = some (1, 0, 0, 0, 0, []) := rfl
set_option maxRecDepth 20000 in
theorem c147_531 : cod 147 531 = some (62, 0, 0, 0, 0, []) := rfl
set_option maxRecDepth 20000 in
theorem c147_532 : cod 147 532 = some (7, 6, 0, 0, 0, []) := rfl
set_option maxRecDepth 20000 in
theorem c147_534 : cod 147 534 = some (25, 0, 0, 0, 0, []) := rfl
set_option maxRecDepth 20000 in
theorem c147_535 : cod 147 535 = some (28, 0, 0, 0, 0, []) := rfl
set_option maxRecDepth 20000 in
theorem c147_536 : cod 147 536 = some (36, 541, 0, 0, 5, []) := rfl
set_option maxRecDepth 20000 in
theorem c147_539 : cod 147 539 = some (1, 0, 0, 0, 0, []) := rfl
set_option maxRecDepth 20000 in
theorem c147_540 : cod 147 540 = some (83, 0, 0, 0, 0, []) := rfl
set_option maxRecDepth 20000 in
theorem c147_541 : cod 147 541 = some (50, 732, 0, 0, 191, []) := rfl
set_option maxRecDepth 20000 in
theorem c147_544 : cod 147 544 = some (8, 1, 0, 0, 0, []) := rfl
set_option maxRecDepth 20000 in
theorem c147_545 : cod 147 545 = some (8, 0, 0, 0, 0, []) := rfl
set_option maxRecDepth 20000 in
theorem c147_546 : cod 147 546 = some (7, 4, 0, 0, 0, []) := rfl
set_option maxRecDepth 20000 in
theorem c147_548 : cod 147 548 = some (1, 0, 0, 0, 1, []) := rfl
set_option maxRecDepth 20000 in
theorem c147_549 : cod 147 549 = some (19, 0, 0, 0, 0, []) := rfl
set_option maxRecDepth 20000 in
theorem c147_550 : cod 147 550 = some (58, 0, 0, 0, 0, []) := rfl
set_option maxRecDepth 20000 in
theorem c147_551 : cod 147 551 = some (8, 3, 0, 0, 0, []) := rfl
set_option maxRecDepth 20000 in
theorem c147_552 : cod 147 552 = some (75, 99, 144, 0, 916, []) := rfl
set_option maxRecDepth 20000 in
theorem c147_555 : cod 147 555 = some (13, 5, 0, 0, 0, []) := rfl
set_option maxRecDepth 20000 in
theorem c147_557 : cod 147 557 = some (8, 2, 0, 0, 0, []) := rfl
set_option maxRecDepth 20000 in
theorem c147_558 : cod 147 558 = some (8, 0, 0, 0, 0, []) := rfl
set_option maxRecDepth 20000 in
theorem c147_559 : cod 147 559 = some (7, 4, 0, 0, 0, []) := rfl
set_option maxRecDepth 20000 in
theorem c147_561 : cod 147 561 = some (1, 0, 0, 0, 1, []) := rfl
set_option maxRecDepth 20000 in
theorem c147_562 : cod 147 562 = some (19, 0, 0, 0, 0, []) := rfl
set_option maxRecDepth 20000 in
theorem c147_563 : cod 147 563 = some (58, 0, 0, 0, 0, []) := rfl
set_option maxRecDepth 20000 in
theorem c147_564 : cod 147 564 = some (72, 101, 128, 0, 1303, []) := rfl
set_option maxRecDepth 20000 in
theorem c147_567 : cod 147 567 = some (13, 6, 0, 0, 0, []) := rfl
set_option maxRecDepth 20000 in
theorem c147_569 : cod 147 569 = some (8, 2, 0, 0, 0, []) := rfl
set_option maxRecDepth 20000 in
theorem c147_570 : cod 147 570 = some (72, 63, 86, 0, 1116, []) := rfl
set_option maxRecDepth 20000 in
theorem c147_573 : cod 147 573 = some (7, 5, 0, 0, 0, []) := rfl
set_option maxRecDepth 20000 in
theorem c147_575 : cod 147 575 = some (42, 580, 0, 0, 5, []) := rfl
set_option maxRecDepth 20000 in
theorem c147_578 : cod 147 578 = some (1, 0, 0, 0, 0, []) := rfl
set_option maxRecDepth 20000 in
theorem c147_579 : cod 147 579 = some (83, 0, 0, 0, 0, []) := rfl
set_option maxRecDepth 20000 in
theorem c147_580 : cod 147 580 = some (7, 5, 0, 0, 0, []) := rfl
set_option maxRecDepth 20000 in
theorem c147_582 : cod 147 582 = some (37, 604, 0, 0, 22, []) := rfl
set_option maxRecDepth 20000 in
theorem c147_585 : cod 147 585 = some (8, 3, 0, 0, 0, []) := rfl
set_option maxRecDepth 20000 in
theorem c147_586 : cod 147 586 = some (1, 0, 0, 0, 0, []) := rfl
set_option maxRecDepth 20000 in
theorem c147_587 : cod 147 587 = some (62, 0, 0, 0, 0, []) := rfl
set_option maxRecDepth 20000 in
theorem c147_588 : cod 147 588 = some (7, 6, 0, 0, 0, []) := rfl
set_option maxRecDepth 20000 in
theorem c147_590 : cod 147 590 = some (36, 597, 0, 0, 7, []) := rfl
set_option maxRecDepth 20000 in
theorem c147_593 : cod 147 593 = some (4, 1, 0, 0, 1, []) := rfl
set_option maxRecDepth 20000 in
theorem c147_594 : cod 147 594 = some (50, 598, 0, 0, 4, []) := rfl
set_option maxRecDepth 20000 in
theorem c147_597 : cod 147 597 = some (4, 0, 0, 0, 0, []) := rfl
set_option maxRecDepth 20000 in
theorem c147_598 : cod 147 598 = some (28, 0, 0, 0, 0, []) := rfl
set_option maxRecDepth 20000 in
theorem c147_599 : cod 147 599 = some (36, 604, 0, 0, 5, []) := rfl
set_option maxRecDepth 20000 in
theorem c147_602 : cod 147 602 = some (1, 0, 0, 0, 0, []) := rfl
set_option maxRecDepth 20000 in
theorem c147_603 : cod 147 603 = some (83, 0, 0, 0, 0, []) := rfl
set_option maxRecDepth 20000 in
theorem c147_604 : cod 147 604 = some (50, 732, 0, 0, 128, []) := rfl
set_option maxRecDepth 20000 in
theorem c147_607 : cod 147 607 = some (8, 1, 0, 0, 0, []) := rfl
set_option maxRecDepth 20000 in
theorem c147_608 : cod 147 608 = some (8, 0, 0, 0, 0, []) := rfl
set_option maxRecDepth 20000 in
theorem c147_609 : cod 147 609 = some (7, 4, 0, 0, 0, []) := rfl
set_option maxRecDepth 20000 in
theorem c147_611 : cod 147 611 = some (1, 0, 0, 0, 1, []) := rfl
set_option maxRecDepth 20000 in
theorem c147_612 : cod 147 612 = some (19, 0, 0, 0, 0, []) := rfl
set_option maxRecDepth 20000 in
theorem c147_613 : cod 147 613 = some (58, 0, 0, 0, 0, []) := rfl
set_option maxRecDepth 20000 in
theorem c147_614 : cod 147 614 = some (8, 3, 0, 0, 0, []) := rfl
set_option maxRecDepth 20000 in
theorem c147_615 : cod 147 615 = some (75, 102, 145, 0, 923, []) := rfl
set_option maxRecDepth 20000 in
theorem c147_618 : cod 147 618 = some (13, 5, 0, 0, 0, []) := rfl
set_option maxRecDepth 20000 in
theorem c147_620 : cod 147 620 = some (8, 2, 0, 0, 0, []) := rfl
set_option maxRecDepth 20000 in
theorem c147_621 : cod 147 621 = some (8, 0, 0, 0, 0, []) := rfl
set_option maxRecDepth 20000 in
theorem c147_622 : cod 147 622 = some (7, 4, 0, 0, 0, []) := rfl
set_option maxRecDepth 20000 in
theorem c147_624 : cod 147 624 = some (1, 0, 0, 0, 1, []) := rfl
set_option maxRecDepth 20000 in
theorem c147_625 : cod 147 625 = some (19, 0, 0, 0, 0, []) := rfl
set_option maxRecDepth 20000 in
theorem c147_626 : cod 147 626 = some (58, 0, 0, 0, 0, []) := rfl
set_option maxRecDepth 20000 in
theorem c147_627 : cod 147 627 = some (72, 104, 129, 0, 1307, []) := rfl
set_option maxRecDepth 20000 in
theorem c147_630 : cod 147 630 = some (13, 6, 0, 0, 0, []) := rfl
set_option maxRecDepth 20000 in
theorem c147_632 : cod 147 632 = some (8, 2, 0, 0, 0, []) := rfl
set_option maxRecDepth 20000 in
theorem c147_633 : cod 147 633 = some (72, 63, 86, 0, 1116, []) := rfl
set_option maxRecDepth 20000 in
theorem c147_636 : cod 147 636 = some (7, 5, 0, 0, 0, []) := rfl
set_option maxRecDepth 20000 in
theorem c147_638 : cod 147 638 = some (42, 643, 0, 0, 5, []) := rfl
set_option maxRecDepth 20000 in
theorem c147_641 : cod 147 641 = some (1, 0, 0, 0, 0, []) := rfl
set_option maxRecDepth 20000 in
theorem c147_642 : cod 147 642 = some (83, 0, 0, 0, 0, []) := rfl
set_option maxRecDepth 20000 in
theorem c147_643 : cod 147 643 = some (7, 5, 0, 0, 0, []) := rfl
set_option maxRecDepth 20000 in
theorem c147_645 : cod 147 645 = some (37, 660, 0, 0, 15, []) := rfl
set_option maxRecDepth 20000 in
theorem c147_648 : cod 147 648 = some (8, 3, 0, 0, 0, []) := rfl
set_option maxRecDepth 20000 in
theorem c147_649 : cod 147 649 = some (1, 0, 0, 0, 0, []) := rfl
set_option maxRecDepth 20000 in
theorem c147_650 : cod 147 650 = some (62, 0, 0, 0, 0, []) := rfl
set_option maxRecDepth 20000 in
theorem c147_651 : cod 147 651 = some (7, 6, 0, 0, 0, []) := rfl
set_option maxRecDepth 20000 in
theorem c147_653 : cod 147 653 = some (25, 0, 0, 0, 0, []) := rfl
set_option maxRecDepth 20000 in
theorem c147_654 : cod 147 654 = some (28, 0, 0, 0, 0, []) := rfl
set_option maxRecDepth 20000 in
theorem c147_655 : cod 147 655 = some (36, 660, 0, 0, 5, []) := rfl
set_option maxRecDepth 20000 in
theorem c147_658 : cod 147 658 = some (1, 0, 0, 0, 0, []) := rfl
set_option maxRecDepth 20000 in
theorem c147_659 : cod 147 659 = some (83, 0, 0, 0, 0, []) := rfl
set_option maxRecDepth 20000 in
theorem c147_660 : cod 147 660 = some (50, 732, 0, 0, 72, []) := rfl
set_option maxRecDepth 20000 in
theorem c147_663 : cod 147 663 = some (8, 1, 0, 0, 0, []) := rfl
set_option maxRecDepth 20000 in
theorem c147_664 : cod 147 664 = some (72, 105, 82, 0, 393, []) := rfl
set_option maxRecDepth 20000 in
theorem c147_667 : cod 147 667 = some (8, 2, 0, 0, 0, []) := rfl
set_option maxRecDepth 20000 in
theorem c147_668 : cod 147 668 = some (72, 108, 135, 0, 1311, []) := rfl
set_option maxRecDepth 20000 in
theorem c147_671 : cod 147 671 = some (42, 732, 0, 0, 61, []) := rfl
set_option maxRecDepth 20000 in
theorem c147_674 : cod 147 674 = some (1, 0, 0, 0, 0, []) := rfl
set_option maxRecDepth 20000 in
theorem c147_675 : cod 147 675 = some (83, 0, 0, 0, 0, []) := rfl
set_option maxRecDepth 20000 in
theorem c147_676 : cod 147 676 = some (8, 1, 0, 0, 0, []) := rfl
set_option maxRecDepth 20000 in
theorem c147_677 : cod 147 677 = some (8, 0, 0, 0, 0, []) := rfl
set_option maxRecDepth 20000 in
theorem c147_678 : cod 147 678 = some (7, 4, 0, 0, 0, []) := rfl
set_option maxRecDepth 20000 in
theorem c147_680 : cod 147 680 = some (1, 0, 0, 0, 1, []) := rfl
set_option maxRecDepth 20000 in
theorem c147_681 : cod 147 681 = some (19, 0, 0, 0, 0, []) := rfl
set_option maxRecDepth 20000 in
theorem c147_682 : cod 147 682 = some (58, 0, 0, 0, 0, []) := rfl
set_option maxRecDepth 20000 in
theorem c147_683 : cod 147 683 = some (8, 3, 0, 0, 0, []) := rfl
set_option maxRecDepth 20000 in
theorem c147_684 : cod 147 684 = some (75, 109, 146, 0, 930, []) := rfl
set_option maxRecDepth 20000 in
theorem c147_687 : cod 147 687 = some (13, 5, 0, 0, 0, []) := rfl
set_option maxRecDepth 20000 in
theorem c147_689 : cod 147 689 = some (8, 2, 0, 0, 0, []) := rfl
set_option maxRecDepth 20000 in
theorem c147_690 : cod 147 690 = some (8, 0, 0, 0, 0, []) := rfl
set_option maxRecDepth 20000 in
theorem c147_691 : cod 147 691 = some (7, 4, 0, 0, 0, []) := rfl
set_option maxRecDepth 20000 in
theorem c147_693 : cod 147 693 = some (1, 0, 0, 0, 1, []) := rfl
set_option maxRecDepth 20000 in
theorem c147_694 : cod 147 694 = some (19, 0, 0, 0, 0, []) := rfl
set_option maxRecDepth 20000 in
theorem c147_695 : cod 147 695 = some (58, 0, 0, 0, 0, []) := rfl
set_option maxRecDepth 20000 in
theorem c147_696 : cod 147 696 = some (72, 111, 136, 0, 1348, []) := rfl
set_option maxRecDepth 20000 in
theorem c147_699 : cod 147 699 = some (13, 6, 0, 0, 0, []) := rfl
set_option maxRecDepth 20000 in
theorem c147_701 : cod 147 701 = some (8, 2, 0, 0, 0, []) := rfl
set_option maxRecDepth 20000 in
theorem c147_702 : cod 147 702 = some (72, 63, 86, 0, 1116, []) := rfl
set_option maxRecDepth 20000 in
theorem c147_705 : cod 147 705 = some (7, 5, 0, 0, 0, []) := rfl
set_option maxRecDepth 20000 in
theorem c147_707 : cod 147 707 = some (42, 712, 0, 0, 5, []) := rfl
set_option maxRecDepth 20000 in
theorem c147_710 : cod 147 710 = some (1, 0, 0, 0, 0, []) := rfl
set_option maxRecDepth 20000 in
theorem c147_711 : cod 147 711 = some (83, 0, 0, 0, 0, []) := rfl
set_option maxRecDepth 20000 in
theorem c147_712 : cod 147 712 = some (7, 5, 0, 0, 0, []) := rfl
set_option maxRecDepth 20000 in
theorem c147_714 : cod 147 714 = some (37, 729, 0, 0, 15, []) := rfl
set_option maxRecDepth 20000 in
theorem c147_717 : cod 147 717 = some (8, 3, 0, 0, 0, []) := rfl
set_option maxRecDepth 20000 in
theorem c147_718 : cod 147 718 = some (1, 0, 0, 0, 0, []) := rfl
set_option maxRecDepth 20000 in
theorem c147_719 : cod 147 719 = some (62, 0, 0, 0, 0, []) := rfl
set_option maxRecDepth 20000 in
theorem c147_720 : cod 147 720 = some (7, 6, 0, 0, 0, []) := rfl
set_option maxRecDepth 20000 in
theorem c147_722 : cod 147 722 = some (25, 0, 0, 0, 0, []) := rfl
set_option maxRecDepth 20000 in
theorem c147_723 : cod 147 723 = some (28, 0, 0, 0, 0, []) := rfl
set_option maxRecDepth 20000 in
theorem c147_724 : cod 147 724 = some (36, 729, 0, 0, 5, []) := rfl
set_option maxRecDepth 20000 in
theorem c147_727 : cod 147 727 = some (1, 0, 0, 0, 0, []) := rfl
set_option maxRecDepth 20000 in
theorem c147_728 : cod 147 728 = some (83, 0, 0, 0, 0, []) := rfl
set_option maxRecDepth 20000 in
theorem c147_729 : cod 147 729 = some (50, 732, 0, 0, 3, []) := rfl
set_option maxRecDepth 20000 in
theorem c147_732 : cod 147 732 = some (18, 4, 0, 0, 3, []) := rfl
set_option maxRecDepth 20000 in
theorem c147_735 : cod 147 735 = some (50, 23, 0, 0, (-712), []) := rfl
set_option maxRecDepth 20000 in
theorem c147_738 : cod 147 738 = some (1, 0, 0, 0, 1, []) := rfl
set_option maxRecDepth 20000 in
theorem c147_739 : cod 147 739 = some (83, 0, 0, 0, 0, []) := rfl
theorem S147_23 {e : En} {I : HI} {D : HD} {Q : En → Int → HI → HD → Prop} {x4 : Int} (he : HS e)
    (h : (-2147483648 ≤ (((e).2.1 : Int) - 3) ∧ (((e).2.1 : Int) - 3) < 2147483648) ∧ (((((e).2.1 : Int) - 3) < x4 → Q e 1 I D) ∧ (¬ ((((e).2.1 : Int) - 3) < x4) → (0 ≤ x4 ∧ x4 < ((e).2.1 : Int)) ∧ (((((e).2.2.1 (x4.toNat)) % 16) = 0 → (-2147483648 ≤ (x4 + 1) ∧ (x4 + 1) < 2147483648) ∧ (0 ≤ (x4 + 1) ∧ (x4 + 1) < ((e).2.1 : Int)) ∧ CY 137 [vR (some 0), vI ((((e).2.2.1 (((x4 + 1) : Int).toNat)) + 128) % 256 - 128)] e I D (fun e8 z5 I6 D7 => (-2147483648 ≤ (x4 + 1) ∧ (x4 + 1) < 2147483648) ∧ (0 ≤ (x4 + 1) ∧ (x4 + 1) < ((e8).2.1 : Int)) ∧ CV 87 [vR (some 312), vI ((((e8).2.2.1 (((x4 + 1) : Int).toNat)) + 128) % 256 - 128)] e8 I6 D7 (fun I12 D13 => CI 86 [vR (some 312)] e8 I12 D13 (fun z14 I15 D16 => ((z14 = z5 → RY 147 732 [vS 100, vR (some 0), vR (some 312), vR (some 341), vI x4, vJ, vJ, vJ] [] e8 I15 D16 Q) ∧ (¬ (z14 = z5) → Q e8 0 I15 D16)))))) ∧ ((((e).2.2.1 (x4.toNat)) % 16) = 1 → CY 138 [vR (some 0), vR (some 341)] e I D (fun e20 z17 I18 D19 => CI 118 [vR (some 312)] e20 I18 D19 (fun z21 I22 D23 => CI 86 [vR (some 312)] e20 I22 D23 (fun z24 I25 D26 => ((z24 = z17 → ((¬ z17 = 0 → RY 147 187 [vS 100, vR (some 0), vR (some 312), vR (some 341), vI x4, vJ, vJ, vJ] [] e20 I25 D26 Q) ∧ (¬ (¬ z17 = 0) → (((if z21 < (I25 341 0) then (1 : Int) else if (I25 341 0) = z21 then 0 else -1) = 0 → RY 147 187 [vS 100, vR (some 0), vR (some 312), vR (some 341), vI x4, vJ, vJ, vJ] [] e20 I25 D26 Q) ∧ (¬ ((if z21 < (I25 341 0) then (1 : Int) else if (I25 341 0) = z21 then 0 else -1) = 0) → Q e20 0 I25 D26))))) ∧ (¬ (z24 = z17) → Q e20 0 I25 D26)))))) ∧ ((((e).2.2.1 (x4.toNat)) % 16) = 2 → (-2147483648 ≤ (x4 + 1) ∧ (x4 + 1) < 2147483648) ∧ (0 ≤ (x4 + 1) ∧ (x4 + 1) < ((e).2.1 : Int)) ∧ (-2147483648 ≤ (x4 + 2) ∧ (x4 + 2) < 2147483648) ∧ (0 ≤ (x4 + 2) ∧ (x4 + 2) < ((e).2.1 : Int)) ∧ CY 139 [vR (some 0), vI ((e).2.2.1 (((x4 + 1) : Int).toNat)), vI ((e).2.2.1 (((x4 + 2) : Int).toNat)), vR (some 341)] e I D (fun e34 z31 I32 D33 => (-2147483648 ≤ (x4 + 1) ∧ (x4 + 1) < 2147483648) ∧ (0 ≤ (x4 + 1) ∧ (x4 + 1) < ((e34).2.1 : Int)) ∧ (-2147483648 ≤ (x4 + 2) ∧ (x4 + 2) < 2147483648) ∧ (0 ≤ (x4 + 2) ∧ (x4 + 2) < ((e34).2.1 : Int)) ∧ CL 120 [vR (some 312), vI ((e34).2.2.1 (((x4 + 1) : Int).toNat)), vI ((e34).2.2.1 (((x4 + 2) : Int).toNat))] e34 I32 D33 (fun z39 I40 D41 => CI 86 [vR (some 312)] e34 I40 D41 (fun z42 I43 D44 => ((z42 = z31 → ((¬ z31 = 0 → RY 147 254 [vS 100, vR (some 0), vR (some 312), vR (some 341), vI x4, vJ, vJ, vJ] [] e34 I43 D44 Q) ∧ (¬ (¬ z31 = 0) → (((if z39 < (I43 341 0) then (1 : Int) else if (I43 341 0) = z39 then 0 else -1) = 0 → RY 147 254 [vS 100, vR (some 0), vR (some 312), vR (some 341), vI x4, vJ, vJ, vJ] [] e34 I43 D44 Q) ∧ (¬ ((if z39 < (I43 341 0) then (1 : Int) else if (I43 341 0) = z39 then 0 else -1) = 0) → Q e34 0 I43 D44))))) ∧ (¬ (z42 = z31) → Q e34 0 I43 D44)))))) ∧ ((((e).2.2.1 (x4.toNat)) % 16) = 3 → (-2147483648 ≤ (x4 + 1) ∧ (x4 + 1) < 2147483648) ∧ (0 ≤ (x4 + 1) ∧ (x4 + 1) < ((e).2.1 : Int)) ∧ (-2147483648 ≤ (x4 + 2) ∧ (x4 + 2) < 2147483648) ∧ (0 ≤ (x4 + 2) ∧ (x4 + 2) < ((e).2.1 : Int)) ∧ CY 140 [vR (some 0), vI ((e).2.2.1 (((x4 + 1) : Int).toNat)), vI ((e).2.2.1 (((x4 + 2) : Int).toNat)), vR (some 341)] e I D (fun e52 z49 I50 D51 => (-2147483648 ≤ (x4 + 1) ∧ (x4 + 1) < 2147483648) ∧ (0 ≤ (x4 + 1) ∧ (x4 + 1) < ((e52).2.1 : Int)) ∧ (-2147483648 ≤ (x4 + 2) ∧ (x4 + 2) < 2147483648) ∧ (0 ≤ (x4 + 2) ∧ (x4 + 2) < ((e52).2.1 : Int)) ∧ CI 121 [vR (some 312), vI ((e52).2.2.1 (((x4 + 1) : Int).toNat)), vI ((e52).2.2.1 (((x4 + 2) : Int).toNat))] e52 I50 D51 (fun z57 I58 D59 => CI 86 [vR (some 312)] e52 I58 D59 (fun z60 I61 D62 => ((z60 = z49 → ((¬ z49 = 0 → RY 147 322 [vS 100, vR (some 0), vR (some 312), vR (some 341), vI x4, vJ, vJ, vJ] [] e52 I61 D62 Q) ∧ (¬ (¬ z49 = 0) → (((if z57 < (I61 341 0) then (1 : Int) else if (I61 341 0) = z57 then 0 else -1) = 0 → RY 147 322 [vS 100, vR (some 0), vR (some 312), vR (some 341), vI x4, vJ, vJ, vJ] [] e52 I61 D62 Q) ∧ (¬ ((if z57 < (I61 341 0) then (1 : Int) else if (I61 341 0) = z57 then 0 else -1) = 0) → Q e52 0 I61 D62))))) ∧ (¬ (z60 = z49) → Q e52 0 I61 D62)))))) ∧ ((((e).2.2.1 (x4.toNat)) % 16) = 4 → CI 74 [vR (some 0)] e I D (fun z63 I64 D65 => CI 122 [vR (some 312)] e I64 D65 (fun z66 I67 D68 => ((z63 = z66 → RY 147 732 [vS 100, vR (some 0), vR (some 312), vR (some 341), vI x4, vJ, vJ, vJ] [] e I67 D68 Q) ∧ (¬ (z63 = z66) → Q e 0 I67 D68))))) ∧ ((((e).2.2.1 (x4.toNat)) % 16) = 5 → CI 75 [vR (some 0)] e I D (fun z69 I70 D71 => CI 123 [vR (some 312)] e I70 D71 (fun z72 I73 D74 => ((z69 = z72 → RY 147 732 [vS 100, vR (some 0), vR (some 312), vR (some 341), vI x4, vJ, vJ, vJ] [] e I73 D74 Q) ∧ (¬ (z69 = z72) → Q e 0 I73 D74))))) ∧ ((((e).2.2.1 (x4.toNat)) % 16) = 6 → (-2147483648 ≤ (x4 + 1) ∧ (x4 + 1) < 2147483648) ∧ (0 ≤ (x4 + 1) ∧ (x4 + 1) < ((e).2.1 : Int)) ∧ CY 141 [vR (some 0), vI ((e).2.2.1 (((x4 + 1) : Int).toNat)), vR (some 341)] e I D (fun e80 z77 I78 D79 => (-2147483648 ≤ (x4 + 1) ∧ (x4 + 1) < 2147483648) ∧ (0 ≤ (x4 + 1) ∧ (x4 + 1) < ((e80).2.1 : Int)) ∧ CI 124 [vR (some 312), vI ((e80).2.2.1 (((x4 + 1) : Int).toNat))] e80 I78 D79 (fun z83 I84 D85 => CI 86 [vR (some 312)] e80 I84 D85 (fun z86 I87 D88 => ((z86 = z77 → ((¬ z77 = 0 → RY 147 404 [vS 100, vR (some 0), vR (some 312), vR (some 341), vI x4, vJ, vJ, vJ] [] e80 I87 D88 Q) ∧ (¬ (¬ z77 = 0) → (((if z83 < (I87 341 0) then (1 : Int) else if (I87 341 0) = z83 then 0 else -1) = 0 → RY 147 404 [vS 100, vR (some 0), vR (some 312), vR (some 341), vI x4, vJ, vJ, vJ] [] e80 I87 D88 Q) ∧ (¬ ((if z83 < (I87 341 0) then (1 : Int) else if (I87 341 0) = z83 then 0 else -1) = 0) → Q e80 0 I87 D88))))) ∧ (¬ (z86 = z77) → Q e80 0 I87 D88)))))) ∧ ((((e).2.2.1 (x4.toNat)) % 16) = 7 → CI 77 [vR (some 0)] e I D (fun z89 I90 D91 => CI 125 [vR (some 312)] e I90 D91 (fun z92 I93 D94 => ((z89 = z92 → RY 147 732 [vS 100, vR (some 0), vR (some 312), vR (some 341), vI x4, vJ, vJ, vJ] [] e I93 D94 Q) ∧ (¬ (z89 = z92) → Q e 0 I93 D94))))) ∧ ((((e).2.2.1 (x4.toNat)) % 16) = 8 → (-2147483648 ≤ (x4 + 1) ∧ (x4 + 1) < 2147483648) ∧ (0 ≤ (x4 + 1) ∧ (x4 + 1) < ((e).2.1 : Int)) ∧ CY 142 [vR (some 0), vI ((e).2.2.1 (((x4 + 1) : Int).toNat)), vR (some 341)] e I D (fun e100 z97 I98 D99 => (-2147483648 ≤ (x4 + 1) ∧ (x4 + 1) < 2147483648) ∧ (0 ≤ (x4 + 1) ∧ (x4 + 1) < ((e100).2.1 : Int)) ∧ CI 126 [vR (some 312), vI ((e100).2.2.1 (((x4 + 1) : Int).toNat))] e100 I98 D99 (fun z103 I104 D105 => CI 86 [vR (some 312)] e100 I104 D105 (fun z106 I107 D108 => ((z106 = z97 → ((¬ z97 = 0 → RY 147 473 [vS 100, vR (some 0), vR (some 312), vR (some 341), vI x4, vJ, vJ, vJ] [] e100 I107 D108 Q) ∧ (¬ (¬ z97 = 0) → (((if z103 < (I107 341 0) then (1 : Int) else if (I107 341 0) = z103 then 0 else -1) = 0 → RY 147 473 [vS 100, vR (some 0), vR (some 312), vR (some 341), vI x4, vJ, vJ, vJ] [] e100 I107 D108 Q) ∧ (¬ ((if z103 < (I107 341 0) then (1 : Int) else if (I107 341 0) = z103 then 0 else -1) = 0) → Q e100 0 I107 D108))))) ∧ (¬ (z106 = z97) → Q e100 0 I107 D108)))))) ∧ ((((e).2.2.1 (x4.toNat)) % 16) = 9 → (-2147483648 ≤ (x4 + 1) ∧ (x4 + 1) < 2147483648) ∧ (0 ≤ (x4 + 1) ∧ (x4 + 1) < ((e).2.1 : Int)) ∧ (-2147483648 ≤ (x4 + 2) ∧ (x4 + 2) < 2147483648) ∧ (0 ≤ (x4 + 2) ∧ (x4 + 2) < ((e).2.1 : Int)) ∧ CY 143 [vR (some 0), vI ((e).2.2.1 (((x4 + 1) : Int).toNat)), vI ((e).2.2.1 (((x4 + 2) : Int).toNat)), vR (some 341)] e I D (fun e116 z113 I114 D115 => (-2147483648 ≤ (x4 + 1) ∧ (x4 + 1) < 2147483648) ∧ (0 ≤ (x4 + 1) ∧ (x4 + 1) < ((e116).2.1 : Int)) ∧ (-2147483648 ≤ (x4 + 2) ∧ (x4 + 2) < 2147483648) ∧ (0 ≤ (x4 + 2) ∧ (x4 + 2) < ((e116).2.1 : Int)) ∧ CI 127 [vR (some 312), vI ((e116).2.2.1 (((x4 + 1) : Int).toNat)), vI ((e116).2.2.1 (((x4 + 2) : Int).toNat))] e116 I114 D115 (fun z121 I122 D123 => CI 86 [vR (some 312)] e116 I122 D123 (fun z124 I125 D126 => ((z124 = z113 → ((¬ z113 = 0 → RY 147 541 [vS 100, vR (some 0), vR (some 312), vR (some 341), vI x4, vJ, vJ, vJ] [] e116 I125 D126 Q) ∧ (¬ (¬ z113 = 0) → (((if z121 < (I125 341 0) then (1 : Int) else if (I125 341 0) = z121 then 0 else -1) = 0 → RY 147 541 [vS 100, vR (some 0), vR (some 312), vR (some 341), vI x4, vJ, vJ, vJ] [] e116 I125 D126 Q) ∧ (¬ ((if z121 < (I125 341 0) then (1 : Int) else if (I125 341 0) = z121 then 0 else -1) = 0) → Q e116 0 I125 D126))))) ∧ (¬ (z124 = z113) → Q e116 0 I125 D126)))))) ∧ ((((e).2.2.1 (x4.toNat)) % 16) = 10 → (-2147483648 ≤ (x4 + 1) ∧ (x4 + 1) < 2147483648) ∧ (0 ≤ (x4 + 1) ∧ (x4 + 1) < ((e).2.1 : Int)) ∧ CY 144 [vR (some 0), vI ((e).2.2.1 (((x4 + 1) : Int).toNat)), vR (some 341)] e I D (fun e132 z129 I130 D131 => (-2147483648 ≤ (x4 + 1) ∧ (x4 + 1) < 2147483648) ∧ (0 ≤ (x4 + 1) ∧ (x4 + 1) < ((e132).2.1 : Int)) ∧ CI 128 [vR (some 312), vI ((e132).2.2.1 (((x4 + 1) : Int).toNat))] e132 I130 D131 (fun z135 I136 D137 => CI 86 [vR (some 312)] e132 I136 D137 (fun z138 I139 D140 => ((z138 = z129 → ((¬ z129 = 0 → RY 147 604 [vS 100, vR (some 0), vR (some 312), vR (some 341), vI x4, vJ, vJ, vJ] [] e132 I139 D140 Q) ∧ (¬ (¬ z129 = 0) → ((z135 = 0 → RY 147 598 [vS 100, vR (some 0), vR (some 312), vR (some 341), vI x4, vJ, vJ, vJ] [vL 0, vL (I139 341 0)] e132 I139 D140 Q) ∧ (¬ (z135 = 0) → RY 147 598 [vS 100, vR (some 0), vR (some 312), vR (some 341), vI x4, vJ, vJ, vJ] [vL 1, vL (I139 341 0)] e132 I139 D140 Q))))) ∧ (¬ (z138 = z129) → Q e132 0 I139 D140)))))) ∧ ((((e).2.2.1 (x4.toNat)) % 16) = 11 → (-2147483648 ≤ (x4 + 1) ∧ (x4 + 1) < 2147483648) ∧ (0 ≤ (x4 + 1) ∧ (x4 + 1) < ((e).2.1 : Int)) ∧ CY 145 [vR (some 0), vI ((e).2.2.1 (((x4 + 1) : Int).toNat)), vR (some 341)] e I D (fun e146 z143 I144 D145 => (-2147483648 ≤ (x4 + 1) ∧ (x4 + 1) < 2147483648) ∧ (0 ≤ (x4 + 1) ∧ (x4 + 1) < ((e146).2.1 : Int)) ∧ CI 129 [vR (some 312), vI ((e146).2.2.1 (((x4 + 1) : Int).toNat))] e146 I144 D145 (fun z149 I150 D151 => CI 86 [vR (some 312)] e146 I150 D151 (fun z152 I153 D154 => ((z152 = z143 → ((¬ z143 = 0 → RY 147 660 [vS 100, vR (some 0), vR (some 312), vR (some 341), vI x4, vJ, vJ, vJ] [] e146 I153 D154 Q) ∧ (¬ (¬ z143 = 0) → (((if z149 < (I153 341 0) then (1 : Int) else if (I153 341 0) = z149 then 0 else -1) = 0 → RY 147 660 [vS 100, vR (some 0), vR (some 312), vR (some 341), vI x4, vJ, vJ, vJ] [] e146 I153 D154 Q) ∧ (¬ ((if z149 < (I153 341 0) then (1 : Int) else if (I153 341 0) = z149 then 0 else -1) = 0) → Q e146 0 I153 D154))))) ∧ (¬ (z152 = z143) → Q e146 0 I153 D154)))))) ∧ ((((e).2.2.1 (x4.toNat)) % 16) = 12 → CI 82 [vR (some 0)] e I D (fun z155 I156 D157 => CI 135 [vR (some 312)] e I156 D157 (fun z158 I159 D160 => ((z155 = z158 → RY 147 732 [vS 100, vR (some 0), vR (some 312), vR (some 341), vI x4, vJ, vJ, vJ] [] e I159 D160 Q) ∧ (¬ (z155 = z158) → Q e 0 I159 D160))))) ∧ ((((e).2.2.1 (x4.toNat)) % 16) = 13 → (-2147483648 ≤ (x4 + 1) ∧ (x4 + 1) < 2147483648) ∧ (0 ≤ (x4 + 1) ∧ (x4 + 1) < ((e).2.1 : Int)) ∧ CY 146 [vR (some 0), vI ((e).2.2.1 (((x4 + 1) : Int).toNat)), vR (some 341)] e I D (fun e166 z163 I164 D165 => (-2147483648 ≤ (x4 + 1) ∧ (x4 + 1) < 2147483648) ∧ (0 ≤ (x4 + 1) ∧ (x4 + 1) < ((e166).2.1 : Int)) ∧ CI 136 [vR (some 312), vI ((e166).2.2.1 (((x4 + 1) : Int).toNat))] e166 I164 D165 (fun z169 I170 D171 => CI 86 [vR (some 312)] e166 I170 D171 (fun z172 I173 D174 => ((z172 = z163 → ((¬ z163 = 0 → RY 147 729 [vS 100, vR (some 0), vR (some 312), vR (some 341), vI x4, vJ, vJ, vJ] [] e166 I173 D174 Q) ∧ (¬ (¬ z163 = 0) → (((if z169 < (I173 341 0) then (1 : Int) else if (I173 341 0) = z169 then 0 else -1) = 0 → RY 147 729 [vS 100, vR (some 0), vR (some 312), vR (some 341), vI x4, vJ, vJ, vJ] [] e166 I173 D174 Q) ∧ (¬ ((if z169 < (I173 341 0) then (1 : Int) else if (I173 341 0) = z169 then 0 else -1) = 0) → Q e166 0 I173 D174))))) ∧ (¬ (z172 = z163) → Q e166 0 I173 D174)))))) ∧ ((((e).2.2.1 (x4.toNat)) % 16) ≠ 0 → (((e).2.2.1 (x4.toNat)) % 16) ≠ 1 → (((e).2.2.1 (x4.toNat)) % 16) ≠ 2 → (((e).2.2.1 (x4.toNat)) % 16) ≠ 3 → (((e).2.2.1 (x4.toNat)) % 16) ≠ 4 → (((e).2.2.1 (x4.toNat)) % 16) ≠ 5 → (((e).2.2.1 (x4.toNat)) % 16) ≠ 6 → (((e).2.2.1 (x4.toNat)) % 16) ≠ 7 → (((e).2.2.1 (x4.toNat)) % 16) ≠ 8 → (((e).2.2.1 (x4.toNat)) % 16) ≠ 9 → (((e).2.2.1 (x4.toNat)) % 16) ≠ 10 → (((e).2.2.1 (x4.toNat)) % 16) ≠ 11 → (((e).2.2.1 (x4.toNat)) % 16) ≠ 12 → (((e).2.2.1 (x4.toNat)) % 16) ≠ 13 → RY 147 732 [vS 100, vR (some 0), vR (some 312), vR (some 341), vI x4, vJ, vJ, vJ] [] e I D Q))))) :
    RY 147 23 [vS 100, vR (some 0), vR (some 312), vR (some 341), vI x4, vJ, vJ, vJ] [] e I D Q := by
  show Run 147 23 [vS 100, vR (some 0), vR (some 312), vR (some 341), vI x4, vJ, vJ, vJ] [] (mk e I D) (pY Q)
  refine R_iload (pc' := 25) c147_23 rfl rfl ?_
  refine R_aload_nS (pc' := 26) c147_25 rfl rfl ?_
  refine K_slen (pc' := 27) c147_26 rfl ?_
  refine R_iconst (pc' := 28) c147_27 rfl ?_
  have g1 := h.1
  replace h := h.2
  refine R_isub (pc' := 29) c147_28 rfl g1 ?_
  refine R_icgt (pc' := 32) c147_29 rfl (fun hc => ?_) (fun hc => ?_)
  · replace h := h.1 hc
    refine R_iconst (pc' := 739) c147_738 rfl ?_
    exact R_zret c147_739 rfl (Or.inr rfl) ⟨_, _, _, _, rfl, rfl, h⟩
  · replace h := h.2 hc
    refine R_aload_nS (pc' := 33) c147_32 rfl rfl ?_
    refine R_iload (pc' := 35) c147_33 rfl rfl ?_
    have g2 := h.1
    replace h := h.2
    refine K_sald (pc' := 36) c147_35 rfl g2.1 g2.2 ?_
    refine R_bipush (pc' := 38) c147_36 rfl ?_
    refine R_iand15 (pc' := 39) c147_38 rfl ?_
    by_cases c0 : (((e).2.2.1 (x4.toNat)) % 16) = 0
    · replace h := h.1 c0
      refine R_tsw (pc' := 108) c147_39 (by rw [c0]; rfl) ?_
      refine R_aload_n (pc' := 109) c147_108 rfl rfl ?_
      refine R_aload_nS (pc' := 110) c147_109 rfl rfl ?_
      refine R_iload (pc' := 112) c147_110 rfl rfl ?_
      refine R_iconst (pc' := 113) c147_112 rfl ?_
      have g3 := h.1
      replace h := h.2
      refine R_iadd (pc' := 114) c147_113 rfl g3 ?_
      have g4 := h.1
      replace h := h.2
      refine K_sald (pc' := 115) c147_114 rfl g4.1 g4.2 ?_
      refine R_i2b (pc' := 116) c147_115 rfl ?_
      refine KY_st (as := [vR (some 0), vI ((((e).2.2.1 (((x4 + 1) : Int).toNat)) + 128) % 256 - 128)]) (rest := []) (pc' := 119) c147_116 rfl rfl (Nat.le_of_ble_eq_true rfl) rfl (CY_mono h ?_)
      intro e8 z5 I6 D7 h
      refine R_istore (ls' := [vS 100, vR (some 0), vR (some 312), vR (some 341), vI x4, vI z5, vJ, vJ]) (pc' := 121) c147_119 rfl rfl ?_
      refine R_aload_n (pc' := 122) c147_121 rfl rfl ?_
      refine R_aload_nS (pc' := 123) c147_122 rfl rfl ?_
      refine R_iload (pc' := 125) c147_123 rfl rfl ?_
      refine R_iconst (pc' := 126) c147_125 rfl ?_
      have g9 := h.1
      replace h := h.2
      refine R_iadd (pc' := 127) c147_126 rfl g9 ?_
      have g10 := h.1
      replace h := h.2
      refine K_sald (pc' := 128) c147_127 rfl g10.1 g10.2 ?_
      refine R_i2b (pc' := 129) c147_128 rfl ?_
      refine KV_iv (as := [vI ((((e8).2.2.1 (((x4 + 1) : Int).toNat)) + 128) % 256 - 128)]) (rest := []) (pc' := 132) c147_129 rfl rfl rfl rfl (Nat.le_of_ble_eq_true rfl) rfl (CV_mono h ?_)
      intro I12 D13 h
      refine R_aload_n (pc' := 133) c147_132 rfl rfl ?_
      refine KI_iv (as := []) (rest := []) (pc' := 136) c147_133 rfl rfl rfl rfl (Nat.le_of_ble_eq_true rfl) rfl (CI_mono h ?_)
      intro z14 I15 D16 h
      refine R_iload (pc' := 138) c147_136 rfl rfl ?_
      refine R_iceq (pc' := 141) c147_138 rfl (fun hc => ?_) (fun hc => ?_)
      · replace h := h.1 hc
        refine R_goto c147_143 ?_
        exact R_forget (ls' := [vS 100, vR (some 0), vR (some 312), vR (some 341), vI x4, vJ, vJ, vJ]) ⟨Or.inl rfl, Or.inl rfl, Or.inl rfl, Or.inl rfl, Or.inl rfl, Or.inr rfl, Or.inl rfl, Or.inl rfl, trivial⟩ h
      · replace h := h.2 hc
        refine R_iconst (pc' := 142) c147_141 rfl ?_
        exact R_zret c147_142 rfl (Or.inl rfl) ⟨_, _, _, _, rfl, rfl, h⟩
    replace h := h.2
    by_cases c1 : (((e).2.2.1 (x4.toNat)) % 16) = 1
    · replace h := h.1 c1
      refine R_tsw (pc' := 146) c147_39 (by rw [c1]; rfl) ?_
      refine R_aload_n (pc' := 147) c147_146 rfl rfl ?_
      refine R_aload_n (pc' := 148) c147_147 rfl rfl ?_
      refine KY_st (as := [vR (some 0), vR (some 341)]) (rest := []) (pc' := 151) c147_148 rfl rfl (Nat.le_of_ble_eq_true rfl) rfl (CY_mono h ?_)
      intro e20 z17 I18 D19 h
      refine R_istore (ls' := [vS 100, vR (some 0), vR (some 312), vR (some 341), vI x4, vI z17, vJ, vJ]) (pc' := 153) c147_151 rfl rfl ?_
      refine R_aload_n (pc' := 154) c147_153 rfl rfl ?_
      refine KI_iv (as := []) (rest := []) (pc' := 157) c147_154 rfl rfl rfl rfl (Nat.le_of_ble_eq_true rfl) rfl (CI_mono h ?_)
      intro z21 I22 D23 h
      refine R_istore (ls' := [vS 100, vR (some 0), vR (some 312), vR (some 341), vI x4, vI z17, vI z21, vJ]) (pc' := 159) c147_157 rfl rfl ?_
      refine R_aload_n (pc' := 160) c147_159 rfl rfl ?_
      refine KI_iv (as := []) (rest := []) (pc' := 163) c147_160 rfl rfl rfl rfl (Nat.le_of_ble_eq_true rfl) rfl (CI_mono h ?_)
      intro z24 I25 D26 h
      refine R_iload (pc' := 165) c147_163 rfl rfl ?_
      refine R_iceq (pc' := 168) c147_165 rfl (fun hc => ?_) (fun hc => ?_)
      · replace h := h.1 hc
        refine R_iload (pc' := 172) c147_170 rfl rfl ?_
        refine R_ifne (pc' := 175) c147_172 rfl (fun hc => ?_) (fun hc => ?_)
        · replace h := h.1 hc
          exact R_forget (ls' := [vS 100, vR (some 0), vR (some 312), vR (some 341), vI x4, vJ, vJ, vJ]) ⟨Or.inl rfl, Or.inl rfl, Or.inl rfl, Or.inl rfl, Or.inl rfl, Or.inr rfl, Or.inr rfl, Or.inl rfl, trivial⟩ h
        · replace h := h.2 hc
          refine R_aload_n (pc' := 176) c147_175 rfl rfl ?_
          refine R_iconst (pc' := 177) c147_176 rfl ?_
          refine K_lald (pc' := 178) c147_177 rfl rfl (by decide) (by decide) rfl ?_
          refine R_iload (pc' := 180) c147_178 rfl rfl ?_
          refine R_i2l (pc' := 181) c147_180 rfl ?_
          refine R_lcmp (pc' := 182) c147_181 rfl ?_
          refine R_ifeq (pc' := 185) c147_182 rfl (fun hc => ?_) (fun hc => ?_)
          · replace h := h.1 hc
            exact R_forget (ls' := [vS 100, vR (some 0), vR (some 312), vR (some 341), vI x4, vJ, vJ, vJ]) ⟨Or.inl rfl, Or.inl rfl, Or.inl rfl, Or.inl rfl, Or.inl rfl, Or.inr rfl, Or.inr rfl, Or.inl rfl, trivial⟩ h
          · replace h := h.2 hc
            refine R_iconst (pc' := 186) c147_185 rfl ?_
            exact R_zret c147_186 rfl (Or.inl rfl) ⟨_, _, _, _, rfl, rfl, h⟩
      · replace h := h.2 hc
        refine R_iconst (pc' := 169) c147_168 rfl ?_
        exact R_zret c147_169 rfl (Or.inl rfl) ⟨_, _, _, _, rfl, rfl, h⟩
    replace h := h.2
    by_cases c2 : (((e).2.2.1 (x4.toNat)) % 16) = 2
    · replace h := h.1 c2
      refine R_tsw (pc' := 190) c147_39 (by rw [c2]; rfl) ?_
      refine R_aload_n (pc' := 191) c147_190 rfl rfl ?_
      refine R_aload_nS (pc' := 192) c147_191 rfl rfl ?_
      refine R_iload (pc' := 194) c147_192 rfl rfl ?_
      refine R_iconst (pc' := 195) c147_194 rfl ?_
      have g27 := h.1
      replace h := h.2
      refine R_iadd (pc' := 196) c147_195 rfl g27 ?_
      have g28 := h.1
      replace h := h.2
      refine K_sald (pc' := 197) c147_196 rfl g28.1 g28.2 ?_
      refine R_aload_nS (pc' := 198) c147_197 rfl rfl ?_
      refine R_iload (pc' := 200) c147_198 rfl rfl ?_
      refine R_iconst (pc' := 201) c147_200 rfl ?_
      have g29 := h.1
      replace h := h.2
      refine R_iadd (pc' := 202) c147_201 rfl g29 ?_
      have g30 := h.1
      replace h := h.2
      refine K_sald (pc' := 203) c147_202 rfl g30.1 g30.2 ?_
      refine R_aload_n (pc' := 204) c147_203 rfl rfl ?_
      refine KY_st (as := [vR (some 0), vI ((e).2.2.1 (((x4 + 1) : Int).toNat)), vI ((e).2.2.1 (((x4 + 2) : Int).toNat)), vR (some 341)]) (rest := []) (pc' := 207) c147_204 rfl rfl (Nat.le_of_ble_eq_true rfl) rfl (CY_mono h ?_)
      intro e34 z31 I32 D33 h
      refine R_istore (ls' := [vS 100, vR (some 0), vR (some 312), vR (some 341), vI x4, vI z31, vJ, vJ]) (pc' := 209) c147_207 rfl rfl ?_
      refine R_aload_n (pc' := 210) c147_209 rfl rfl ?_
      refine R_aload_nS (pc' := 211) c147_210 rfl rfl ?_
      refine R_iload (pc' := 213) c147_211 rfl rfl ?_
      refine R_iconst (pc' := 214) c147_213 rfl ?_
      have g35 := h.1
      replace h := h.2
      refine R_iadd (pc' := 215) c147_214 rfl g35 ?_
      have g36 := h.1
      replace h := h.2
      refine K_sald (pc' := 216) c147_215 rfl g36.1 g36.2 ?_
      refine R_aload_nS (pc' := 217) c147_216 rfl rfl ?_
      refine R_iload (pc' := 219) c147_217 rfl rfl ?_
      refine R_iconst (pc' := 220) c147_219 rfl ?_
      have g37 := h.1
      replace h := h.2
      refine R_iadd (pc' := 221) c147_220 rfl g37 ?_
      have g38 := h.1
      replace h := h.2
      refine K_sald (pc' := 222) c147_221 rfl g38.1 g38.2 ?_
      refine KL_iv (as := [vI ((e34).2.2.1 (((x4 + 1) : Int).toNat)), vI ((e34).2.2.1 (((x4 + 2) : Int).toNat))]) (rest := []) (pc' := 225) c147_222 rfl rfl rfl rfl (Nat.le_of_ble_eq_true rfl) rfl (CL_mono h ?_)
      intro z39 I40 D41 h
      refine R_lstore (ls' := [vS 100, vR (some 0), vR (some 312), vR (some 341), vI x4, vI z31, vL z39, vJ]) (pc' := 227) c147_225 rfl rfl ?_
      refine R_aload_n (pc' := 228) c147_227 rfl rfl ?_
      refine KI_iv (as := []) (rest := []) (pc' := 231) c147_228 rfl rfl rfl rfl (Nat.le_of_ble_eq_true rfl) rfl (CI_mono h ?_)
      intro z42 I43 D44 h
      refine R_iload (pc' := 233) c147_231 rfl rfl ?_
      refine R_iceq (pc' := 236) c147_233 rfl (fun hc => ?_) (fun hc => ?_)
      · replace h := h.1 hc
        refine R_iload (pc' := 240) c147_238 rfl rfl ?_
        refine R_ifne (pc' := 243) c147_240 rfl (fun hc => ?_) (fun hc => ?_)
        · replace h := h.1 hc
          exact R_forget (ls' := [vS 100, vR (some 0), vR (some 312), vR (some 341), vI x4, vJ, vJ, vJ]) ⟨Or.inl rfl, Or.inl rfl, Or.inl rfl, Or.inl rfl, Or.inl rfl, Or.inr rfl, Or.inr rfl, Or.inl rfl, trivial⟩ h
        · replace h := h.2 hc
          refine R_aload_n (pc' := 244) c147_243 rfl rfl ?_
          refine R_iconst (pc' := 245) c147_244 rfl ?_
          refine K_lald (pc' := 246) c147_245 rfl rfl (by decide) (by decide) rfl ?_
          refine R_lload (pc' := 248) c147_246 rfl rfl ?_
          refine R_lcmp (pc' := 249) c147_248 rfl ?_
          refine R_ifeq (pc' := 252) c147_249 rfl (fun hc => ?_) (fun hc => ?_)
          · replace h := h.1 hc
            exact R_forget (ls' := [vS 100, vR (some 0), vR (some 312), vR (some 341), vI x4, vJ, vJ, vJ]) ⟨Or.inl rfl, Or.inl rfl, Or.inl rfl, Or.inl rfl, Or.inl rfl, Or.inr rfl, Or.inr rfl, Or.inl rfl, trivial⟩ h
          · replace h := h.2 hc
            refine R_iconst (pc' := 253) c147_252 rfl ?_
            exact R_zret c147_253 rfl (Or.inl rfl) ⟨_, _, _, _, rfl, rfl, h⟩
      · replace h := h.2 hc
        refine R_iconst (pc' := 237) c147_236 rfl ?_
        exact R_zret c147_237 rfl (Or.inl rfl) ⟨_, _, _, _, rfl, rfl, h⟩
    replace h := h.2
    by_cases c3 : (((e).2.2.1 (x4.toNat)) % 16) = 3
    · replace h := h.1 c3
      refine R_tsw (pc' := 257) c147_39 (by rw [c3]; rfl) ?_
      refine R_aload_n (pc' := 258) c147_257 rfl rfl ?_
      refine R_aload_nS (pc' := 259) c147_258 rfl rfl ?_
      refine R_iload (pc' := 261) c147_259 rfl rfl ?_
      refine R_iconst (pc' := 262) c147_261 rfl ?_
      have g45 := h.1
      replace h := h.2
      refine R_iadd (pc' := 263) c147_262 rfl g45 ?_
      have g46 := h.1
      replace h := h.2
      refine K_sald (pc' := 264) c147_263 rfl g46.1 g46.2 ?_
      refine R_aload_nS (pc' := 265) c147_264 rfl rfl ?_
      refine R_iload (pc' := 267) c147_265 rfl rfl ?_
      refine R_iconst (pc' := 268) c147_267 rfl ?_
      have g47 := h.1
      replace h := h.2
      refine R_iadd (pc' := 269) c147_268 rfl g47 ?_
      have g48 := h.1
      replace h := h.2
      refine K_sald (pc' := 270) c147_269 rfl g48.1 g48.2 ?_
      refine R_aload_n (pc' := 271) c147_270 rfl rfl ?_
      refine KY_st (as := [vR (some 0), vI ((e).2.2.1 (((x4 + 1) : Int).toNat)), vI ((e).2.2.1 (((x4 + 2) : Int).toNat)), vR (some 341)]) (rest := []) (pc' := 274) c147_271 rfl rfl (Nat.le_of_ble_eq_true rfl) rfl (CY_mono h ?_)
      intro e52 z49 I50 D51 h
      refine R_istore (ls' := [vS 100, vR (some 0), vR (some 312), vR (some 341), vI x4, vI z49, vJ, vJ]) (pc' := 276) c147_274 rfl rfl ?_
      refine R_aload_n (pc' := 277) c147_276 rfl rfl ?_
      refine R_aload_nS (pc' := 278) c147_277 rfl rfl ?_
      refine R_iload (pc' := 280) c147_278 rfl rfl ?_
      refine R_iconst (pc' := 281) c147_280 rfl ?_
      have g53 := h.1
      replace h := h.2
      refine R_iadd (pc' := 282) c147_281 rfl g53 ?_
      have g54 := h.1
      replace h := h.2
      refine K_sald (pc' := 283) c147_282 rfl g54.1 g54.2 ?_
      refine R_aload_nS (pc' := 284) c147_283 rfl rfl ?_
      refine R_iload (pc' := 286) c147_284 rfl rfl ?_
      refine R_iconst (pc' := 287) c147_286 rfl ?_
      have g55 := h.1
      replace h := h.2
      refine R_iadd (pc' := 288) c147_287 rfl g55 ?_
      have g56 := h.1
      replace h := h.2
      refine K_sald (pc' := 289) c147_288 rfl g56.1 g56.2 ?_
      refine KI_iv (as := [vI ((e52).2.2.1 (((x4 + 1) : Int).toNat)), vI ((e52).2.2.1 (((x4 + 2) : Int).toNat))]) (rest := []) (pc' := 292) c147_289 rfl rfl rfl rfl (Nat.le_of_ble_eq_true rfl) rfl (CI_mono h ?_)
      intro z57 I58 D59 h
      refine R_istore (ls' := [vS 100, vR (some 0), vR (some 312), vR (some 341), vI x4, vI z49, vI z57, vJ]) (pc' := 294) c147_292 rfl rfl ?_
      refine R_aload_n (pc' := 295) c147_294 rfl rfl ?_
      refine KI_iv (as := []) (rest := []) (pc' := 298) c147_295 rfl rfl rfl rfl (Nat.le_of_ble_eq_true rfl) rfl (CI_mono h ?_)
      intro z60 I61 D62 h
      refine R_iload (pc' := 300) c147_298 rfl rfl ?_
      refine R_iceq (pc' := 303) c147_300 rfl (fun hc => ?_) (fun hc => ?_)
      · replace h := h.1 hc
        refine R_iload (pc' := 307) c147_305 rfl rfl ?_
        refine R_ifne (pc' := 310) c147_307 rfl (fun hc => ?_) (fun hc => ?_)
        · replace h := h.1 hc
          exact R_forget (ls' := [vS 100, vR (some 0), vR (some 312), vR (some 341), vI x4, vJ, vJ, vJ]) ⟨Or.inl rfl, Or.inl rfl, Or.inl rfl, Or.inl rfl, Or.inl rfl, Or.inr rfl, Or.inr rfl, Or.inl rfl, trivial⟩ h
        · replace h := h.2 hc
          refine R_aload_n (pc' := 311) c147_310 rfl rfl ?_
          refine R_iconst (pc' := 312) c147_311 rfl ?_
          refine K_lald (pc' := 313) c147_312 rfl rfl (by decide) (by decide) rfl ?_
          refine R_iload (pc' := 315) c147_313 rfl rfl ?_
          refine R_i2l (pc' := 316) c147_315 rfl ?_
          refine R_lcmp (pc' := 317) c147_316 rfl ?_
          refine R_ifeq (pc' := 320) c147_317 rfl (fun hc => ?_) (fun hc => ?_)
          · replace h := h.1 hc
            exact R_forget (ls' := [vS 100, vR (some 0), vR (some 312), vR (some 341), vI x4, vJ, vJ, vJ]) ⟨Or.inl rfl, Or.inl rfl, Or.inl rfl, Or.inl rfl, Or.inl rfl, Or.inr rfl, Or.inr rfl, Or.inl rfl, trivial⟩ h
          · replace h := h.2 hc
            refine R_iconst (pc' := 321) c147_320 rfl ?_
            exact R_zret c147_321 rfl (Or.inl rfl) ⟨_, _, _, _, rfl, rfl, h⟩
      · replace h := h.2 hc
        refine R_iconst (pc' := 304) c147_303 rfl ?_
        exact R_zret c147_304 rfl (Or.inl rfl) ⟨_, _, _, _, rfl, rfl, h⟩
    replace h := h.2
    by_cases c4 : (((e).2.2.1 (x4.toNat)) % 16) = 4
    · replace h := h.1 c4
      refine R_tsw (pc' := 325) c147_39 (by rw [c4]; rfl) ?_
      refine R_aload_n (pc' := 326) c147_325 rfl rfl ?_
      refine KI_iv (as := []) (rest := []) (pc' := 329) c147_326 rfl rfl rfl rfl (Nat.le_of_ble_eq_true rfl) rfl (CI_mono h ?_)
      intro z63 I64 D65 h
      refine R_aload_n (pc' := 330) c147_329 rfl rfl ?_
      refine KI_iv (as := []) (rest := [vI z63]) (pc' := 333) c147_330 rfl rfl rfl rfl (Nat.le_of_ble_eq_true rfl) rfl (CI_mono h ?_)
      intro z66 I67 D68 h
      refine R_iceq (pc' := 336) c147_333 rfl (fun hc => ?_) (fun hc => ?_)
      · replace h := h.1 hc
        exact h
      · replace h := h.2 hc
        refine R_iconst (pc' := 337) c147_336 rfl ?_
        exact R_zret c147_337 rfl (Or.inl rfl) ⟨_, _, _, _, rfl, rfl, h⟩
    replace h := h.2
    by_cases c5 : (((e).2.2.1 (x4.toNat)) % 16) = 5
    · replace h := h.1 c5
      refine R_tsw (pc' := 338) c147_39 (by rw [c5]; rfl) ?_
      refine R_aload_n (pc' := 339) c147_338 rfl rfl ?_
      refine KI_iv (as := []) (rest := []) (pc' := 342) c147_339 rfl rfl rfl rfl (Nat.le_of_ble_eq_true rfl) rfl (CI_mono h ?_)
      intro z69 I70 D71 h
      refine R_aload_n (pc' := 343) c147_342 rfl rfl ?_
      refine KI_iv (as := []) (rest := [vI z69]) (pc' := 346) c147_343 rfl rfl rfl rfl (Nat.le_of_ble_eq_true rfl) rfl (CI_mono h ?_)
      intro z72 I73 D74 h
      refine R_iceq (pc' := 349) c147_346 rfl (fun hc => ?_) (fun hc => ?_)
      · replace h := h.1 hc
        exact h
      · replace h := h.2 hc
        refine R_iconst (pc' := 350) c147_349 rfl ?_
        exact R_zret c147_350 rfl (Or.inl rfl) ⟨_, _, _, _, rfl, rfl, h⟩
    replace h := h.2
    by_cases c6 : (((e).2.2.1 (x4.toNat)) % 16) = 6
    · replace h := h.1 c6
      refine R_tsw (pc' := 351) c147_39 (by rw [c6]; rfl) ?_
      refine R_aload_n (pc' := 352) c147_351 rfl rfl ?_
      refine R_aload_nS (pc' := 353) c147_352 rfl rfl ?_
      refine R_iload (pc' := 355) c147_353 rfl rfl ?_
      refine R_iconst (pc' := 356) c147_355 rfl ?_
      have g75 := h.1
      replace h := h.2
      refine R_iadd (pc' := 357) c147_356 rfl g75 ?_
      have g76 := h.1
      replace h := h.2
      refine K_sald (pc' := 358) c147_357 rfl g76.1 g76.2 ?_
      refine R_aload_n (pc' := 359) c147_358 rfl rfl ?_
      refine KY_st (as := [vR (some 0), vI ((e).2.2.1 (((x4 + 1) : Int).toNat)), vR (some 341)]) (rest := []) (pc' := 362) c147_359 rfl rfl (Nat.le_of_ble_eq_true rfl) rfl (CY_mono h ?_)
      intro e80 z77 I78 D79 h
      refine R_istore (ls' := [vS 100, vR (some 0), vR (some 312), vR (some 341), vI x4, vI z77, vJ, vJ]) (pc' := 364) c147_362 rfl rfl ?_
      refine R_aload_n (pc' := 365) c147_364 rfl rfl ?_
      refine R_aload_nS (pc' := 366) c147_365 rfl rfl ?_
      refine R_iload (pc' := 368) c147_366 rfl rfl ?_
      refine R_iconst (pc' := 369) c147_368 rfl ?_
      have g81 := h.1
      replace h := h.2
      refine R_iadd (pc' := 370) c147_369 rfl g81 ?_
      have g82 := h.1
      replace h := h.2
      refine K_sald (pc' := 371) c147_370 rfl g82.1 g82.2 ?_
      refine KI_iv (as := [vI ((e80).2.2.1 (((x4 + 1) : Int).toNat))]) (rest := []) (pc' := 374) c147_371 rfl rfl rfl rfl (Nat.le_of_ble_eq_true rfl) rfl (CI_mono h ?_)
      intro z83 I84 D85 h
      refine R_istore (ls' := [vS 100, vR (some 0), vR (some 312), vR (some 341), vI x4, vI z77, vI z83, vJ]) (pc' := 376) c147_374 rfl rfl ?_
      refine R_aload_n (pc' := 377) c147_376 rfl rfl ?_
      refine KI_iv (as := []) (rest := []) (pc' := 380) c147_377 rfl rfl rfl rfl (Nat.le_of_ble_eq_true rfl) rfl (CI_mono h ?_)
      intro z86 I87 D88 h
      refine R_iload (pc' := 382) c147_380 rfl rfl ?_
      refine R_iceq (pc' := 385) c147_382 rfl (fun hc => ?_) (fun hc => ?_)
      · replace h := h.1 hc
        refine R_iload (pc' := 389) c147_387 rfl rfl ?_
        refine R_ifne (pc' := 392) c147_389 rfl (fun hc => ?_) (fun hc => ?_)
        · replace h := h.1 hc
          exact R_forget (ls' := [vS 100, vR (some 0), vR (some 312), vR (some 341), vI x4, vJ, vJ, vJ]) ⟨Or.inl rfl, Or.inl rfl, Or.inl rfl, Or.inl rfl, Or.inl rfl, Or.inr rfl, Or.inr rfl, Or.inl rfl, trivial⟩ h
        · replace h := h.2 hc
          refine R_aload_n (pc' := 393) c147_392 rfl rfl ?_
          refine R_iconst (pc' := 394) c147_393 rfl ?_
          refine K_lald (pc' := 395) c147_394 rfl rfl (by decide) (by decide) rfl ?_
          refine R_iload (pc' := 397) c147_395 rfl rfl ?_
          refine R_i2l (pc' := 398) c147_397 rfl ?_
          refine R_lcmp (pc' := 399) c147_398 rfl ?_
          refine R_ifeq (pc' := 402) c147_399 rfl (fun hc => ?_) (fun hc => ?_)
          · replace h := h.1 hc
            exact R_forget (ls' := [vS 100, vR (some 0), vR (some 312), vR (some 341), vI x4, vJ, vJ, vJ]) ⟨Or.inl rfl, Or.inl rfl, Or.inl rfl, Or.inl rfl, Or.inl rfl, Or.inr rfl, Or.inr rfl, Or.inl rfl, trivial⟩ h
          · replace h := h.2 hc
            refine R_iconst (pc' := 403) c147_402 rfl ?_
            exact R_zret c147_403 rfl (Or.inl rfl) ⟨_, _, _, _, rfl, rfl, h⟩
      · replace h := h.2 hc
        refine R_iconst (pc' := 386) c147_385 rfl ?_
        exact R_zret c147_386 rfl (Or.inl rfl) ⟨_, _, _, _, rfl, rfl, h⟩
    replace h := h.2
    by_cases c7 : (((e).2.2.1 (x4.toNat)) % 16) = 7
    · replace h := h.1 c7
      refine R_tsw (pc' := 407) c147_39 (by rw [c7]; rfl) ?_
      refine R_aload_n (pc' := 408) c147_407 rfl rfl ?_
      refine KI_iv (as := []) (rest := []) (pc' := 411) c147_408 rfl rfl rfl rfl (Nat.le_of_ble_eq_true rfl) rfl (CI_mono h ?_)
      intro z89 I90 D91 h
      refine R_aload_n (pc' := 412) c147_411 rfl rfl ?_
      refine KI_iv (as := []) (rest := [vI z89]) (pc' := 415) c147_412 rfl rfl rfl rfl (Nat.le_of_ble_eq_true rfl) rfl (CI_mono h ?_)
      intro z92 I93 D94 h
      refine R_iceq (pc' := 418) c147_415 rfl (fun hc => ?_) (fun hc => ?_)
      · replace h := h.1 hc
        exact h
      · replace h := h.2 hc
        refine R_iconst (pc' := 419) c147_418 rfl ?_
        exact R_zret c147_419 rfl (Or.inl rfl) ⟨_, _, _, _, rfl, rfl, h⟩
    replace h := h.2
    by_cases c8 : (((e).2.2.1 (x4.toNat)) % 16) = 8
    · replace h := h.1 c8
      refine R_tsw (pc' := 420) c147_39 (by rw [c8]; rfl) ?_
      refine R_aload_n (pc' := 421) c147_420 rfl rfl ?_
      refine R_aload_nS (pc' := 422) c147_421 rfl rfl ?_
      refine R_iload (pc' := 424) c147_422 rfl rfl ?_
      refine R_iconst (pc' := 425) c147_424 rfl ?_
      have g95 := h.1
      replace h := h.2
      refine R_iadd (pc' := 426) c147_425 rfl g95 ?_
      have g96 := h.1
      replace h := h.2
      refine K_sald (pc' := 427) c147_426 rfl g96.1 g96.2 ?_
      refine R_aload_n (pc' := 428) c147_427 rfl rfl ?_
      refine KY_st (as := [vR (some 0), vI ((e).2.2.1 (((x4 + 1) : Int).toNat)), vR (some 341)]) (rest := []) (pc' := 431) c147_428 rfl rfl (Nat.le_of_ble_eq_true rfl) rfl (CY_mono h ?_)
      intro e100 z97 I98 D99 h
      refine R_istore (ls' := [vS 100, vR (some 0), vR (some 312), vR (some 341), vI x4, vI z97, vJ, vJ]) (pc' := 433) c147_431 rfl rfl ?_
      refine R_aload_n (pc' := 434) c147_433 rfl rfl ?_
      refine R_aload_nS (pc' := 435) c147_434 rfl rfl ?_
      refine R_iload (pc' := 437) c147_435 rfl rfl ?_
      refine R_iconst (pc' := 438) c147_437 rfl ?_
      have g101 := h.1
      replace h := h.2
      refine R_iadd (pc' := 439) c147_438 rfl g101 ?_
      have g102 := h.1
      replace h := h.2
      refine K_sald (pc' := 440) c147_439 rfl g102.1 g102.2 ?_
      refine KI_iv (as := [vI ((e100).2.2.1 (((x4 + 1) : Int).toNat))]) (rest := []) (pc' := 443) c147_440 rfl rfl rfl rfl (Nat.le_of_ble_eq_true rfl) rfl (CI_mono h ?_)
      intro z103 I104 D105 h
      refine R_istore (ls' := [vS 100, vR (some 0), vR (some 312), vR (some 341), vI x4, vI z97, vI z103, vJ]) (pc' := 445) c147_443 rfl rfl ?_
      refine R_aload_n (pc' := 446) c147_445 rfl rfl ?_
      refine KI_iv (as := []) (rest := []) (pc' := 449) c147_446 rfl rfl rfl rfl (Nat.le_of_ble_eq_true rfl) rfl (CI_mono h ?_)
      intro z106 I107 D108 h
      refine R_iload (pc' := 451) c147_449 rfl rfl ?_
      refine R_iceq (pc' := 454) c147_451 rfl (fun hc => ?_) (fun hc => ?_)
      · replace h := h.1 hc
        refine R_iload (pc' := 458) c147_456 rfl rfl ?_
        refine R_ifne (pc' := 461) c147_458 rfl (fun hc => ?_) (fun hc => ?_)
        · replace h := h.1 hc
          exact R_forget (ls' := [vS 100, vR (some 0), vR (some 312), vR (some 341), vI x4, vJ, vJ, vJ]) ⟨Or.inl rfl, Or.inl rfl, Or.inl rfl, Or.inl rfl, Or.inl rfl, Or.inr rfl, Or.inr rfl, Or.inl rfl, trivial⟩ h
        · replace h := h.2 hc
          refine R_aload_n (pc' := 462) c147_461 rfl rfl ?_
          refine R_iconst (pc' := 463) c147_462 rfl ?_
          refine K_lald (pc' := 464) c147_463 rfl rfl (by decide) (by decide) rfl ?_
          refine R_iload (pc' := 466) c147_464 rfl rfl ?_
          refine R_i2l (pc' := 467) c147_466 rfl ?_
          refine R_lcmp (pc' := 468) c147_467 rfl ?_
          refine R_ifeq (pc' := 471) c147_468 rfl (fun hc => ?_) (fun hc => ?_)
          · replace h := h.1 hc
            exact R_forget (ls' := [vS 100, vR (some 0), vR (some 312), vR (some 341), vI x4, vJ, vJ, vJ]) ⟨Or.inl rfl, Or.inl rfl, Or.inl rfl, Or.inl rfl, Or.inl rfl, Or.inr rfl, Or.inr rfl, Or.inl rfl, trivial⟩ h
          · replace h := h.2 hc
            refine R_iconst (pc' := 472) c147_471 rfl ?_
            exact R_zret c147_472 rfl (Or.inl rfl) ⟨_, _, _, _, rfl, rfl, h⟩
      · replace h := h.2 hc
        refine R_iconst (pc' := 455) c147_454 rfl ?_
        exact R_zret c147_455 rfl (Or.inl rfl) ⟨_, _, _, _, rfl, rfl, h⟩
    replace h := h.2
    by_cases c9 : (((e).2.2.1 (x4.toNat)) % 16) = 9
    · replace h := h.1 c9
      refine R_tsw (pc' := 476) c147_39 (by rw [c9]; rfl) ?_
      refine R_aload_n (pc' := 477) c147_476 rfl rfl ?_
      refine R_aload_nS (pc' := 478) c147_477 rfl rfl ?_
      refine R_iload (pc' := 480) c147_478 rfl rfl ?_
      refine R_iconst (pc' := 481) c147_480 rfl ?_
      have g109 := h.1
      replace h := h.2
      refine R_iadd (pc' := 482) c147_481 rfl g109 ?_
      have g110 := h.1
      replace h := h.2
      refine K_sald (pc' := 483) c147_482 rfl g110.1 g110.2 ?_
      refine R_aload_nS (pc' := 484) c147_483 rfl rfl ?_
      refine R_iload (pc' := 486) c147_484 rfl rfl ?_
      refine R_iconst (pc' := 487) c147_486 rfl ?_
      have g111 := h.1
      replace h := h.2
      refine R_iadd (pc' := 488) c147_487 rfl g111 ?_
      have g112 := h.1
      replace h := h.2
      refine K_sald (pc' := 489) c147_488 rfl g112.1 g112.2 ?_
      refine R_aload_n (pc' := 490) c147_489 rfl rfl ?_
      refine KY_st (as := [vR (some 0), vI ((e).2.2.1 (((x4 + 1) : Int).toNat)), vI ((e).2.2.1 (((x4 + 2) : Int).toNat)), vR (some 341)]) (rest := []) (pc' := 493) c147_490 rfl rfl (Nat.le_of_ble_eq_true rfl) rfl (CY_mono h ?_)
      intro e116 z113 I114 D115 h
      refine R_istore (ls' := [vS 100, vR (some 0), vR (some 312), vR (some 341), vI x4, vI z113, vJ, vJ]) (pc' := 495) c147_493 rfl rfl ?_
      refine R_aload_n (pc' := 496) c147_495 rfl rfl ?_
      refine R_aload_nS (pc' := 497) c147_496 rfl rfl ?_
      refine R_iload (pc' := 499) c147_497 rfl rfl ?_
      refine R_iconst (pc' := 500) c147_499 rfl ?_
      have g117 := h.1
      replace h := h.2
      refine R_iadd (pc' := 501) c147_500 rfl g117 ?_
      have g118 := h.1
      replace h := h.2
      refine K_sald (pc' := 502) c147_501 rfl g118.1 g118.2 ?_
      refine R_aload_nS (pc' := 503) c147_502 rfl rfl ?_
      refine R_iload (pc' := 505) c147_503 rfl rfl ?_
      refine R_iconst (pc' := 506) c147_505 rfl ?_
      have g119 := h.1
      replace h := h.2
      refine R_iadd (pc' := 507) c147_506 rfl g119 ?_
      have g120 := h.1
      replace h := h.2
      refine K_sald (pc' := 508) c147_507 rfl g120.1 g120.2 ?_
      refine KI_iv (as := [vI ((e116).2.2.1 (((x4 + 1) : Int).toNat)), vI ((e116).2.2.1 (((x4 + 2) : Int).toNat))]) (rest := []) (pc' := 511) c147_508 rfl rfl rfl rfl (Nat.le_of_ble_eq_true rfl) rfl (CI_mono h ?_)
      intro z121 I122 D123 h
      refine R_istore (ls' := [vS 100, vR (some 0), vR (some 312), vR (some 341), vI x4, vI z113, vI z121, vJ]) (pc' := 513) c147_511 rfl rfl ?_
      refine R_aload_n (pc' := 514) c147_513 rfl rfl ?_
      refine KI_iv (as := []) (rest := []) (pc' := 517) c147_514 rfl rfl rfl rfl (Nat.le_of_ble_eq_true rfl) rfl (CI_mono h ?_)
      intro z124 I125 D126 h
      refine R_iload (pc' := 519) c147_517 rfl rfl ?_
      refine R_iceq (pc' := 522) c147_519 rfl (fun hc => ?_) (fun hc => ?_)
      · replace h := h.1 hc
        refine R_iload (pc' := 526) c147_524 rfl rfl ?_
        refine R_ifne (pc' := 529) c147_526 rfl (fun hc => ?_) (fun hc => ?_)
        · replace h := h.1 hc
          exact R_forget (ls' := [vS 100, vR (some 0), vR (some 312), vR (some 341), vI x4, vJ, vJ, vJ]) ⟨Or.inl rfl, Or.inl rfl, Or.inl rfl, Or.inl rfl, Or.inl rfl, Or.inr rfl, Or.inr rfl, Or.inl rfl, trivial⟩ h
        · replace h := h.2 hc
          refine R_aload_n (pc' := 530) c147_529 rfl rfl ?_
          refine R_iconst (pc' := 531) c147_530 rfl ?_
          refine K_lald (pc' := 532) c147_531 rfl rfl (by decide) (by decide) rfl ?_
          refine R_iload (pc' := 534) c147_532 rfl rfl ?_
          refine R_i2l (pc' := 535) c147_534 rfl ?_
          refine R_lcmp (pc' := 536) c147_535 rfl ?_
          refine R_ifeq (pc' := 539) c147_536 rfl (fun hc => ?_) (fun hc => ?_)
          · replace h := h.1 hc
            exact R_forget (ls' := [vS 100, vR (some 0), vR (some 312), vR (some 341), vI x4, vJ, vJ, vJ]) ⟨Or.inl rfl, Or.inl rfl, Or.inl rfl, Or.inl rfl, Or.inl rfl, Or.inr rfl, Or.inr rfl, Or.inl rfl, trivial⟩ h
          · replace h := h.2 hc
            refine R_iconst (pc' := 540) c147_539 rfl ?_
            exact R_zret c147_540 rfl (Or.inl rfl) ⟨_, _, _, _, rfl, rfl, h⟩
      · replace h := h.2 hc
        refine R_iconst (pc' := 523) c147_522 rfl ?_
        exact R_zret c147_523 rfl (Or.inl rfl) ⟨_, _, _, _, rfl, rfl, h⟩
    replace h := h.2
    by_cases c10 : (((e).2.2.1 (x4.toNat)) % 16) = 10
    · replace h := h.1 c10
      refine R_tsw (pc' := 544) c147_39 (by rw [c10]; rfl) ?_
      refine R_aload_n (pc' := 545) c147_544 rfl rfl ?_
      refine R_aload_nS (pc' := 546) c147_545 rfl rfl ?_
      refine R_iload (pc' := 548) c147_546 rfl rfl ?_
      refine R_iconst (pc' := 549) c147_548 rfl ?_
      have g127 := h.1
      replace h := h.2
      refine R_iadd (pc' := 550) c147_549 rfl g127 ?_
      have g128 := h.1
      replace h := h.2
      refine K_sald (pc' := 551) c147_550 rfl g128.1 g128.2 ?_
      refine R_aload_n (pc' := 552) c147_551 rfl rfl ?_
      refine KY_st (as := [vR (some 0), vI ((e).2.2.1 (((x4 + 1) : Int).toNat)), vR (some 341)]) (rest := []) (pc' := 555) c147_552 rfl rfl (Nat.le_of_ble_eq_true rfl) rfl (CY_mono h ?_)
      intro e132 z129 I130 D131 h
      refine R_istore (ls' := [vS 100, vR (some 0), vR (some 312), vR (some 341), vI x4, vI z129, vJ, vJ]) (pc' := 557) c147_555 rfl rfl ?_
      refine R_aload_n (pc' := 558) c147_557 rfl rfl ?_
      refine R_aload_nS (pc' := 559) c147_558 rfl rfl ?_
      refine R_iload (pc' := 561) c147_559 rfl rfl ?_
      refine R_iconst (pc' := 562) c147_561 rfl ?_
      have g133 := h.1
      replace h := h.2
      refine R_iadd (pc' := 563) c147_562 rfl g133 ?_
      have g134 := h.1
      replace h := h.2
      refine K_sald (pc' := 564) c147_563 rfl g134.1 g134.2 ?_
      refine KI_iv (as := [vI ((e132).2.2.1 (((x4 + 1) : Int).toNat))]) (rest := []) (pc' := 567) c147_564 rfl rfl rfl rfl (Nat.le_of_ble_eq_true rfl) rfl (CI_mono h ?_)
      intro z135 I136 D137 h
      refine R_istore (ls' := [vS 100, vR (some 0), vR (some 312), vR (some 341), vI x4, vI z129, vI z135, vJ]) (pc' := 569) c147_567 rfl rfl ?_
      refine R_aload_n (pc' := 570) c147_569 rfl rfl ?_
      refine KI_iv (as := []) (rest := []) (pc' := 573) c147_570 rfl rfl rfl rfl (Nat.le_of_ble_eq_true rfl) rfl (CI_mono h ?_)
      intro z138 I139 D140 h
      refine R_iload (pc' := 575) c147_573 rfl rfl ?_
      refine R_iceq (pc' := 578) c147_575 rfl (fun hc => ?_) (fun hc => ?_)
      · replace h := h.1 hc
        refine R_iload (pc' := 582) c147_580 rfl rfl ?_
        refine R_ifne (pc' := 585) c147_582 rfl (fun hc => ?_) (fun hc => ?_)
        · replace h := h.1 hc
          exact R_forget (ls' := [vS 100, vR (some 0), vR (some 312), vR (some 341), vI x4, vJ, vJ, vJ]) ⟨Or.inl rfl, Or.inl rfl, Or.inl rfl, Or.inl rfl, Or.inl rfl, Or.inr rfl, Or.inr rfl, Or.inl rfl, trivial⟩ h
        · replace h := h.2 hc
          refine R_aload_n (pc' := 586) c147_585 rfl rfl ?_
          refine R_iconst (pc' := 587) c147_586 rfl ?_
          refine K_lald (pc' := 588) c147_587 rfl rfl (by decide) (by decide) rfl ?_
          refine R_iload (pc' := 590) c147_588 rfl rfl ?_
          refine R_ifeq (pc' := 593) c147_590 rfl (fun hc => ?_) (fun hc => ?_)
          · replace h := h.1 hc
            refine R_lconst (pc' := 598) c147_597 rfl ?_
            exact R_forget (ls' := [vS 100, vR (some 0), vR (some 312), vR (some 341), vI x4, vJ, vJ, vJ]) ⟨Or.inl rfl, Or.inl rfl, Or.inl rfl, Or.inl rfl, Or.inl rfl, Or.inr rfl, Or.inr rfl, Or.inl rfl, trivial⟩ h
          · replace h := h.2 hc
            refine R_lconst (pc' := 594) c147_593 rfl ?_
            refine R_goto c147_594 ?_
            exact R_forget (ls' := [vS 100, vR (some 0), vR (some 312), vR (some 341), vI x4, vJ, vJ, vJ]) ⟨Or.inl rfl, Or.inl rfl, Or.inl rfl, Or.inl rfl, Or.inl rfl, Or.inr rfl, Or.inr rfl, Or.inl rfl, trivial⟩ h
      · replace h := h.2 hc
        refine R_iconst (pc' := 579) c147_578 rfl ?_
        exact R_zret c147_579 rfl (Or.inl rfl) ⟨_, _, _, _, rfl, rfl, h⟩
    replace h := h.2
    by_cases c11 : (((e).2.2.1 (x4.toNat)) % 16) = 11
    · replace h := h.1 c11
      refine R_tsw (pc' := 607) c147_39 (by rw [c11]; rfl) ?_
      refine R_aload_n (pc' := 608) c147_607 rfl rfl ?_
      refine R_aload_nS (pc' := 609) c147_608 rfl rfl ?_
      refine R_iload (pc' := 611) c147_609 rfl rfl ?_
      refine R_iconst (pc' := 612) c147_611 rfl ?_
      have g141 := h.1
      replace h := h.2
      refine R_iadd (pc' := 613) c147_612 rfl g141 ?_
      have g142 := h.1
      replace h := h.2
      refine K_sald (pc' := 614) c147_613 rfl g142.1 g142.2 ?_
      refine R_aload_n (pc' := 615) c147_614 rfl rfl ?_
      refine KY_st (as := [vR (some 0), vI ((e).2.2.1 (((x4 + 1) : Int).toNat)), vR (some 341)]) (rest := []) (pc' := 618) c147_615 rfl rfl (Nat.le_of_ble_eq_true rfl) rfl (CY_mono h ?_)
      intro e146 z143 I144 D145 h
      refine R_istore (ls' := [vS 100, vR (some 0), vR (some 312), vR (some 341), vI x4, vI z143, vJ, vJ]) (pc' := 620) c147_618 rfl rfl ?_
      refine R_aload_n (pc' := 621) c147_620 rfl rfl ?_
      refine R_aload_nS (pc' := 622) c147_621 rfl rfl ?_
      refine R_iload (pc' := 624) c147_622 rfl rfl ?_
      refine R_iconst (pc' := 625) c147_624 rfl ?_
      have g147 := h.1
      replace h := h.2
      refine R_iadd (pc' := 626) c147_625 rfl g147 ?_
      have g148 := h.1
      replace h := h.2
      refine K_sald (pc' := 627) c147_626 rfl g148.1 g148.2 ?_
      refine KI_iv (as := [vI ((e146).2.2.1 (((x4 + 1) : Int).toNat))]) (rest := []) (pc' := 630) c147_627 rfl rfl rfl rfl (Nat.le_of_ble_eq_true rfl) rfl (CI_mono h ?_)
      intro z149 I150 D151 h
      refine R_istore (ls' := [vS 100, vR (some 0), vR (some 312), vR (some 341), vI x4, vI z143, vI z149, vJ]) (pc' := 632) c147_630 rfl rfl ?_
      refine R_aload_n (pc' := 633) c147_632 rfl rfl ?_
      refine KI_iv (as := []) (rest := []) (pc' := 636) c147_633 rfl rfl rfl rfl (Nat.le_of_ble_eq_true rfl) rfl (CI_mono h ?_)
      intro z152 I153 D154 h
      refine R_iload (pc' := 638) c147_636 rfl rfl ?_
      refine R_iceq (pc' := 641) c147_638 rfl (fun hc => ?_) (fun hc => ?_)
      · replace h := h.1 hc
        refine R_iload (pc' := 645) c147_643 rfl rfl ?_
        refine R_ifne (pc' := 648) c147_645 rfl (fun hc => ?_) (fun hc => ?_)
        · replace h := h.1 hc
          exact R_forget (ls' := [vS 100, vR (some 0), vR (some 312), vR (some 341), vI x4, vJ, vJ, vJ]) ⟨Or.inl rfl, Or.inl rfl, Or.inl rfl, Or.inl rfl, Or.inl rfl, Or.inr rfl, Or.inr rfl, Or.inl rfl, trivial⟩ h
        · replace h := h.2 hc
          refine R_aload_n (pc' := 649) c147_648 rfl rfl ?_
          refine R_iconst (pc' := 650) c147_649 rfl ?_
          refine K_lald (pc' := 651) c147_650 rfl rfl (by decide) (by decide) rfl ?_
          refine R_iload (pc' := 653) c147_651 rfl rfl ?_
          refine R_i2l (pc' := 654) c147_653 rfl ?_
          refine R_lcmp (pc' := 655) c147_654 rfl ?_
          refine R_ifeq (pc' := 658) c147_655 rfl (fun hc => ?_) (fun hc => ?_)
          · replace h := h.1 hc
            exact R_forget (ls' := [vS 100, vR (some 0), vR (some 312), vR (some 341), vI x4, vJ, vJ, vJ]) ⟨Or.inl rfl, Or.inl rfl, Or.inl rfl, Or.inl rfl, Or.inl rfl, Or.inr rfl, Or.inr rfl, Or.inl rfl, trivial⟩ h
          · replace h := h.2 hc
            refine R_iconst (pc' := 659) c147_658 rfl ?_
            exact R_zret c147_659 rfl (Or.inl rfl) ⟨_, _, _, _, rfl, rfl, h⟩
      · replace h := h.2 hc
        refine R_iconst (pc' := 642) c147_641 rfl ?_
        exact R_zret c147_642 rfl (Or.inl rfl) ⟨_, _, _, _, rfl, rfl, h⟩
    replace h := h.2
    by_cases c12 : (((e).2.2.1 (x4.toNat)) % 16) = 12
    · replace h := h.1 c12
      refine R_tsw (pc' := 663) c147_39 (by rw [c12]; rfl) ?_
      refine R_aload_n (pc' := 664) c147_663 rfl rfl ?_
      refine KI_iv (as := []) (rest := []) (pc' := 667) c147_664 rfl rfl rfl rfl (Nat.le_of_ble_eq_true rfl) rfl (CI_mono h ?_)
      intro z155 I156 D157 h
      refine R_aload_n (pc' := 668) c147_667 rfl rfl ?_
      refine KI_iv (as := []) (rest := [vI z155]) (pc' := 671) c147_668 rfl rfl rfl rfl (Nat.le_of_ble_eq_true rfl) rfl (CI_mono h ?_)
      intro z158 I159 D160 h
      refine R_iceq (pc' := 674) c147_671 rfl (fun hc => ?_) (fun hc => ?_)
      · replace h := h.1 hc
        exact h
      · replace h := h.2 hc
        refine R_iconst (pc' := 675) c147_674 rfl ?_
        exact R_zret c147_675 rfl (Or.inl rfl) ⟨_, _, _, _, rfl, rfl, h⟩
    replace h := h.2
    by_cases c13 : (((e).2.2.1 (x4.toNat)) % 16) = 13
    · replace h := h.1 c13
      refine R_tsw (pc' := 676) c147_39 (by rw [c13]; rfl) ?_
      refine R_aload_n (pc' := 677) c147_676 rfl rfl ?_
      refine R_aload_nS (pc' := 678) c147_677 rfl rfl ?_
      refine R_iload (pc' := 680) c147_678 rfl rfl ?_
      refine R_iconst (pc' := 681) c147_680 rfl ?_
      have g161 := h.1
      replace h := h.2
      refine R_iadd (pc' := 682) c147_681 rfl g161 ?_
      have g162 := h.1
      replace h := h.2
      refine K_sald (pc' := 683) c147_682 rfl g162.1 g162.2 ?_
      refine R_aload_n (pc' := 684) c147_683 rfl rfl ?_
      refine KY_st (as := [vR (some 0), vI ((e).2.2.1 (((x4 + 1) : Int).toNat)), vR (some 341)]) (rest := []) (pc' := 687) c147_684 rfl rfl (Nat.le_of_ble_eq_true rfl) rfl (CY_mono h ?_)
      intro e166 z163 I164 D165 h
      refine R_istore (ls' := [vS 100, vR (some 0), vR (some 312), vR (some 341), vI x4, vI z163, vJ, vJ]) (pc' := 689) c147_687 rfl rfl ?_
      refine R_aload_n (pc' := 690) c147_689 rfl rfl ?_
      refine R_aload_nS (pc' := 691) c147_690 rfl rfl ?_
      refine R_iload (pc' := 693) c147_691 rfl rfl ?_
      refine R_iconst (pc' := 694) c147_693 rfl ?_
      have g167 := h.1
      replace h := h.2
      refine R_iadd (pc' := 695) c147_694 rfl g167 ?_
      have g168 := h.1
      replace h := h.2
      refine K_sald (pc' := 696) c147_695 rfl g168.1 g168.2 ?_
      refine KI_iv (as := [vI ((e166).2.2.1 (((x4 + 1) : Int).toNat))]) (rest := []) (pc' := 699) c147_696 rfl rfl rfl rfl (Nat.le_of_ble_eq_true rfl) rfl (CI_mono h ?_)
      intro z169 I170 D171 h
      refine R_istore (ls' := [vS 100, vR (some 0), vR (some 312), vR (some 341), vI x4, vI z163, vI z169, vJ]) (pc' := 701) c147_699 rfl rfl ?_
      refine R_aload_n (pc' := 702) c147_701 rfl rfl ?_
      refine KI_iv (as := []) (rest := []) (pc' := 705) c147_702 rfl rfl rfl rfl (Nat.le_of_ble_eq_true rfl) rfl (CI_mono h ?_)
      intro z172 I173 D174 h
      refine R_iload (pc' := 707) c147_705 rfl rfl ?_
      refine R_iceq (pc' := 710) c147_707 rfl (fun hc => ?_) (fun hc => ?_)
      · replace h := h.1 hc
        refine R_iload (pc' := 714) c147_712 rfl rfl ?_
        refine R_ifne (pc' := 717) c147_714 rfl (fun hc => ?_) (fun hc => ?_)
        · replace h := h.1 hc
          exact R_forget (ls' := [vS 100, vR (some 0), vR (some 312), vR (some 341), vI x4, vJ, vJ, vJ]) ⟨Or.inl rfl, Or.inl rfl, Or.inl rfl, Or.inl rfl, Or.inl rfl, Or.inr rfl, Or.inr rfl, Or.inl rfl, trivial⟩ h
        · replace h := h.2 hc
          refine R_aload_n (pc' := 718) c147_717 rfl rfl ?_
          refine R_iconst (pc' := 719) c147_718 rfl ?_
          refine K_lald (pc' := 720) c147_719 rfl rfl (by decide) (by decide) rfl ?_
          refine R_iload (pc' := 722) c147_720 rfl rfl ?_
          refine R_i2l (pc' := 723) c147_722 rfl ?_
          refine R_lcmp (pc' := 724) c147_723 rfl ?_
          refine R_ifeq (pc' := 727) c147_724 rfl (fun hc => ?_) (fun hc => ?_)
          · replace h := h.1 hc
            exact R_forget (ls' := [vS 100, vR (some 0), vR (some 312), vR (some 341), vI x4, vJ, vJ, vJ]) ⟨Or.inl rfl, Or.inl rfl, Or.inl rfl, Or.inl rfl, Or.inl rfl, Or.inr rfl, Or.inr rfl, Or.inl rfl, trivial⟩ h
          · replace h := h.2 hc
            refine R_iconst (pc' := 728) c147_727 rfl ?_
            exact R_zret c147_728 rfl (Or.inl rfl) ⟨_, _, _, _, rfl, rfl, h⟩
      · replace h := h.2 hc
        refine R_iconst (pc' := 711) c147_710 rfl ?_
        exact R_zret c147_711 rfl (Or.inl rfl) ⟨_, _, _, _, rfl, rfl, h⟩
    replace h := h.2
    replace h := h c0 c1 c2 c3 c4 c5 c6 c7 c8 c9 c10 c11 c12 c13
    refine R_tsw (pc' := 732) c147_39 (by simp [swT, List.lookup, beq_iff_eq, beq_eq_false_iff_ne.mpr c0, beq_eq_false_iff_ne.mpr c1, beq_eq_false_iff_ne.mpr c2, beq_eq_false_iff_ne.mpr c3, beq_eq_false_iff_ne.mpr c4, beq_eq_false_iff_ne.mpr c5, beq_eq_false_iff_ne.mpr c6, beq_eq_false_iff_ne.mpr c7, beq_eq_false_iff_ne.mpr c8, beq_eq_false_iff_ne.mpr c9, beq_eq_false_iff_ne.mpr c10, beq_eq_false_iff_ne.mpr c11, beq_eq_false_iff_ne.mpr c12, beq_eq_false_iff_ne.mpr c13]) ?_
    exact h
theorem S147_187 {e : En} {I : HI} {D : HD} {Q : En → Int → HI → HD → Prop} {x4 : Int} (he : HS e)
    (h : RY 147 732 [vS 100, vR (some 0), vR (some 312), vR (some 341), vI x4, vJ, vJ, vJ] [] e I D Q) :
    RY 147 187 [vS 100, vR (some 0), vR (some 312), vR (some 341), vI x4, vJ, vJ, vJ] [] e I D Q := by
  show Run 147 187 [vS 100, vR (some 0), vR (some 312), vR (some 341), vI x4, vJ, vJ, vJ] [] (mk e I D) (pY Q)
  refine R_goto c147_187 ?_
  exact h
theorem S147_254 {e : En} {I : HI} {D : HD} {Q : En → Int → HI → HD → Prop} {x4 : Int} (he : HS e)
    (h : RY 147 732 [vS 100, vR (some 0), vR (some 312), vR (some 341), vI x4, vJ, vJ, vJ] [] e I D Q) :
    RY 147 254 [vS 100, vR (some 0), vR (some 312), vR (some 341), vI x4, vJ, vJ, vJ] [] e I D Q := by
  show Run 147 254 [vS 100, vR (some 0), vR (some 312), vR (some 341), vI x4, vJ, vJ, vJ] [] (mk e I D) (pY Q)
  refine R_goto c147_254 ?_
  exact h
theorem S147_322 {e : En} {I : HI} {D : HD} {Q : En → Int → HI → HD → Prop} {x4 : Int} (he : HS e)
    (h : RY 147 732 [vS 100, vR (some 0), vR (some 312), vR (some 341), vI x4, vJ, vJ, vJ] [] e I D Q) :
    RY 147 322 [vS 100, vR (some 0), vR (some 312), vR (some 341), vI x4, vJ, vJ, vJ] [] e I D Q := by
  show Run 147 322 [vS 100, vR (some 0), vR (some 312), vR (some 341), vI x4, vJ, vJ, vJ] [] (mk e I D) (pY Q)
  refine R_goto c147_322 ?_
  exact h
theorem S147_404 {e : En} {I : HI} {D : HD} {Q : En → Int → HI → HD → Prop} {x4 : Int} (he : HS e)
    (h : RY 147 732 [vS 100, vR (some 0), vR (some 312), vR (some 341), vI x4, vJ, vJ, vJ] [] e I D Q) :
    RY 147 404 [vS 100, vR (some 0), vR (some 312), vR (some 341), vI x4, vJ, vJ, vJ] [] e I D Q := by
  show Run 147 404 [vS 100, vR (some 0), vR (some 312), vR (some 341), vI x4, vJ, vJ, vJ] [] (mk e I D) (pY Q)
  refine R_goto c147_404 ?_
  exact h
theorem S147_473 {e : En} {I : HI} {D : HD} {Q : En → Int → HI → HD → Prop} {x4 : Int} (he : HS e)
    (h : RY 147 732 [vS 100, vR (some 0), vR (some 312), vR (some 341), vI x4, vJ, vJ, vJ] [] e I D Q) :
    RY 147 473 [vS 100, vR (some 0), vR (some 312), vR (some 341), vI x4, vJ, vJ, vJ] [] e I D Q := by
  show Run 147 473 [vS 100, vR (some 0), vR (some 312), vR (some 341), vI x4, vJ, vJ, vJ] [] (mk e I D) (pY Q)
  refine R_goto c147_473 ?_
  exact h
theorem S147_541 {e : En} {I : HI} {D : HD} {Q : En → Int → HI → HD → Prop} {x4 : Int} (he : HS e)
    (h : RY 147 732 [vS 100, vR (some 0), vR (some 312), vR (some 341), vI x4, vJ, vJ, vJ] [] e I D Q) :
    RY 147 541 [vS 100, vR (some 0), vR (some 312), vR (some 341), vI x4, vJ, vJ, vJ] [] e I D Q := by
  show Run 147 541 [vS 100, vR (some 0), vR (some 312), vR (some 341), vI x4, vJ, vJ, vJ] [] (mk e I D) (pY Q)
  refine R_goto c147_541 ?_
  exact h
theorem S147_598 {e : En} {I : HI} {D : HD} {Q : En → Int → HI → HD → Prop} {x4 : Int} {v0 : Int} {v1 : Int} (he : HS e)
    (h : (((if v1 < v0 then (1 : Int) else if v0 = v1 then 0 else -1) = 0 → RY 147 604 [vS 100, vR (some 0), vR (some 312), vR (some 341), vI x4, vJ, vJ, vJ] [] e I D Q) ∧ (¬ ((if v1 < v0 then (1 : Int) else if v0 = v1 then 0 else -1) = 0) → Q e 0 I D))) :
    RY 147 598 [vS 100, vR (some 0), vR (some 312), vR (some 341), vI x4, vJ, vJ, vJ] [vL v1, vL v0] e I D Q := by
  show Run 147 598 [vS 100, vR (some 0), vR (some 312), vR (some 341), vI x4, vJ, vJ, vJ] [vL v1, vL v0] (mk e I D) (pY Q)
  refine R_lcmp (pc' := 599) c147_598 rfl ?_
  refine R_ifeq (pc' := 602) c147_599 rfl (fun hc => ?_) (fun hc => ?_)
  · replace h := h.1 hc
    exact h
  · replace h := h.2 hc
    refine R_iconst (pc' := 603) c147_602 rfl ?_
    exact R_zret c147_603 rfl (Or.inl rfl) ⟨_, _, _, _, rfl, rfl, h⟩
theorem S147_604 {e : En} {I : HI} {D : HD} {Q : En → Int → HI → HD → Prop} {x4 : Int} (he : HS e)
    (h : RY 147 732 [vS 100, vR (some 0), vR (some 312), vR (some 341), vI x4, vJ, vJ, vJ] [] e I D Q) :
    RY 147 604 [vS 100, vR (some 0), vR (some 312), vR (some 341), vI x4, vJ, vJ, vJ] [] e I D Q := by
  show Run 147 604 [vS 100, vR (some 0), vR (some 312), vR (some 341), vI x4, vJ, vJ, vJ] [] (mk e I D) (pY Q)
  refine R_goto c147_604 ?_
  exact h
theorem S147_660 {e : En} {I : HI} {D : HD} {Q : En → Int → HI → HD → Prop} {x4 : Int} (he : HS e)
    (h : RY 147 732 [vS 100, vR (some 0), vR (some 312), vR (some 341), vI x4, vJ, vJ, vJ] [] e I D Q) :
    RY 147 660 [vS 100, vR (some 0), vR (some 312), vR (some 341), vI x4, vJ, vJ, vJ] [] e I D Q := by
  show Run 147 660 [vS 100, vR (some 0), vR (some 312), vR (some 341), vI x4, vJ, vJ, vJ] [] (mk e I D) (pY Q)
  refine R_goto c147_660 ?_
  exact h
theorem S147_729 {e : En} {I : HI} {D : HD} {Q : En → Int → HI → HD → Prop} {x4 : Int} (he : HS e)
    (h : RY 147 732 [vS 100, vR (some 0), vR (some 312), vR (some 341), vI x4, vJ, vJ, vJ] [] e I D Q) :
    RY 147 729 [vS 100, vR (some 0), vR (some 312), vR (some 341), vI x4, vJ, vJ, vJ] [] e I D Q := by
  show Run 147 729 [vS 100, vR (some 0), vR (some 312), vR (some 341), vI x4, vJ, vJ, vJ] [] (mk e I D) (pY Q)
  refine R_goto c147_729 ?_
  exact h
theorem S147_732 {e : En} {I : HI} {D : HD} {Q : En → Int → HI → HD → Prop} {x4 : Int} (he : HS e)
    (h : (-2147483648 ≤ (x4 + 3) ∧ (x4 + 3) < 2147483648) ∧ RY 147 23 [vS 100, vR (some 0), vR (some 312), vR (some 341), vI (x4 + 3), vJ, vJ, vJ] [] e I D Q) :
    RY 147 732 [vS 100, vR (some 0), vR (some 312), vR (some 341), vI x4, vJ, vJ, vJ] [] e I D Q := by
  show Run 147 732 [vS 100, vR (some 0), vR (some 312), vR (some 341), vI x4, vJ, vJ, vJ] [] (mk e I D) (pY Q)
  have g1 := h.1
  replace h := h.2
  refine R_iinc (ls' := [vS 100, vR (some 0), vR (some 312), vR (some 341), vI (x4 + 3), vJ, vJ, vJ]) (pc' := 735) c147_732 rfl rfl g1 rfl ?_
  refine R_goto c147_735 ?_
  exact h
