/-! the constructors at their places: printed by wip/whole/gen/genctor.py -/
section
variable {L : Nat} {xs : Nat → Int} {m pc pc' t t' : Nat} {ls st : List MV} {R : HR} {Q : Res → MH → Prop} {a b d : Nat} {z : Int} {tb : List (Int × Nat)}
theorem N_newL (hc : cod m pc = some (69, a, b, d, z, tb)) (hp : pc + 3 = pc') (ht : t + 1 = t') (hk : K0 t = b + 1) (h : Run m pc' ls (vR (some t) :: st) (Ct L xs t' (nR R t)) Q) : Run m pc ls st (Ct L xs t R) Q := by subst ht; exact N_new hc hp hk h
theorem N_newarrL {n : Int} (hc : cod m pc = some (67, a, b, d, z, tb)) (hp : pc + 2 = pc') (ht : t + 1 = t') (ha : a < 4) (hk : K0 t = a + 21) (hn : n = L0 t) (hb : L0 t < 100000) (h : Run m pc' ls (vR (some t) :: st) (Ct L xs t' (nR R t)) Q) : Run m pc ls (vI n :: st) (Ct L xs t R) Q := by subst ht; exact N_newarr hc hp ha hk hn hb h
theorem N_anewL {n : Int} (hc : cod m pc = some (68, a, b, d, z, tb)) (hp : pc + 3 = pc') (ht : t + 1 = t') (hk : K0 t = 4 + 21) (hn : n = L0 t) (hb : L0 t < 100000) (h : Run m pc' ls (vR (some t) :: st) (Ct L xs t' (nR R t)) Q) : Run m pc ls (vI n :: st) (Ct L xs t R) Q := by subst ht; exact N_anew hc hp hk hn hb h
theorem ST.arrL {q t t' : Nat} {R0 R : HR} {ks : List (Nat × Nat)} (h : ST q t R0 ks R) (ht : t + 1 = t') (hx : ∀ j, xr t j = 0) : ST q t' R0 ks (nR R t) := by subst ht; exact h.arr hx
theorem dyn_ge {t j : Nat} (h1 : t = 1 → 5 ≤ j) (h2 : t = 26 ∨ t = 177 → 4 ≤ j) (h3 : t = 8 ∨ t = 159 → 11 ≤ j) (h4 : t ≠ 29 ∧ t ≠ 180) : dyn t j = false := by
  unfold dyn
  have a1 : (t == 1 && j == 4) = false := by
    cases h : (t == 1 && j == 4) with
    | false => rfl
    | true => simp at h; have := h1 h.1; omega
  have a2 : ((t == 26 || t == 177) && j == 3) = false := by
    cases h : ((t == 26 || t == 177) && j == 3) with
    | false => rfl
    | true => simp at h; have := h2 h.1; omega
  have a3 : ((t == 8 || t == 159) && j == 10) = false := by
    cases h : ((t == 8 || t == 159) && j == 10) with
    | false => rfl
    | true => simp at h; have := h3 h.1; omega
  have a4 : ((t == 29 || t == 180) && Nat.blt j 61) = false := by simp [h4]
  rw [a1, a2, a3, a4]; rfl
end
/-- in the middle of a scan's constructor: i of its objects are there -/
def SS (q t : Nat) (R0 : HR) (ks : List (Nat × Nat)) (i : Nat) (R : HR) : Prop := q + 21 < t ∧ (∀ b j, b < q → R b j = R0 b j) ∧ (∀ b j, q + 1 ≤ b → b < t → b ≠ q + 21 → xr b j ≠ 0 → R b j = some (xr b j)) ∧ (∀ p ∈ ks, R q p.1 = some p.2) ∧ ∀ j, j < i → R (q + 21) j = some (q + 22 + 2 * j)
theorem ST.obj {q : Nat} {R0 R : HR} {ks : List (Nat × Nat)} (h : ST q (q + 21) R0 ks R) : SS q (q + 22) R0 ks 0 (nR R (q + 21)) := by
  obtain ⟨h1, h2, h3, h4⟩ := h
  refine ⟨by omega, fun b j hb => ?_, fun b j b1 b2 b3 hn => ?_, fun p hp => ?_, fun j hj => by omega⟩
  · rw [← h2 b j hb]; exact if_neg (by omega)
  · rw [← h3 b j b1 (by omega) hn]; exact if_neg b3
  · rw [← h4 p hp]; exact if_neg (by omega)
theorem SS.put {q t i : Nat} {R0 R : HR} {ks : List (Nat × Nat)} (h : SS q t R0 ks i R) {k v : Nat} (hk : (ks.map fun p => p.1).contains k = false) : SS q t R0 ((k, v) :: ks) i (uR R q k (some v)) := by
  obtain ⟨h1, h2, h3, h4, h5⟩ := h
  refine ⟨h1, fun b j hb => ?_, fun b j b1 b2 b3 hn => ?_, fun p hp => ?_, fun j hj => ?_⟩
  · rw [← h2 b j hb]; exact if_neg (by omega)
  · rw [← h3 b j b1 b2 b3 hn]; exact if_neg (by omega)
  · rcases List.mem_cons.mp hp with rfl | hp
    · exact if_pos ⟨rfl, rfl⟩
    · rw [← h4 p hp]
      refine if_neg (fun w => ?_)
      have : (ks.map fun p => p.1).contains k = true := by rw [List.contains_iff_mem, ← w.2]; exact List.mem_map_of_mem hp
      rw [this] at hk; cases hk
  · rw [← h5 j hj]; exact if_neg (by omega)
theorem SS.one {q t i : Nat} {R0 R R' : HR} {ks : List (Nat × Nat)} (h : SS q t R0 ks i R) (ht : t = q + 22 + 2 * i) (hg : GN t (t + 2) (nR R t) R') : SS q (t + 2) R0 ks (i + 1) (uR R' (q + 21) i (some t)) := by
  obtain ⟨h1, h2, h3, h4, h5⟩ := h
  have e : ∀ b j, b < t → R' b j = R b j := fun b j hb => by rw [hg.1 b j hb]; exact if_neg (by omega)
  refine ⟨by omega, fun b j hb => ?_, fun b j b1 b2 b3 hn => ?_, fun p hp => ?_, fun j hj => ?_⟩
  · rw [← h2 b j hb, ← e b j (by omega)]; exact if_neg (by omega)
  · rcases Nat.lt_or_ge b t with w | w
    · rw [← h3 b j b1 w b3 hn, ← e b j w]; exact if_neg (by omega)
    · rw [← hg.2 b j w b2 hn]; exact if_neg (by omega)
  · rw [← h4 p hp, ← e q p.1 (by omega)]; exact if_neg (by omega)
  · by_cases c : j = i
    · subst c; subst ht; exact if_pos ⟨rfl, rfl⟩
    · rw [← h5 j (by omega), ← e (q + 21) j (by omega)]; exact if_neg (by omega)
theorem SS.all {q t : Nat} {R0 R : HR} {ks : List (Nat × Nat)} (h : SS q t R0 ks 61 R) (hq : q = 8 ∨ q = 159) : ST q t R0 ks R := by
  obtain ⟨h1, h2, h3, h4, h5⟩ := h
  refine ⟨by omega, h2, fun b j b1 b2 hn => ?_, h4⟩
  by_cases c : b = q + 21
  · subst c
    have hd : j < 61 := by
      rcases Nat.lt_or_ge j 61 with w | w
      · exact w
      · exfalso; apply hn
        have bl : Nat.blt j 61 = false := by
          cases hb : Nat.blt j 61 with
          | false => rfl
          | true => rw [Nat.blt_eq] at hb; omega
        rcases hq with rfl | rfl
        · have : dyn (8 + 21) j = false := by simp [dyn, bl]
          unfold xr; rw [this]; rfl
        · have : dyn (159 + 21) j = false := by simp [dyn, bl]
          unfold xr; rw [this]; rfl
    have bl : Nat.blt j 61 = true := by rw [Nat.blt_eq]; exact hd
    have ex : xr (q + 21) j = q + 22 + 2 * j := by
      rcases hq with rfl | rfl
      · have : dyn (8 + 21) j = true := by simp [dyn, bl]
        unfold xr; rw [this]; rfl
      · have : dyn (159 + 21) j = true := by simp [dyn, bl]
        unfold xr; rw [this]; rfl
    rw [ex]; exact h5 j hd
  · exact h3 b j b1 b2 c hn
theorem k59_310 {L : Nat} {xs : Nat → Int} {Q : Res → MH → Prop} {R0 : HR} (hQ : ∀ R', GN 310 312 R0 R' → Q (.inl none) (Ct L xs 312 R')) : Call 59 [vR (some 310)] (Ct L xs 311 R0) Q := by
  refine Call_run (ls := [vR (some 310)]) rfl rfl ?_
  have s0 : ST 310 311 R0 [] R0 := ST.beg
  refine R_aload_n (pc' := 1) rfl rfl rfl ?_
  refine R_objinit (pc' := 4) rfl rfl (Nat.le_of_ble_eq_true rfl) ?_
  refine R_aload_n (pc' := 5) rfl rfl rfl ?_
  refine R_sipush (pc' := 8) rfl rfl ?_
  refine N_newarrL (pc' := 10) rfl rfl (t' := 312) rfl (by decide) (by decide) (by decide) (by decide) ?_
  have s1 := s0.arrL (t' := 312) rfl (xr_0 (t := 311) (by decide))
  generalize nR R0 311 = R1 at s1 ⊢
  refine N_putRF (pc' := 13) rfl rfl (by decide) (by decide) rfl ?_
  have s2 := s1.put (k := 0) (v := 311) rfl
  generalize uR R1 310 0 (some 311) = R2 at s2 ⊢
  refine R_aload_n (pc' := 14) rfl rfl rfl ?_
  refine R_iconst (pc' := 15) rfl rfl ?_
  refine N_putI (pc' := 18) rfl rfl (by decide) (by decide) ?_
  exact R_vret rfl rfl (hQ _ (s2.fin (xr_row (t := 310) (fun j hj => dyn_no (by decide)) (by decide +kernel))))
theorem k42_1 {L : Nat} {xs : Nat → Int} {Q : Res → MH → Prop} {R0 : HR} (hQ : ∀ R', GN 1 7 R0 R' → Q (.inl none) (Ct L xs 7 R')) : Call 42 [vR (some 1), vI 3000] (Ct L xs 2 R0) Q := by
  refine Call_run (ls := [vR (some 1), vI 3000]) rfl rfl ?_
  have s0 : ST 1 2 R0 [] R0 := ST.beg
  refine R_aload_n (pc' := 1) rfl rfl rfl ?_
  refine R_objinit (pc' := 4) rfl rfl (Nat.le_of_ble_eq_true rfl) ?_
  refine R_aload_n (pc' := 5) rfl rfl rfl ?_
  refine R_iload_n (pc' := 6) rfl rfl rfl ?_
  refine R_iconst (pc' := 7) rfl rfl ?_
  refine R_iadd (pc' := 8) rfl rfl ⟨by decide, by decide⟩ ?_
  show Run 42 8 [vR (some 1), vI 3000] [vI 3001, vR (some 1)] _ _
  refine N_newarrL (pc' := 10) rfl rfl (t' := 3) rfl (by decide) (by decide) (by decide) (by decide) ?_
  have s1 := s0.arrL (t' := 3) rfl (xr_0 (t := 2) (by decide))
  generalize nR R0 2 = R1 at s1 ⊢
  refine N_putRF (pc' := 13) rfl rfl (by decide) (by decide) rfl ?_
  have s2 := s1.put (k := 0) (v := 2) rfl
  generalize uR R1 1 0 (some 2) = R2 at s2 ⊢
  refine R_aload_n (pc' := 14) rfl rfl rfl ?_
  refine R_iload_n (pc' := 15) rfl rfl rfl ?_
  refine R_iconst (pc' := 16) rfl rfl ?_
  refine R_iadd (pc' := 17) rfl rfl ⟨by decide, by decide⟩ ?_
  show Run 42 17 [vR (some 1), vI 3000] [vI 3001, vR (some 1)] _ _
  refine N_newarrL (pc' := 19) rfl rfl (t' := 4) rfl (by decide) (by decide) (by decide) (by decide) ?_
  have s3 := s2.arrL (t' := 4) rfl (xr_0 (t := 3) (by decide))
  generalize nR R2 3 = R3 at s3 ⊢
  refine N_putRF (pc' := 22) rfl rfl (by decide) (by decide) rfl ?_
  have s4 := s3.put (k := 1) (v := 3) rfl
  generalize uR R3 1 1 (some 3) = R4 at s4 ⊢
  refine R_aload_n (pc' := 23) rfl rfl rfl ?_
  refine R_iload_n (pc' := 24) rfl rfl rfl ?_
  refine R_iconst (pc' := 25) rfl rfl ?_
  refine R_iadd (pc' := 26) rfl rfl ⟨by decide, by decide⟩ ?_
  show Run 42 26 [vR (some 1), vI 3000] [vI 3001, vR (some 1)] _ _
  refine N_newarrL (pc' := 28) rfl rfl (t' := 5) rfl (by decide) (by decide) (by decide) (by decide) ?_
  have s5 := s4.arrL (t' := 5) rfl (xr_0 (t := 4) (by decide))
  generalize nR R4 4 = R5 at s5 ⊢
  refine N_putRF (pc' := 31) rfl rfl (by decide) (by decide) rfl ?_
  have s6 := s5.put (k := 2) (v := 4) rfl
  generalize uR R5 1 2 (some 4) = R6 at s6 ⊢
  refine R_aload_n (pc' := 32) rfl rfl rfl ?_
  refine R_iload_n (pc' := 33) rfl rfl rfl ?_
  refine R_iconst (pc' := 34) rfl rfl ?_
  refine R_iadd (pc' := 35) rfl rfl ⟨by decide, by decide⟩ ?_
  show Run 42 35 [vR (some 1), vI 3000] [vI 3001, vR (some 1)] _ _
  refine N_newarrL (pc' := 37) rfl rfl (t' := 6) rfl (by decide) (by decide) (by decide) (by decide) ?_
  have s7 := s6.arrL (t' := 6) rfl (xr_0 (t := 5) (by decide))
  generalize nR R6 5 = R7 at s7 ⊢
  refine N_putRF (pc' := 40) rfl rfl (by decide) (by decide) rfl ?_
  have s8 := s7.put (k := 3) (v := 5) rfl
  generalize uR R7 1 3 (some 5) = R8 at s8 ⊢
  refine R_aload_n (pc' := 41) rfl rfl rfl ?_
  refine R_iconst (pc' := 42) rfl rfl ?_
  refine N_newarrL (pc' := 44) rfl rfl (t' := 7) rfl (by decide) (by decide) (by decide) (by decide) ?_
  have s9 := s8.arrL (t' := 7) rfl (xr_0 (t := 6) (by decide))
  generalize nR R8 6 = R9 at s9 ⊢
  refine N_putR (pc' := 47) rfl rfl (by decide) (by decide) ?_
  have s10 := s9.put (k := 4) (v := 6) rfl
  generalize uR R9 1 4 (some 6) = R10 at s10 ⊢
  refine R_aload_n (pc' := 48) rfl rfl rfl ?_
  refine R_iconst (pc' := 49) rfl rfl ?_
  refine N_putI (pc' := 52) rfl rfl (by decide) (by decide) ?_
  exact R_vret rfl rfl (hQ _ (s10.fin (xr_row (t := 1) (fun j hj => dyn_ge (t := 1) (fun _ => Nat.le_trans (by decide) hj) (fun q => absurd q (by decide)) (fun q => absurd q (by decide)) (by decide)) (by decide +kernel))))
theorem k3_26 {L : Nat} {xs : Nat → Int} {Q : Res → MH → Prop} {R0 : HR} (hQ : ∀ R', GN 26 28 R0 R' → Q (.inl none) (Ct L xs 28 R')) : Call 3 [vR (some 26), vR (some 1), vR (some 10), vR (some 14)] (Ct L xs 27 R0) Q := by
  refine Call_run (ls := [vR (some 26), vR (some 1), vR (some 10), vR (some 14)]) rfl rfl ?_
  have s0 : ST 26 27 R0 [] R0 := ST.beg
  refine R_aload_n (pc' := 1) rfl rfl rfl ?_
  refine R_objinit (pc' := 4) rfl rfl (Nat.le_of_ble_eq_true rfl) ?_
  refine R_aload_n (pc' := 5) rfl rfl rfl ?_
  refine R_aload_n (pc' := 6) rfl rfl rfl ?_
  refine N_putRF (pc' := 9) rfl rfl (by decide) (by decide) rfl ?_
  have s1 := s0.put (k := 0) (v := 1) rfl
  generalize uR R0 26 0 (some 1) = R1 at s1 ⊢
  refine R_aload_n (pc' := 10) rfl rfl rfl ?_
  refine R_aload_n (pc' := 11) rfl rfl rfl ?_
  refine N_putRF (pc' := 14) rfl rfl (by decide) (by decide) rfl ?_
  have s2 := s1.put (k := 1) (v := 10) rfl
  generalize uR R1 26 1 (some 10) = R2 at s2 ⊢
  refine R_aload_n (pc' := 15) rfl rfl rfl ?_
  refine R_aload_n (pc' := 16) rfl rfl rfl ?_
  refine N_putRF (pc' := 19) rfl rfl (by decide) (by decide) rfl ?_
  have s3 := s2.put (k := 2) (v := 14) rfl
  generalize uR R2 26 2 (some 14) = R3 at s3 ⊢
  refine R_aload_n (pc' := 20) rfl rfl rfl ?_
  refine N_newL (pc' := 23) rfl rfl (t' := 28) rfl (by decide) ?_
  refine R_dup (pc' := 24) rfl rfl rfl ?_
  refine N_isN (as := []) (rest := [vR (some 27), vR (some 26)]) (pc' := 27) rfl rfl rfl rfl rfl (Nat.le_of_ble_eq_true rfl) rfl (k0 ⟨rfl, ?_⟩)
  have s4 := s3.arrL (t' := 28) rfl (xr_0 (t := 27) (by decide))
  generalize nR R3 27 = R4 at s4 ⊢
  refine N_putR (pc' := 30) rfl rfl (by decide) (by decide) ?_
  have s5 := s4.put (k := 3) (v := 27) rfl
  generalize uR R4 26 3 (some 27) = R5 at s5 ⊢
  refine R_aload_n (pc' := 31) rfl rfl rfl ?_
  refine R_iconst (pc' := 32) rfl rfl ?_
  refine N_putI (pc' := 35) rfl rfl (by decide) (by decide) ?_
  exact R_vret rfl rfl (hQ _ (s5.fin (xr_row (t := 26) (fun j hj => dyn_ge (t := 26) (fun q => absurd q (by decide)) (fun _ => Nat.le_trans (by decide) hj) (fun q => absurd q (by decide)) (by decide)) (by decide +kernel))))
theorem k16_154 {L : Nat} {xs : Nat → Int} {Q : Res → MH → Prop} {R0 : HR} (hQ : ∀ R', GN 154 159 R0 R' → Q (.inl none) (Ct L xs 159 R')) : Call 16 [vR (some 154)] (Ct L xs 155 R0) Q := by
  refine Call_run (ls := [vR (some 154)]) rfl rfl ?_
  have s0 : ST 154 155 R0 [] R0 := ST.beg
  refine R_aload_n (pc' := 1) rfl rfl rfl ?_
  refine R_objinit (pc' := 4) rfl rfl (Nat.le_of_ble_eq_true rfl) ?_
  refine R_aload_n (pc' := 5) rfl rfl rfl ?_
  refine R_bipush (pc' := 7) rfl rfl ?_
  refine N_newarrL (pc' := 9) rfl rfl (t' := 156) rfl (by decide) (by decide) (by decide) (by decide) ?_
  have s1 := s0.arrL (t' := 156) rfl (xr_0 (t := 155) (by decide))
  generalize nR R0 155 = R1 at s1 ⊢
  refine N_putRF (pc' := 12) rfl rfl (by decide) (by decide) rfl ?_
  have s2 := s1.put (k := 0) (v := 155) rfl
  generalize uR R1 154 0 (some 155) = R2 at s2 ⊢
  refine R_aload_n (pc' := 13) rfl rfl rfl ?_
  refine R_bipush (pc' := 15) rfl rfl ?_
  refine N_newarrL (pc' := 17) rfl rfl (t' := 157) rfl (by decide) (by decide) (by decide) (by decide) ?_
  have s3 := s2.arrL (t' := 157) rfl (xr_0 (t := 156) (by decide))
  generalize nR R2 156 = R3 at s3 ⊢
  refine N_putRF (pc' := 20) rfl rfl (by decide) (by decide) rfl ?_
  have s4 := s3.put (k := 2) (v := 156) rfl
  generalize uR R3 154 2 (some 156) = R4 at s4 ⊢
  refine R_aload_n (pc' := 21) rfl rfl rfl ?_
  refine R_bipush (pc' := 23) rfl rfl ?_
  refine N_newarrL (pc' := 25) rfl rfl (t' := 158) rfl (by decide) (by decide) (by decide) (by decide) ?_
  have s5 := s4.arrL (t' := 158) rfl (xr_0 (t := 157) (by decide))
  generalize nR R4 157 = R5 at s5 ⊢
  refine N_putRF (pc' := 28) rfl rfl (by decide) (by decide) rfl ?_
  have s6 := s5.put (k := 3) (v := 157) rfl
  generalize uR R5 154 3 (some 157) = R6 at s6 ⊢
  refine R_aload_n (pc' := 29) rfl rfl rfl ?_
  refine R_bipush (pc' := 31) rfl rfl ?_
  refine N_newarrL (pc' := 33) rfl rfl (t' := 159) rfl (by decide) (by decide) (by decide) (by decide) ?_
  have s7 := s6.arrL (t' := 159) rfl (xr_0 (t := 158) (by decide))
  generalize nR R6 158 = R7 at s7 ⊢
  refine N_putRF (pc' := 36) rfl rfl (by decide) (by decide) rfl ?_
  have s8 := s7.put (k := 4) (v := 158) rfl
  generalize uR R7 154 4 (some 158) = R8 at s8 ⊢
  refine R_aload_n (pc' := 37) rfl rfl rfl ?_
  refine R_iconst (pc' := 38) rfl rfl ?_
  refine N_putI (pc' := 41) rfl rfl (by decide) (by decide) ?_
  refine R_aload_n (pc' := 42) rfl rfl rfl ?_
  refine R_iconst (pc' := 43) rfl rfl ?_
  refine N_putI (pc' := 46) rfl rfl (by decide) (by decide) ?_
  exact R_vret rfl rfl (hQ _ (s8.fin (xr_row (t := 154) (fun j hj => dyn_no (by decide)) (by decide +kernel))))
theorem k3_177 {L : Nat} {xs : Nat → Int} {Q : Res → MH → Prop} {R0 : HR} (hQ : ∀ R', GN 177 179 R0 R' → Q (.inl none) (Ct L xs 179 R')) : Call 3 [vR (some 177), vR (some 1), vR (some 161), vR (some 165)] (Ct L xs 178 R0) Q := by
  refine Call_run (ls := [vR (some 177), vR (some 1), vR (some 161), vR (some 165)]) rfl rfl ?_
  have s0 : ST 177 178 R0 [] R0 := ST.beg
  refine R_aload_n (pc' := 1) rfl rfl rfl ?_
  refine R_objinit (pc' := 4) rfl rfl (Nat.le_of_ble_eq_true rfl) ?_
  refine R_aload_n (pc' := 5) rfl rfl rfl ?_
  refine R_aload_n (pc' := 6) rfl rfl rfl ?_
  refine N_putRF (pc' := 9) rfl rfl (by decide) (by decide) rfl ?_
  have s1 := s0.put (k := 0) (v := 1) rfl
  generalize uR R0 177 0 (some 1) = R1 at s1 ⊢
  refine R_aload_n (pc' := 10) rfl rfl rfl ?_
  refine R_aload_n (pc' := 11) rfl rfl rfl ?_
  refine N_putRF (pc' := 14) rfl rfl (by decide) (by decide) rfl ?_
  have s2 := s1.put (k := 1) (v := 161) rfl
  generalize uR R1 177 1 (some 161) = R2 at s2 ⊢
  refine R_aload_n (pc' := 15) rfl rfl rfl ?_
  refine R_aload_n (pc' := 16) rfl rfl rfl ?_
  refine N_putRF (pc' := 19) rfl rfl (by decide) (by decide) rfl ?_
  have s3 := s2.put (k := 2) (v := 165) rfl
  generalize uR R2 177 2 (some 165) = R3 at s3 ⊢
  refine R_aload_n (pc' := 20) rfl rfl rfl ?_
  refine N_newL (pc' := 23) rfl rfl (t' := 179) rfl (by decide) ?_
  refine R_dup (pc' := 24) rfl rfl rfl ?_
  refine N_isN (as := []) (rest := [vR (some 178), vR (some 177)]) (pc' := 27) rfl rfl rfl rfl rfl (Nat.le_of_ble_eq_true rfl) rfl (k0 ⟨rfl, ?_⟩)
  have s4 := s3.arrL (t' := 179) rfl (xr_0 (t := 178) (by decide))
  generalize nR R3 178 = R4 at s4 ⊢
  refine N_putR (pc' := 30) rfl rfl (by decide) (by decide) ?_
  have s5 := s4.put (k := 3) (v := 178) rfl
  generalize uR R4 177 3 (some 178) = R5 at s5 ⊢
  refine R_aload_n (pc' := 31) rfl rfl rfl ?_
  refine R_iconst (pc' := 32) rfl rfl ?_
  refine N_putI (pc' := 35) rfl rfl (by decide) (by decide) ?_
  exact R_vret rfl rfl (hQ _ (s5.fin (xr_row (t := 177) (fun j hj => dyn_ge (t := 177) (fun q => absurd q (by decide)) (fun _ => Nat.le_trans (by decide) hj) (fun q => absurd q (by decide)) (by decide)) (by decide +kernel))))
theorem k16_305 {L : Nat} {xs : Nat → Int} {Q : Res → MH → Prop} {R0 : HR} (hQ : ∀ R', GN 305 310 R0 R' → Q (.inl none) (Ct L xs 310 R')) : Call 16 [vR (some 305)] (Ct L xs 306 R0) Q := by
  refine Call_run (ls := [vR (some 305)]) rfl rfl ?_
  have s0 : ST 305 306 R0 [] R0 := ST.beg
  refine R_aload_n (pc' := 1) rfl rfl rfl ?_
  refine R_objinit (pc' := 4) rfl rfl (Nat.le_of_ble_eq_true rfl) ?_
  refine R_aload_n (pc' := 5) rfl rfl rfl ?_
  refine R_bipush (pc' := 7) rfl rfl ?_
  refine N_newarrL (pc' := 9) rfl rfl (t' := 307) rfl (by decide) (by decide) (by decide) (by decide) ?_
  have s1 := s0.arrL (t' := 307) rfl (xr_0 (t := 306) (by decide))
  generalize nR R0 306 = R1 at s1 ⊢
  refine N_putRF (pc' := 12) rfl rfl (by decide) (by decide) rfl ?_
  have s2 := s1.put (k := 0) (v := 306) rfl
  generalize uR R1 305 0 (some 306) = R2 at s2 ⊢
  refine R_aload_n (pc' := 13) rfl rfl rfl ?_
  refine R_bipush (pc' := 15) rfl rfl ?_
  refine N_newarrL (pc' := 17) rfl rfl (t' := 308) rfl (by decide) (by decide) (by decide) (by decide) ?_
  have s3 := s2.arrL (t' := 308) rfl (xr_0 (t := 307) (by decide))
  generalize nR R2 307 = R3 at s3 ⊢
  refine N_putRF (pc' := 20) rfl rfl (by decide) (by decide) rfl ?_
  have s4 := s3.put (k := 2) (v := 307) rfl
  generalize uR R3 305 2 (some 307) = R4 at s4 ⊢
  refine R_aload_n (pc' := 21) rfl rfl rfl ?_
  refine R_bipush (pc' := 23) rfl rfl ?_
  refine N_newarrL (pc' := 25) rfl rfl (t' := 309) rfl (by decide) (by decide) (by decide) (by decide) ?_
  have s5 := s4.arrL (t' := 309) rfl (xr_0 (t := 308) (by decide))
  generalize nR R4 308 = R5 at s5 ⊢
  refine N_putRF (pc' := 28) rfl rfl (by decide) (by decide) rfl ?_
  have s6 := s5.put (k := 3) (v := 308) rfl
  generalize uR R5 305 3 (some 308) = R6 at s6 ⊢
  refine R_aload_n (pc' := 29) rfl rfl rfl ?_
  refine R_bipush (pc' := 31) rfl rfl ?_
  refine N_newarrL (pc' := 33) rfl rfl (t' := 310) rfl (by decide) (by decide) (by decide) (by decide) ?_
  have s7 := s6.arrL (t' := 310) rfl (xr_0 (t := 309) (by decide))
  generalize nR R6 309 = R7 at s7 ⊢
  refine N_putRF (pc' := 36) rfl rfl (by decide) (by decide) rfl ?_
  have s8 := s7.put (k := 4) (v := 309) rfl
  generalize uR R7 305 4 (some 309) = R8 at s8 ⊢
  refine R_aload_n (pc' := 37) rfl rfl rfl ?_
  refine R_iconst (pc' := 38) rfl rfl ?_
  refine N_putI (pc' := 41) rfl rfl (by decide) (by decide) ?_
  refine R_aload_n (pc' := 42) rfl rfl rfl ?_
  refine R_iconst (pc' := 43) rfl rfl ?_
  refine N_putI (pc' := 46) rfl rfl (by decide) (by decide) ?_
  exact R_vret rfl rfl (hQ _ (s8.fin (xr_row (t := 305) (fun j hj => dyn_no (by decide)) (by decide +kernel))))
theorem k23_8 {L : Nat} {xs : Nat → Int} {Q : Res → MH → Prop} {R0 : HR} (hQ : ∀ R', GN 8 159 R0 R' → Q (.inl none) (Ct L xs 159 R')) : Call 23 [vR (some 8), vR (some 1), vI 1500] (Ct L xs 9 R0) Q := by
  refine Call_run (ls := [vR (some 8), vR (some 1), vI 1500, vJ]) rfl rfl ?_
  have s0 : ST 8 9 R0 [] R0 := ST.beg
  refine R_aload_n (pc' := 1) rfl rfl rfl ?_
  refine R_objinit (pc' := 4) rfl rfl (Nat.le_of_ble_eq_true rfl) ?_
  refine R_aload_n (pc' := 5) rfl rfl rfl ?_
  refine R_aload_n (pc' := 6) rfl rfl rfl ?_
  refine N_putRF (pc' := 9) rfl rfl (by decide) (by decide) rfl ?_
  have s1 := s0.put (k := 0) (v := 1) rfl
  generalize uR R0 8 0 (some 1) = R1 at s1 ⊢
  refine R_aload_n (pc' := 10) rfl rfl rfl ?_
  refine R_iload_n (pc' := 11) rfl rfl rfl ?_
  refine N_newarrL (pc' := 13) rfl rfl (t' := 10) rfl (by decide) (by decide) (by decide) (by decide) ?_
  have s2 := s1.arrL (t' := 10) rfl (xr_0 (t := 9) (by decide))
  generalize nR R1 9 = R2 at s2 ⊢
  refine N_putRF (pc' := 16) rfl rfl (by decide) (by decide) rfl ?_
  have s3 := s2.put (k := 1) (v := 9) rfl
  generalize uR R2 8 1 (some 9) = R3 at s3 ⊢
  refine R_aload_n (pc' := 17) rfl rfl rfl ?_
  refine R_iconst (pc' := 18) rfl rfl ?_
  refine N_putI (pc' := 21) rfl rfl (by decide) (by decide) ?_
  refine R_aload_n (pc' := 22) rfl rfl rfl ?_
  refine N_newL (pc' := 25) rfl rfl (t' := 11) rfl (by decide) ?_
  refine R_dup (pc' := 26) rfl rfl rfl ?_
  refine R_iload_n (pc' := 27) rfl rfl rfl ?_
  refine R_iconst (pc' := 28) rfl rfl ?_
  refine R_idiv (pc' := 29) rfl rfl (by decide) ⟨by decide, by decide⟩ ?_
  show Run 23 29 [vR (some 8), vR (some 1), vI 1500, vJ] [vI 300, vR (some 10), vR (some 10), vR (some 8)] _ _
  refine R_iconst (pc' := 30) rfl rfl ?_
  refine R_iadd (pc' := 31) rfl rfl ⟨by decide, by decide⟩ ?_
  show Run 23 31 [vR (some 8), vR (some 1), vI 1500, vJ] [vI 301, vR (some 10), vR (some 10), vR (some 8)] _ _
  refine N_is (as := [vI 301]) (rest := [vR (some 10), vR (some 8)]) (pc' := 34) rfl rfl rfl rfl rfl (Nat.le_of_ble_eq_true rfl) rfl (k10 (q := 10) (by decide) (by decide) (by decide) fun R4 g4 => ⟨rfl, ?_⟩)
  have s4 := s3.sub (t' := 14) (by decide) g4
  show Run 23 34 [vR (some 8), vR (some 1), vI 1500, vJ] [vR (some 10), vR (some 8)] (Ct L xs 14 R4) _
  refine N_putRF (pc' := 37) rfl rfl (by decide) (by decide) rfl ?_
  have s5 := s4.put (k := 3) (v := 10) rfl
  generalize uR R4 8 3 (some 10) = R5 at s5 ⊢
  refine R_aload_n (pc' := 38) rfl rfl rfl ?_
  refine N_newL (pc' := 41) rfl rfl (t' := 15) rfl (by decide) ?_
  refine R_dup (pc' := 42) rfl rfl rfl ?_
  refine R_iload_n (pc' := 43) rfl rfl rfl ?_
  refine R_bipush (pc' := 45) rfl rfl ?_
  refine R_idiv (pc' := 46) rfl rfl (by decide) ⟨by decide, by decide⟩ ?_
  show Run 23 46 [vR (some 8), vR (some 1), vI 1500, vJ] [vI 187, vR (some 14), vR (some 14), vR (some 8)] _ _
  refine R_iconst (pc' := 47) rfl rfl ?_
  refine R_iadd (pc' := 48) rfl rfl ⟨by decide, by decide⟩ ?_
  show Run 23 48 [vR (some 8), vR (some 1), vI 1500, vJ] [vI 188, vR (some 14), vR (some 14), vR (some 8)] _ _
  refine N_is (as := [vI 188]) (rest := [vR (some 14), vR (some 8)]) (pc' := 51) rfl rfl rfl rfl rfl (Nat.le_of_ble_eq_true rfl) rfl (k10 (q := 14) (by decide) (by decide) (by decide) fun R6 g6 => ⟨rfl, ?_⟩)
  have s6 := s5.sub (t' := 18) (by decide) g6
  show Run 23 51 [vR (some 8), vR (some 1), vI 1500, vJ] [vR (some 14), vR (some 8)] (Ct L xs 18 R6) _
  refine N_putRF (pc' := 54) rfl rfl (by decide) (by decide) rfl ?_
  have s7 := s6.put (k := 4) (v := 14) rfl
  generalize uR R6 8 4 (some 14) = R7 at s7 ⊢
  refine R_aload_n (pc' := 55) rfl rfl rfl ?_
  refine N_newL (pc' := 58) rfl rfl (t' := 19) rfl (by decide) ?_
  refine R_dup (pc' := 59) rfl rfl rfl ?_
  refine R_iload_n (pc' := 60) rfl rfl rfl ?_
  refine R_iconst (pc' := 61) rfl rfl ?_
  refine R_idiv (pc' := 62) rfl rfl (by decide) ⟨by decide, by decide⟩ ?_
  show Run 23 62 [vR (some 8), vR (some 1), vI 1500, vJ] [vI 500, vR (some 18), vR (some 18), vR (some 8)] _ _
  refine R_bipush (pc' := 64) rfl rfl ?_
  refine R_iadd (pc' := 65) rfl rfl ⟨by decide, by decide⟩ ?_
  show Run 23 65 [vR (some 8), vR (some 1), vI 1500, vJ] [vI 510, vR (some 18), vR (some 18), vR (some 8)] _ _
  refine N_is (as := [vI 510]) (rest := [vR (some 18), vR (some 8)]) (pc' := 68) rfl rfl rfl rfl rfl (Nat.le_of_ble_eq_true rfl) rfl (k10 (q := 18) (by decide) (by decide) (by decide) fun R8 g8 => ⟨rfl, ?_⟩)
  have s8 := s7.sub (t' := 22) (by decide) g8
  show Run 23 68 [vR (some 8), vR (some 1), vI 1500, vJ] [vR (some 18), vR (some 8)] (Ct L xs 22 R8) _
  refine N_putRF (pc' := 71) rfl rfl (by decide) (by decide) rfl ?_
  have s9 := s8.put (k := 5) (v := 18) rfl
  generalize uR R8 8 5 (some 18) = R9 at s9 ⊢
  refine R_aload_n (pc' := 72) rfl rfl rfl ?_
  refine N_newL (pc' := 75) rfl rfl (t' := 23) rfl (by decide) ?_
  refine R_dup (pc' := 76) rfl rfl rfl ?_
  refine R_iload_n (pc' := 77) rfl rfl rfl ?_
  refine R_bipush (pc' := 79) rfl rfl ?_
  refine R_idiv (pc' := 80) rfl rfl (by decide) ⟨by decide, by decide⟩ ?_
  show Run 23 80 [vR (some 8), vR (some 1), vI 1500, vJ] [vI 214, vR (some 22), vR (some 22), vR (some 8)] _ _
  refine R_iconst (pc' := 81) rfl rfl ?_
  refine R_iadd (pc' := 82) rfl rfl ⟨by decide, by decide⟩ ?_
  show Run 23 82 [vR (some 8), vR (some 1), vI 1500, vJ] [vI 215, vR (some 22), vR (some 22), vR (some 8)] _ _
  refine N_is (as := [vI 215]) (rest := [vR (some 22), vR (some 8)]) (pc' := 85) rfl rfl rfl rfl rfl (Nat.le_of_ble_eq_true rfl) rfl (k10 (q := 22) (by decide) (by decide) (by decide) fun R10 g10 => ⟨rfl, ?_⟩)
  have s10 := s9.sub (t' := 26) (by decide) g10
  show Run 23 85 [vR (some 8), vR (some 1), vI 1500, vJ] [vR (some 22), vR (some 8)] (Ct L xs 26 R10) _
  refine N_putRF (pc' := 88) rfl rfl (by decide) (by decide) rfl ?_
  have s11 := s10.put (k := 6) (v := 22) rfl
  generalize uR R10 8 6 (some 22) = R11 at s11 ⊢
  refine R_aload_n (pc' := 89) rfl rfl rfl ?_
  refine N_newL (pc' := 92) rfl rfl (t' := 27) rfl (by decide) ?_
  refine R_dup (pc' := 93) rfl rfl rfl ?_
  refine R_aload_n (pc' := 94) rfl rfl rfl ?_
  refine R_aload_n (pc' := 95) rfl rfl rfl ?_
  have f95 : (nR R11 26) 8 3 = some 10 := by
    show (if 8 = 26 then none else R11 8 3) = _
    rw [if_neg (by decide)]; exact s11.2.2.2 (3, 10) (by decide)
  refine R_getR (pc' := 98) rfl rfl (by decide) (by decide) ?_
  show Run 23 98 [vR (some 8), vR (some 1), vI 1500, vJ] [vR ((nR R11 26) 8 3), vR (some 1), vR (some 26), vR (some 26), vR (some 8)] _ _
  rw [f95]
  refine R_aload_n (pc' := 99) rfl rfl rfl ?_
  have f99 : (nR R11 26) 8 4 = some 14 := by
    show (if 8 = 26 then none else R11 8 4) = _
    rw [if_neg (by decide)]; exact s11.2.2.2 (4, 14) (by decide)
  refine R_getR (pc' := 102) rfl rfl (by decide) (by decide) ?_
  show Run 23 102 [vR (some 8), vR (some 1), vI 1500, vJ] [vR ((nR R11 26) 8 4), vR (some 10), vR (some 1), vR (some 26), vR (some 26), vR (some 8)] _ _
  rw [f99]
  refine N_is (as := [vR (some 1), vR (some 10), vR (some 14)]) (rest := [vR (some 26), vR (some 8)]) (pc' := 105) rfl rfl rfl rfl rfl (Nat.le_of_ble_eq_true rfl) rfl (k3_26 fun R12 g12 => ⟨rfl, ?_⟩)
  have s12 := s11.sub (t' := 28) (by decide) g12
  show Run 23 105 [vR (some 8), vR (some 1), vI 1500, vJ] [vR (some 26), vR (some 8)] (Ct L xs 28 R12) _
  refine N_putRF (pc' := 108) rfl rfl (by decide) (by decide) rfl ?_
  have s13 := s12.put (k := 7) (v := 26) rfl
  generalize uR R12 8 7 (some 26) = R13 at s13 ⊢
  refine R_aload_n (pc' := 109) rfl rfl rfl ?_
  refine N_newL (pc' := 112) rfl rfl (t' := 29) rfl (by decide) ?_
  refine R_dup (pc' := 113) rfl rfl rfl ?_
  refine N_isN (as := []) (rest := [vR (some 28), vR (some 8)]) (pc' := 116) rfl rfl rfl rfl rfl (Nat.le_of_ble_eq_true rfl) rfl (k0 ⟨rfl, ?_⟩)
  have s14 := s13.arrL (t' := 29) rfl (xr_0 (t := 28) (by decide))
  generalize nR R13 28 = R14 at s14 ⊢
  refine N_putRF (pc' := 119) rfl rfl (by decide) (by decide) rfl ?_
  have s15 := s14.put (k := 8) (v := 28) rfl
  generalize uR R14 8 8 (some 28) = R15 at s15 ⊢
  refine R_aload_n (pc' := 120) rfl rfl rfl ?_
  refine R_bipush (pc' := 122) rfl rfl ?_
  refine N_anewL (pc' := 125) rfl rfl (t' := 30) rfl (by decide) (by decide) (by decide) ?_
  have s16 := (ST.obj (q := 8) s15 : SS 8 30 _ _ 0 _)
  generalize nR R15 29 = R16 at s16 ⊢
  refine N_putRF (pc' := 128) rfl rfl (by decide) (by decide) rfl ?_
  have s17 := s16.put (k := 9) (v := 29) rfl
  generalize uR R16 8 9 (some 29) = R17 at s17 ⊢
  refine R_iconst (pc' := 129) rfl rfl ?_
  refine R_istore_n (ls' := [vR (some 8), vR (some 1), vI 1500, vI 0]) (pc' := 130) rfl rfl rfl ?_
  -- behind the loop
  have tail : ∀ R : HR, SS 8 152 R0 [(9, 29), (8, 28), (7, 26), (6, 22), (5, 18), (4, 14), (3, 10), (1, 9), (0, 1)] 61 R → Run 23 158 [vR (some 8), vR (some 1), vI 1500, vJ] [] (Ct L xs 152 R) Q := by
    intro R117 h61
    have s117 := h61.all (by decide)
    refine R_aload_n (pc' := 159) rfl rfl rfl ?_
    refine N_newL (pc' := 162) rfl rfl (t' := 153) rfl (by decide) ?_
    refine R_dup (pc' := 163) rfl rfl rfl ?_
    refine N_is (as := []) (rest := [vR (some 152), vR (some 8)]) (pc' := 166) rfl rfl rfl rfl rfl (Nat.le_of_ble_eq_true rfl) rfl (k8 (q := 152) (by decide) fun R118 g118 => ⟨rfl, ?_⟩)
    have s118 := s117.sub (t' := 154) (by decide) g118
    show Run 23 166 [vR (some 8), vR (some 1), vI 1500, vJ] [vR (some 152), vR (some 8)] (Ct L xs 154 R118) _
    refine N_putR (pc' := 169) rfl rfl (by decide) (by decide) ?_
    have s119 := s118.put (k := 10) (v := 152) rfl
    generalize uR R118 8 10 (some 152) = R119 at s119 ⊢
    refine R_aload_n (pc' := 170) rfl rfl rfl ?_
    refine N_newL (pc' := 173) rfl rfl (t' := 155) rfl (by decide) ?_
    refine R_dup (pc' := 174) rfl rfl rfl ?_
    refine N_is (as := []) (rest := [vR (some 154), vR (some 8)]) (pc' := 177) rfl rfl rfl rfl rfl (Nat.le_of_ble_eq_true rfl) rfl (k16_154 fun R120 g120 => ⟨rfl, ?_⟩)
    have s120 := s119.sub (t' := 159) (by decide) g120
    show Run 23 177 [vR (some 8), vR (some 1), vI 1500, vJ] [vR (some 154), vR (some 8)] (Ct L xs 159 R120) _
    refine N_putRF (pc' := 180) rfl rfl (by decide) (by decide) rfl ?_
    have s121 := s120.put (k := 16) (v := 154) rfl
    generalize uR R120 8 16 (some 154) = R121 at s121 ⊢
    exact R_vret rfl rfl (hQ _ (s121.fin (xr_row (t := 8) (fun j hj => dyn_ge (t := 8) (fun q => absurd q (by decide)) (fun q => absurd q (by decide)) (fun _ => Nat.le_trans (by decide) hj) (by decide)) (by decide +kernel))))
  have loop : ∀ (k i : Nat) (R : HR), i ≤ 61 → 61 - i = k → SS 8 (30 + 2 * i) R0 [(9, 29), (8, 28), (7, 26), (6, 22), (5, 18), (4, 14), (3, 10), (1, 9), (0, 1)] i R → Run 23 130 [vR (some 8), vR (some 1), vI 1500, vI (i : Int)] [] (Ct L xs (30 + 2 * i) R) Q := by
    intro k
    induction k with
    | zero =>
      intro i R hi hk s
      have : i = 61 := by omega
      subst this
      have f : R 8 9 = some 29 := s.2.2.2.1 (9, 29) (by decide)
      refine R_iload_n (pc' := 131) rfl rfl rfl (R_aload_n (pc' := 132) rfl rfl rfl (R_getR (pc' := 135) rfl rfl (by decide) (by decide) ?_))
      show Run 23 135 _ [vR (R 8 9), vI ((61 : Nat) : Int)] (Ct L xs _ R) Q
      rw [f]
      refine R_alen (pc' := 136) rfl rfl 4 (by decide) (by decide) (R_icge (pc' := 139) rfl rfl (fun _ => ?_) (fun q => absurd (by decide) q))
      exact R_forget (ls' := [vR (some 8), vR (some 1), vI 1500, vJ]) ⟨Or.inl rfl, Or.inl rfl, Or.inl rfl, Or.inr rfl, trivial⟩ (tail R s)
    | succ k ih =>
      intro i R hi hk s
      have f : R 8 9 = some 29 := s.2.2.2.1 (9, 29) (by decide)
      have l61 : L0 29 = 61 := by decide
      have hk3 : K0 (30 + 2 * i) = 3 := by
        have : ∀ i, i < 61 → K0 (30 + 2 * i) = 3 := by decide
        exact this i (by omega)
      refine R_iload_n (pc' := 131) rfl rfl rfl (R_aload_n (pc' := 132) rfl rfl rfl (R_getR (pc' := 135) rfl rfl (by decide) (by decide) ?_))
      show Run 23 135 _ [vR (R 8 9), vI (i : Int)] (Ct L xs _ R) Q
      rw [f]
      refine R_alen (pc' := 136) rfl rfl 4 (by decide) (by decide) (R_icge (pc' := 139) rfl rfl (fun q => ?_) (fun q => ?_))
      · rw [l61] at q; omega
      · refine R_aload_n (pc' := 140) rfl rfl rfl (R_getR (pc' := 143) rfl rfl (by decide) (by decide) ?_)
        show Run 23 143 _ [vR (R 8 9)] (Ct L xs _ R) Q
        rw [f]
        refine R_iload_n (pc' := 144) rfl rfl rfl (N_new (pc' := 147) rfl rfl hk3 (R_dup (pc' := 148) rfl rfl rfl (N_is (as := []) (rest := [vR (some (30 + 2 * i)), vI (i : Int), vR (some 29)]) (pc' := 151) rfl rfl rfl rfl rfl (Nat.le_of_ble_eq_true rfl) rfl (k8 hk3 fun R1 g1 => ⟨rfl, R_aast (pc' := 152) rfl rfl (by decide) (by omega) (by rw [l61]; omega) hk3 (R_iinc (ls' := [vR (some 8), vR (some 1), vI 1500, vI ((i : Int) + 1)]) (pc' := 155) rfl rfl rfl ⟨by omega, by omega⟩ rfl (R_goto rfl ?_))⟩))))
        rw [Int.toNat_natCast]
        exact ih (i + 1) _ (by omega) (by omega) (s.one rfl g1)
  exact loop 61 0 R17 (by omega) rfl s17
theorem k23_159 {L : Nat} {xs : Nat → Int} {Q : Res → MH → Prop} {R0 : HR} (hQ : ∀ R', GN 159 310 R0 R' → Q (.inl none) (Ct L xs 310 R')) : Call 23 [vR (some 159), vR (some 1), vI 3000] (Ct L xs 160 R0) Q := by
  refine Call_run (ls := [vR (some 159), vR (some 1), vI 3000, vJ]) rfl rfl ?_
  have s0 : ST 159 160 R0 [] R0 := ST.beg
  refine R_aload_n (pc' := 1) rfl rfl rfl ?_
  refine R_objinit (pc' := 4) rfl rfl (Nat.le_of_ble_eq_true rfl) ?_
  refine R_aload_n (pc' := 5) rfl rfl rfl ?_
  refine R_aload_n (pc' := 6) rfl rfl rfl ?_
  refine N_putRF (pc' := 9) rfl rfl (by decide) (by decide) rfl ?_
  have s1 := s0.put (k := 0) (v := 1) rfl
  generalize uR R0 159 0 (some 1) = R1 at s1 ⊢
  refine R_aload_n (pc' := 10) rfl rfl rfl ?_
  refine R_iload_n (pc' := 11) rfl rfl rfl ?_
  refine N_newarrL (pc' := 13) rfl rfl (t' := 161) rfl (by decide) (by decide) (by decide) (by decide) ?_
  have s2 := s1.arrL (t' := 161) rfl (xr_0 (t := 160) (by decide))
  generalize nR R1 160 = R2 at s2 ⊢
  refine N_putRF (pc' := 16) rfl rfl (by decide) (by decide) rfl ?_
  have s3 := s2.put (k := 1) (v := 160) rfl
  generalize uR R2 159 1 (some 160) = R3 at s3 ⊢
  refine R_aload_n (pc' := 17) rfl rfl rfl ?_
  refine R_iconst (pc' := 18) rfl rfl ?_
  refine N_putI (pc' := 21) rfl rfl (by decide) (by decide) ?_
  refine R_aload_n (pc' := 22) rfl rfl rfl ?_
  refine N_newL (pc' := 25) rfl rfl (t' := 162) rfl (by decide) ?_
  refine R_dup (pc' := 26) rfl rfl rfl ?_
  refine R_iload_n (pc' := 27) rfl rfl rfl ?_
  refine R_iconst (pc' := 28) rfl rfl ?_
  refine R_idiv (pc' := 29) rfl rfl (by decide) ⟨by decide, by decide⟩ ?_
  show Run 23 29 [vR (some 159), vR (some 1), vI 3000, vJ] [vI 600, vR (some 161), vR (some 161), vR (some 159)] _ _
  refine R_iconst (pc' := 30) rfl rfl ?_
  refine R_iadd (pc' := 31) rfl rfl ⟨by decide, by decide⟩ ?_
  show Run 23 31 [vR (some 159), vR (some 1), vI 3000, vJ] [vI 601, vR (some 161), vR (some 161), vR (some 159)] _ _
  refine N_is (as := [vI 601]) (rest := [vR (some 161), vR (some 159)]) (pc' := 34) rfl rfl rfl rfl rfl (Nat.le_of_ble_eq_true rfl) rfl (k10 (q := 161) (by decide) (by decide) (by decide) fun R4 g4 => ⟨rfl, ?_⟩)
  have s4 := s3.sub (t' := 165) (by decide) g4
  show Run 23 34 [vR (some 159), vR (some 1), vI 3000, vJ] [vR (some 161), vR (some 159)] (Ct L xs 165 R4) _
  refine N_putRF (pc' := 37) rfl rfl (by decide) (by decide) rfl ?_
  have s5 := s4.put (k := 3) (v := 161) rfl
  generalize uR R4 159 3 (some 161) = R5 at s5 ⊢
  refine R_aload_n (pc' := 38) rfl rfl rfl ?_
  refine N_newL (pc' := 41) rfl rfl (t' := 166) rfl (by decide) ?_
  refine R_dup (pc' := 42) rfl rfl rfl ?_
  refine R_iload_n (pc' := 43) rfl rfl rfl ?_
  refine R_bipush (pc' := 45) rfl rfl ?_
  refine R_idiv (pc' := 46) rfl rfl (by decide) ⟨by decide, by decide⟩ ?_
  show Run 23 46 [vR (some 159), vR (some 1), vI 3000, vJ] [vI 375, vR (some 165), vR (some 165), vR (some 159)] _ _
  refine R_iconst (pc' := 47) rfl rfl ?_
  refine R_iadd (pc' := 48) rfl rfl ⟨by decide, by decide⟩ ?_
  show Run 23 48 [vR (some 159), vR (some 1), vI 3000, vJ] [vI 376, vR (some 165), vR (some 165), vR (some 159)] _ _
  refine N_is (as := [vI 376]) (rest := [vR (some 165), vR (some 159)]) (pc' := 51) rfl rfl rfl rfl rfl (Nat.le_of_ble_eq_true rfl) rfl (k10 (q := 165) (by decide) (by decide) (by decide) fun R6 g6 => ⟨rfl, ?_⟩)
  have s6 := s5.sub (t' := 169) (by decide) g6
  show Run 23 51 [vR (some 159), vR (some 1), vI 3000, vJ] [vR (some 165), vR (some 159)] (Ct L xs 169 R6) _
  refine N_putRF (pc' := 54) rfl rfl (by decide) (by decide) rfl ?_
  have s7 := s6.put (k := 4) (v := 165) rfl
  generalize uR R6 159 4 (some 165) = R7 at s7 ⊢
  refine R_aload_n (pc' := 55) rfl rfl rfl ?_
  refine N_newL (pc' := 58) rfl rfl (t' := 170) rfl (by decide) ?_
  refine R_dup (pc' := 59) rfl rfl rfl ?_
  refine R_iload_n (pc' := 60) rfl rfl rfl ?_
  refine R_iconst (pc' := 61) rfl rfl ?_
  refine R_idiv (pc' := 62) rfl rfl (by decide) ⟨by decide, by decide⟩ ?_
  show Run 23 62 [vR (some 159), vR (some 1), vI 3000, vJ] [vI 1000, vR (some 169), vR (some 169), vR (some 159)] _ _
  refine R_bipush (pc' := 64) rfl rfl ?_
  refine R_iadd (pc' := 65) rfl rfl ⟨by decide, by decide⟩ ?_
  show Run 23 65 [vR (some 159), vR (some 1), vI 3000, vJ] [vI 1010, vR (some 169), vR (some 169), vR (some 159)] _ _
  refine N_is (as := [vI 1010]) (rest := [vR (some 169), vR (some 159)]) (pc' := 68) rfl rfl rfl rfl rfl (Nat.le_of_ble_eq_true rfl) rfl (k10 (q := 169) (by decide) (by decide) (by decide) fun R8 g8 => ⟨rfl, ?_⟩)
  have s8 := s7.sub (t' := 173) (by decide) g8
  show Run 23 68 [vR (some 159), vR (some 1), vI 3000, vJ] [vR (some 169), vR (some 159)] (Ct L xs 173 R8) _
  refine N_putRF (pc' := 71) rfl rfl (by decide) (by decide) rfl ?_
  have s9 := s8.put (k := 5) (v := 169) rfl
  generalize uR R8 159 5 (some 169) = R9 at s9 ⊢
  refine R_aload_n (pc' := 72) rfl rfl rfl ?_
  refine N_newL (pc' := 75) rfl rfl (t' := 174) rfl (by decide) ?_
  refine R_dup (pc' := 76) rfl rfl rfl ?_
  refine R_iload_n (pc' := 77) rfl rfl rfl ?_
  refine R_bipush (pc' := 79) rfl rfl ?_
  refine R_idiv (pc' := 80) rfl rfl (by decide) ⟨by decide, by decide⟩ ?_
  show Run 23 80 [vR (some 159), vR (some 1), vI 3000, vJ] [vI 428, vR (some 173), vR (some 173), vR (some 159)] _ _
  refine R_iconst (pc' := 81) rfl rfl ?_
  refine R_iadd (pc' := 82) rfl rfl ⟨by decide, by decide⟩ ?_
  show Run 23 82 [vR (some 159), vR (some 1), vI 3000, vJ] [vI 429, vR (some 173), vR (some 173), vR (some 159)] _ _
  refine N_is (as := [vI 429]) (rest := [vR (some 173), vR (some 159)]) (pc' := 85) rfl rfl rfl rfl rfl (Nat.le_of_ble_eq_true rfl) rfl (k10 (q := 173) (by decide) (by decide) (by decide) fun R10 g10 => ⟨rfl, ?_⟩)
  have s10 := s9.sub (t' := 177) (by decide) g10
  show Run 23 85 [vR (some 159), vR (some 1), vI 3000, vJ] [vR (some 173), vR (some 159)] (Ct L xs 177 R10) _
  refine N_putRF (pc' := 88) rfl rfl (by decide) (by decide) rfl ?_
  have s11 := s10.put (k := 6) (v := 173) rfl
  generalize uR R10 159 6 (some 173) = R11 at s11 ⊢
  refine R_aload_n (pc' := 89) rfl rfl rfl ?_
  refine N_newL (pc' := 92) rfl rfl (t' := 178) rfl (by decide) ?_
  refine R_dup (pc' := 93) rfl rfl rfl ?_
  refine R_aload_n (pc' := 94) rfl rfl rfl ?_
  refine R_aload_n (pc' := 95) rfl rfl rfl ?_
  have f95 : (nR R11 177) 159 3 = some 161 := by
    show (if 159 = 177 then none else R11 159 3) = _
    rw [if_neg (by decide)]; exact s11.2.2.2 (3, 161) (by decide)
  refine R_getR (pc' := 98) rfl rfl (by decide) (by decide) ?_
  show Run 23 98 [vR (some 159), vR (some 1), vI 3000, vJ] [vR ((nR R11 177) 159 3), vR (some 1), vR (some 177), vR (some 177), vR (some 159)] _ _
  rw [f95]
  refine R_aload_n (pc' := 99) rfl rfl rfl ?_
  have f99 : (nR R11 177) 159 4 = some 165 := by
    show (if 159 = 177 then none else R11 159 4) = _
    rw [if_neg (by decide)]; exact s11.2.2.2 (4, 165) (by decide)
  refine R_getR (pc' := 102) rfl rfl (by decide) (by decide) ?_
  show Run 23 102 [vR (some 159), vR (some 1), vI 3000, vJ] [vR ((nR R11 177) 159 4), vR (some 161), vR (some 1), vR (some 177), vR (some 177), vR (some 159)] _ _
  rw [f99]
  refine N_is (as := [vR (some 1), vR (some 161), vR (some 165)]) (rest := [vR (some 177), vR (some 159)]) (pc' := 105) rfl rfl rfl rfl rfl (Nat.le_of_ble_eq_true rfl) rfl (k3_177 fun R12 g12 => ⟨rfl, ?_⟩)
  have s12 := s11.sub (t' := 179) (by decide) g12
  show Run 23 105 [vR (some 159), vR (some 1), vI 3000, vJ] [vR (some 177), vR (some 159)] (Ct L xs 179 R12) _
  refine N_putRF (pc' := 108) rfl rfl (by decide) (by decide) rfl ?_
  have s13 := s12.put (k := 7) (v := 177) rfl
  generalize uR R12 159 7 (some 177) = R13 at s13 ⊢
  refine R_aload_n (pc' := 109) rfl rfl rfl ?_
  refine N_newL (pc' := 112) rfl rfl (t' := 180) rfl (by decide) ?_
  refine R_dup (pc' := 113) rfl rfl rfl ?_
  refine N_isN (as := []) (rest := [vR (some 179), vR (some 159)]) (pc' := 116) rfl rfl rfl rfl rfl (Nat.le_of_ble_eq_true rfl) rfl (k0 ⟨rfl, ?_⟩)
  have s14 := s13.arrL (t' := 180) rfl (xr_0 (t := 179) (by decide))
  generalize nR R13 179 = R14 at s14 ⊢
  refine N_putRF (pc' := 119) rfl rfl (by decide) (by decide) rfl ?_
  have s15 := s14.put (k := 8) (v := 179) rfl
  generalize uR R14 159 8 (some 179) = R15 at s15 ⊢
  refine R_aload_n (pc' := 120) rfl rfl rfl ?_
  refine R_bipush (pc' := 122) rfl rfl ?_
  refine N_anewL (pc' := 125) rfl rfl (t' := 181) rfl (by decide) (by decide) (by decide) ?_
  have s16 := (ST.obj (q := 159) s15 : SS 159 181 _ _ 0 _)
  generalize nR R15 180 = R16 at s16 ⊢
  refine N_putRF (pc' := 128) rfl rfl (by decide) (by decide) rfl ?_
  have s17 := s16.put (k := 9) (v := 180) rfl
  generalize uR R16 159 9 (some 180) = R17 at s17 ⊢
  refine R_iconst (pc' := 129) rfl rfl ?_
  refine R_istore_n (ls' := [vR (some 159), vR (some 1), vI 3000, vI 0]) (pc' := 130) rfl rfl rfl ?_
  -- behind the loop
  have tail : ∀ R : HR, SS 159 303 R0 [(9, 180), (8, 179), (7, 177), (6, 173), (5, 169), (4, 165), (3, 161), (1, 160), (0, 1)] 61 R → Run 23 158 [vR (some 159), vR (some 1), vI 3000, vJ] [] (Ct L xs 303 R) Q := by
    intro R117 h61
    have s117 := h61.all (by decide)
    refine R_aload_n (pc' := 159) rfl rfl rfl ?_
    refine N_newL (pc' := 162) rfl rfl (t' := 304) rfl (by decide) ?_
    refine R_dup (pc' := 163) rfl rfl rfl ?_
    refine N_is (as := []) (rest := [vR (some 303), vR (some 159)]) (pc' := 166) rfl rfl rfl rfl rfl (Nat.le_of_ble_eq_true rfl) rfl (k8 (q := 303) (by decide) fun R118 g118 => ⟨rfl, ?_⟩)
    have s118 := s117.sub (t' := 305) (by decide) g118
    show Run 23 166 [vR (some 159), vR (some 1), vI 3000, vJ] [vR (some 303), vR (some 159)] (Ct L xs 305 R118) _
    refine N_putR (pc' := 169) rfl rfl (by decide) (by decide) ?_
    have s119 := s118.put (k := 10) (v := 303) rfl
    generalize uR R118 159 10 (some 303) = R119 at s119 ⊢
    refine R_aload_n (pc' := 170) rfl rfl rfl ?_
    refine N_newL (pc' := 173) rfl rfl (t' := 306) rfl (by decide) ?_
    refine R_dup (pc' := 174) rfl rfl rfl ?_
    refine N_is (as := []) (rest := [vR (some 305), vR (some 159)]) (pc' := 177) rfl rfl rfl rfl rfl (Nat.le_of_ble_eq_true rfl) rfl (k16_305 fun R120 g120 => ⟨rfl, ?_⟩)
    have s120 := s119.sub (t' := 310) (by decide) g120
    show Run 23 177 [vR (some 159), vR (some 1), vI 3000, vJ] [vR (some 305), vR (some 159)] (Ct L xs 310 R120) _
    refine N_putRF (pc' := 180) rfl rfl (by decide) (by decide) rfl ?_
    have s121 := s120.put (k := 16) (v := 305) rfl
    generalize uR R120 159 16 (some 305) = R121 at s121 ⊢
    exact R_vret rfl rfl (hQ _ (s121.fin (xr_row (t := 159) (fun j hj => dyn_ge (t := 159) (fun q => absurd q (by decide)) (fun q => absurd q (by decide)) (fun _ => Nat.le_trans (by decide) hj) (by decide)) (by decide +kernel))))
  have loop : ∀ (k i : Nat) (R : HR), i ≤ 61 → 61 - i = k → SS 159 (181 + 2 * i) R0 [(9, 180), (8, 179), (7, 177), (6, 173), (5, 169), (4, 165), (3, 161), (1, 160), (0, 1)] i R → Run 23 130 [vR (some 159), vR (some 1), vI 3000, vI (i : Int)] [] (Ct L xs (181 + 2 * i) R) Q := by
    intro k
    induction k with
    | zero =>
      intro i R hi hk s
      have : i = 61 := by omega
      subst this
      have f : R 159 9 = some 180 := s.2.2.2.1 (9, 180) (by decide)
      refine R_iload_n (pc' := 131) rfl rfl rfl (R_aload_n (pc' := 132) rfl rfl rfl (R_getR (pc' := 135) rfl rfl (by decide) (by decide) ?_))
      show Run 23 135 _ [vR (R 159 9), vI ((61 : Nat) : Int)] (Ct L xs _ R) Q
      rw [f]
      refine R_alen (pc' := 136) rfl rfl 4 (by decide) (by decide) (R_icge (pc' := 139) rfl rfl (fun _ => ?_) (fun q => absurd (by decide) q))
      exact R_forget (ls' := [vR (some 159), vR (some 1), vI 3000, vJ]) ⟨Or.inl rfl, Or.inl rfl, Or.inl rfl, Or.inr rfl, trivial⟩ (tail R s)
    | succ k ih =>
      intro i R hi hk s
      have f : R 159 9 = some 180 := s.2.2.2.1 (9, 180) (by decide)
      have l61 : L0 180 = 61 := by decide
      have hk3 : K0 (181 + 2 * i) = 3 := by
        have : ∀ i, i < 61 → K0 (181 + 2 * i) = 3 := by decide
        exact this i (by omega)
      refine R_iload_n (pc' := 131) rfl rfl rfl (R_aload_n (pc' := 132) rfl rfl rfl (R_getR (pc' := 135) rfl rfl (by decide) (by decide) ?_))
      show Run 23 135 _ [vR (R 159 9), vI (i : Int)] (Ct L xs _ R) Q
      rw [f]
      refine R_alen (pc' := 136) rfl rfl 4 (by decide) (by decide) (R_icge (pc' := 139) rfl rfl (fun q => ?_) (fun q => ?_))
      · rw [l61] at q; omega
      · refine R_aload_n (pc' := 140) rfl rfl rfl (R_getR (pc' := 143) rfl rfl (by decide) (by decide) ?_)
        show Run 23 143 _ [vR (R 159 9)] (Ct L xs _ R) Q
        rw [f]
        refine R_iload_n (pc' := 144) rfl rfl rfl (N_new (pc' := 147) rfl rfl hk3 (R_dup (pc' := 148) rfl rfl rfl (N_is (as := []) (rest := [vR (some (181 + 2 * i)), vI (i : Int), vR (some 180)]) (pc' := 151) rfl rfl rfl rfl rfl (Nat.le_of_ble_eq_true rfl) rfl (k8 hk3 fun R1 g1 => ⟨rfl, R_aast (pc' := 152) rfl rfl (by decide) (by omega) (by rw [l61]; omega) hk3 (R_iinc (ls' := [vR (some 159), vR (some 1), vI 3000, vI ((i : Int) + 1)]) (pc' := 155) rfl rfl rfl ⟨by omega, by omega⟩ rfl (R_goto rfl ?_))⟩))))
        rw [Int.toNat_natCast]
        exact ih (i + 1) _ (by omega) (by omega) (s.one rfl g1)
  exact loop 61 0 R17 (by omega) rfl s17
theorem k85_312 {L : Nat} {xs : Nat → Int} {Q : Res → MH → Prop} {R0 : HR} (hQ : ∀ R', GN 312 341 R0 R' → Q (.inl none) (Ct L xs 341 R')) : Call 85 [vR (some 312)] (Ct L xs 313 R0) Q := by
  refine Call_run (ls := [vR (some 312)]) rfl rfl ?_
  have s0 : ST 312 313 R0 [] R0 := ST.beg
  refine R_aload_n (pc' := 1) rfl rfl rfl ?_
  refine R_objinit (pc' := 4) rfl rfl (Nat.le_of_ble_eq_true rfl) ?_
  refine R_aload_n (pc' := 5) rfl rfl rfl ?_
  refine R_sipush (pc' := 8) rfl rfl ?_
  refine N_newarrL (pc' := 10) rfl rfl (t' := 314) rfl (by decide) (by decide) (by decide) (by decide) ?_
  have s1 := s0.arrL (t' := 314) rfl (xr_0 (t := 313) (by decide))
  generalize nR R0 313 = R1 at s1 ⊢
  refine N_putRF (pc' := 13) rfl rfl (by decide) (by decide) rfl ?_
  have s2 := s1.put (k := 2) (v := 313) rfl
  generalize uR R1 312 2 (some 313) = R2 at s2 ⊢
  refine R_aload_n (pc' := 14) rfl rfl rfl ?_
  refine R_iconst (pc' := 15) rfl rfl ?_
  refine N_newarrL (pc' := 17) rfl rfl (t' := 315) rfl (by decide) (by decide) (by decide) (by decide) ?_
  have s3 := s2.arrL (t' := 315) rfl (xr_0 (t := 314) (by decide))
  generalize nR R2 314 = R3 at s3 ⊢
  refine N_putRF (pc' := 20) rfl rfl (by decide) (by decide) rfl ?_
  have s4 := s3.put (k := 5) (v := 314) rfl
  generalize uR R3 312 5 (some 314) = R4 at s4 ⊢
  refine R_aload_n (pc' := 21) rfl rfl rfl ?_
  refine R_sipush (pc' := 24) rfl rfl ?_
  refine N_newarrL (pc' := 26) rfl rfl (t' := 316) rfl (by decide) (by decide) (by decide) (by decide) ?_
  have s5 := s4.arrL (t' := 316) rfl (xr_0 (t := 315) (by decide))
  generalize nR R4 315 = R5 at s5 ⊢
  refine N_putRF (pc' := 29) rfl rfl (by decide) (by decide) rfl ?_
  have s6 := s5.put (k := 6) (v := 315) rfl
  generalize uR R5 312 6 (some 315) = R6 at s6 ⊢
  refine R_aload_n (pc' := 30) rfl rfl rfl ?_
  refine R_bipush (pc' := 32) rfl rfl ?_
  refine N_newarrL (pc' := 34) rfl rfl (t' := 317) rfl (by decide) (by decide) (by decide) (by decide) ?_
  have s7 := s6.arrL (t' := 317) rfl (xr_0 (t := 316) (by decide))
  generalize nR R6 316 = R7 at s7 ⊢
  refine N_putRF (pc' := 37) rfl rfl (by decide) (by decide) rfl ?_
  have s8 := s7.put (k := 7) (v := 316) rfl
  generalize uR R7 312 7 (some 316) = R8 at s8 ⊢
  refine R_aload_n (pc' := 38) rfl rfl rfl ?_
  refine R_bipush (pc' := 40) rfl rfl ?_
  refine N_newarrL (pc' := 42) rfl rfl (t' := 318) rfl (by decide) (by decide) (by decide) (by decide) ?_
  have s9 := s8.arrL (t' := 318) rfl (xr_0 (t := 317) (by decide))
  generalize nR R8 317 = R9 at s9 ⊢
  refine N_putRF (pc' := 45) rfl rfl (by decide) (by decide) rfl ?_
  have s10 := s9.put (k := 8) (v := 317) rfl
  generalize uR R9 312 8 (some 317) = R10 at s10 ⊢
  refine R_aload_n (pc' := 46) rfl rfl rfl ?_
  refine R_bipush (pc' := 48) rfl rfl ?_
  refine N_newarrL (pc' := 50) rfl rfl (t' := 319) rfl (by decide) (by decide) (by decide) (by decide) ?_
  have s11 := s10.arrL (t' := 319) rfl (xr_0 (t := 318) (by decide))
  generalize nR R10 318 = R11 at s11 ⊢
  refine N_putRF (pc' := 53) rfl rfl (by decide) (by decide) rfl ?_
  have s12 := s11.put (k := 9) (v := 318) rfl
  generalize uR R11 312 9 (some 318) = R12 at s12 ⊢
  refine R_aload_n (pc' := 54) rfl rfl rfl ?_
  refine R_bipush (pc' := 56) rfl rfl ?_
  refine N_newarrL (pc' := 58) rfl rfl (t' := 320) rfl (by decide) (by decide) (by decide) (by decide) ?_
  have s13 := s12.arrL (t' := 320) rfl (xr_0 (t := 319) (by decide))
  generalize nR R12 319 = R13 at s13 ⊢
  refine N_putRF (pc' := 61) rfl rfl (by decide) (by decide) rfl ?_
  have s14 := s13.put (k := 10) (v := 319) rfl
  generalize uR R13 312 10 (some 319) = R14 at s14 ⊢
  refine R_aload_n (pc' := 62) rfl rfl rfl ?_
  refine R_bipush (pc' := 64) rfl rfl ?_
  refine N_newarrL (pc' := 66) rfl rfl (t' := 321) rfl (by decide) (by decide) (by decide) (by decide) ?_
  have s15 := s14.arrL (t' := 321) rfl (xr_0 (t := 320) (by decide))
  generalize nR R14 320 = R15 at s15 ⊢
  refine N_putRF (pc' := 69) rfl rfl (by decide) (by decide) rfl ?_
  have s16 := s15.put (k := 11) (v := 320) rfl
  generalize uR R15 312 11 (some 320) = R16 at s16 ⊢
  refine R_aload_n (pc' := 70) rfl rfl rfl ?_
  refine R_bipush (pc' := 72) rfl rfl ?_
  refine N_newarrL (pc' := 74) rfl rfl (t' := 322) rfl (by decide) (by decide) (by decide) (by decide) ?_
  have s17 := s16.arrL (t' := 322) rfl (xr_0 (t := 321) (by decide))
  generalize nR R16 321 = R17 at s17 ⊢
  refine N_putRF (pc' := 77) rfl rfl (by decide) (by decide) rfl ?_
  have s18 := s17.put (k := 12) (v := 321) rfl
  generalize uR R17 312 12 (some 321) = R18 at s18 ⊢
  refine R_aload_n (pc' := 78) rfl rfl rfl ?_
  refine R_bipush (pc' := 80) rfl rfl ?_
  refine N_newarrL (pc' := 82) rfl rfl (t' := 323) rfl (by decide) (by decide) (by decide) (by decide) ?_
  have s19 := s18.arrL (t' := 323) rfl (xr_0 (t := 322) (by decide))
  generalize nR R18 322 = R19 at s19 ⊢
  refine N_putRF (pc' := 85) rfl rfl (by decide) (by decide) rfl ?_
  have s20 := s19.put (k := 13) (v := 322) rfl
  generalize uR R19 312 13 (some 322) = R20 at s20 ⊢
  refine R_aload_n (pc' := 86) rfl rfl rfl ?_
  refine R_iconst (pc' := 87) rfl rfl ?_
  refine N_newarrL (pc' := 89) rfl rfl (t' := 324) rfl (by decide) (by decide) (by decide) (by decide) ?_
  have s21 := s20.arrL (t' := 324) rfl (xr_0 (t := 323) (by decide))
  generalize nR R20 323 = R21 at s21 ⊢
  refine N_putRF (pc' := 92) rfl rfl (by decide) (by decide) rfl ?_
  have s22 := s21.put (k := 14) (v := 323) rfl
  generalize uR R21 312 14 (some 323) = R22 at s22 ⊢
  refine R_aload_n (pc' := 93) rfl rfl rfl ?_
  refine R_sipush (pc' := 96) rfl rfl ?_
  refine N_newarrL (pc' := 98) rfl rfl (t' := 325) rfl (by decide) (by decide) (by decide) (by decide) ?_
  have s23 := s22.arrL (t' := 325) rfl (xr_0 (t := 324) (by decide))
  generalize nR R22 324 = R23 at s23 ⊢
  refine N_putRF (pc' := 101) rfl rfl (by decide) (by decide) rfl ?_
  have s24 := s23.put (k := 15) (v := 324) rfl
  generalize uR R23 312 15 (some 324) = R24 at s24 ⊢
  refine R_aload_n (pc' := 102) rfl rfl rfl ?_
  refine R_sipush (pc' := 105) rfl rfl ?_
  refine N_newarrL (pc' := 107) rfl rfl (t' := 326) rfl (by decide) (by decide) (by decide) (by decide) ?_
  have s25 := s24.arrL (t' := 326) rfl (xr_0 (t := 325) (by decide))
  generalize nR R24 325 = R25 at s25 ⊢
  refine N_putRF (pc' := 110) rfl rfl (by decide) (by decide) rfl ?_
  have s26 := s25.put (k := 16) (v := 325) rfl
  generalize uR R25 312 16 (some 325) = R26 at s26 ⊢
  refine R_aload_n (pc' := 111) rfl rfl rfl ?_
  refine R_sipush (pc' := 114) rfl rfl ?_
  refine N_newarrL (pc' := 116) rfl rfl (t' := 327) rfl (by decide) (by decide) (by decide) (by decide) ?_
  have s27 := s26.arrL (t' := 327) rfl (xr_0 (t := 326) (by decide))
  generalize nR R26 326 = R27 at s27 ⊢
  refine N_putRF (pc' := 119) rfl rfl (by decide) (by decide) rfl ?_
  have s28 := s27.put (k := 18) (v := 326) rfl
  generalize uR R27 312 18 (some 326) = R28 at s28 ⊢
  refine R_aload_n (pc' := 120) rfl rfl rfl ?_
  refine R_iconst (pc' := 121) rfl rfl ?_
  refine N_newarrL (pc' := 123) rfl rfl (t' := 328) rfl (by decide) (by decide) (by decide) (by decide) ?_
  have s29 := s28.arrL (t' := 328) rfl (xr_0 (t := 327) (by decide))
  generalize nR R28 327 = R29 at s29 ⊢
  refine N_putRF (pc' := 126) rfl rfl (by decide) (by decide) rfl ?_
  have s30 := s29.put (k := 19) (v := 327) rfl
  generalize uR R29 312 19 (some 327) = R30 at s30 ⊢
  refine R_aload_n (pc' := 127) rfl rfl rfl ?_
  refine R_iconst (pc' := 128) rfl rfl ?_
  refine N_newarrL (pc' := 130) rfl rfl (t' := 329) rfl (by decide) (by decide) (by decide) (by decide) ?_
  have s31 := s30.arrL (t' := 329) rfl (xr_0 (t := 328) (by decide))
  generalize nR R30 328 = R31 at s31 ⊢
  refine N_putRF (pc' := 133) rfl rfl (by decide) (by decide) rfl ?_
  have s32 := s31.put (k := 20) (v := 328) rfl
  generalize uR R31 312 20 (some 328) = R32 at s32 ⊢
  refine R_aload_n (pc' := 134) rfl rfl rfl ?_
  refine R_iconst (pc' := 135) rfl rfl ?_
  refine N_newarrL (pc' := 137) rfl rfl (t' := 330) rfl (by decide) (by decide) (by decide) (by decide) ?_
  have s33 := s32.arrL (t' := 330) rfl (xr_0 (t := 329) (by decide))
  generalize nR R32 329 = R33 at s33 ⊢
  refine N_putRF (pc' := 140) rfl rfl (by decide) (by decide) rfl ?_
  have s34 := s33.put (k := 21) (v := 329) rfl
  generalize uR R33 312 21 (some 329) = R34 at s34 ⊢
  refine R_aload_n (pc' := 141) rfl rfl rfl ?_
  refine R_iconst (pc' := 142) rfl rfl ?_
  refine N_newarrL (pc' := 144) rfl rfl (t' := 331) rfl (by decide) (by decide) (by decide) (by decide) ?_
  have s35 := s34.arrL (t' := 331) rfl (xr_0 (t := 330) (by decide))
  generalize nR R34 330 = R35 at s35 ⊢
  refine N_putRF (pc' := 147) rfl rfl (by decide) (by decide) rfl ?_
  have s36 := s35.put (k := 22) (v := 330) rfl
  generalize uR R35 312 22 (some 330) = R36 at s36 ⊢
  refine R_aload_n (pc' := 148) rfl rfl rfl ?_
  refine R_iconst (pc' := 149) rfl rfl ?_
  refine N_newarrL (pc' := 151) rfl rfl (t' := 332) rfl (by decide) (by decide) (by decide) (by decide) ?_
  have s37 := s36.arrL (t' := 332) rfl (xr_0 (t := 331) (by decide))
  generalize nR R36 331 = R37 at s37 ⊢
  refine N_putRF (pc' := 154) rfl rfl (by decide) (by decide) rfl ?_
  have s38 := s37.put (k := 23) (v := 331) rfl
  generalize uR R37 312 23 (some 331) = R38 at s38 ⊢
  refine R_aload_n (pc' := 155) rfl rfl rfl ?_
  refine R_bipush (pc' := 157) rfl rfl ?_
  refine N_newarrL (pc' := 159) rfl rfl (t' := 333) rfl (by decide) (by decide) (by decide) (by decide) ?_
  have s39 := s38.arrL (t' := 333) rfl (xr_0 (t := 332) (by decide))
  generalize nR R38 332 = R39 at s39 ⊢
  refine N_putRF (pc' := 162) rfl rfl (by decide) (by decide) rfl ?_
  have s40 := s39.put (k := 24) (v := 332) rfl
  generalize uR R39 312 24 (some 332) = R40 at s40 ⊢
  refine R_aload_n (pc' := 163) rfl rfl rfl ?_
  refine R_sipush (pc' := 166) rfl rfl ?_
  refine N_newarrL (pc' := 168) rfl rfl (t' := 334) rfl (by decide) (by decide) (by decide) (by decide) ?_
  have s41 := s40.arrL (t' := 334) rfl (xr_0 (t := 333) (by decide))
  generalize nR R40 333 = R41 at s41 ⊢
  refine N_putRF (pc' := 171) rfl rfl (by decide) (by decide) rfl ?_
  have s42 := s41.put (k := 39) (v := 333) rfl
  generalize uR R41 312 39 (some 333) = R42 at s42 ⊢
  refine R_aload_n (pc' := 172) rfl rfl rfl ?_
  refine R_sipush (pc' := 175) rfl rfl ?_
  refine N_newarrL (pc' := 177) rfl rfl (t' := 335) rfl (by decide) (by decide) (by decide) (by decide) ?_
  have s43 := s42.arrL (t' := 335) rfl (xr_0 (t := 334) (by decide))
  generalize nR R42 334 = R43 at s43 ⊢
  refine N_putRF (pc' := 180) rfl rfl (by decide) (by decide) rfl ?_
  have s44 := s43.put (k := 40) (v := 334) rfl
  generalize uR R43 312 40 (some 334) = R44 at s44 ⊢
  refine R_aload_n (pc' := 181) rfl rfl rfl ?_
  refine R_sipush (pc' := 184) rfl rfl ?_
  refine N_newarrL (pc' := 186) rfl rfl (t' := 336) rfl (by decide) (by decide) (by decide) (by decide) ?_
  have s45 := s44.arrL (t' := 336) rfl (xr_0 (t := 335) (by decide))
  generalize nR R44 335 = R45 at s45 ⊢
  refine N_putRF (pc' := 189) rfl rfl (by decide) (by decide) rfl ?_
  have s46 := s45.put (k := 41) (v := 335) rfl
  generalize uR R45 312 41 (some 335) = R46 at s46 ⊢
  refine R_aload_n (pc' := 190) rfl rfl rfl ?_
  refine R_sipush (pc' := 193) rfl rfl ?_
  refine N_newarrL (pc' := 195) rfl rfl (t' := 337) rfl (by decide) (by decide) (by decide) (by decide) ?_
  have s47 := s46.arrL (t' := 337) rfl (xr_0 (t := 336) (by decide))
  generalize nR R46 336 = R47 at s47 ⊢
  refine N_putRF (pc' := 198) rfl rfl (by decide) (by decide) rfl ?_
  have s48 := s47.put (k := 43) (v := 336) rfl
  generalize uR R47 312 43 (some 336) = R48 at s48 ⊢
  refine R_aload_n (pc' := 199) rfl rfl rfl ?_
  refine R_sipush (pc' := 202) rfl rfl ?_
  refine N_newarrL (pc' := 204) rfl rfl (t' := 338) rfl (by decide) (by decide) (by decide) (by decide) ?_
  have s49 := s48.arrL (t' := 338) rfl (xr_0 (t := 337) (by decide))
  generalize nR R48 337 = R49 at s49 ⊢
  refine N_putRF (pc' := 207) rfl rfl (by decide) (by decide) rfl ?_
  have s50 := s49.put (k := 44) (v := 337) rfl
  generalize uR R49 312 44 (some 337) = R50 at s50 ⊢
  refine R_aload_n (pc' := 208) rfl rfl rfl ?_
  refine R_bipush (pc' := 210) rfl rfl ?_
  refine N_newarrL (pc' := 212) rfl rfl (t' := 339) rfl (by decide) (by decide) (by decide) (by decide) ?_
  have s51 := s50.arrL (t' := 339) rfl (xr_0 (t := 338) (by decide))
  generalize nR R50 338 = R51 at s51 ⊢
  refine N_putRF (pc' := 215) rfl rfl (by decide) (by decide) rfl ?_
  have s52 := s51.put (k := 52) (v := 338) rfl
  generalize uR R51 312 52 (some 338) = R52 at s52 ⊢
  refine R_aload_n (pc' := 216) rfl rfl rfl ?_
  refine R_sipush (pc' := 219) rfl rfl ?_
  refine N_newarrL (pc' := 221) rfl rfl (t' := 340) rfl (by decide) (by decide) (by decide) (by decide) ?_
  have s53 := s52.arrL (t' := 340) rfl (xr_0 (t := 339) (by decide))
  generalize nR R52 339 = R53 at s53 ⊢
  refine N_putRF (pc' := 224) rfl rfl (by decide) (by decide) rfl ?_
  have s54 := s53.put (k := 53) (v := 339) rfl
  generalize uR R53 312 53 (some 339) = R54 at s54 ⊢
  refine R_aload_n (pc' := 225) rfl rfl rfl ?_
  refine R_sipush (pc' := 228) rfl rfl ?_
  refine N_newarrL (pc' := 230) rfl rfl (t' := 341) rfl (by decide) (by decide) (by decide) (by decide) ?_
  have s55 := s54.arrL (t' := 341) rfl (xr_0 (t := 340) (by decide))
  generalize nR R54 340 = R55 at s55 ⊢
  refine N_putRF (pc' := 233) rfl rfl (by decide) (by decide) rfl ?_
  have s56 := s55.put (k := 55) (v := 340) rfl
  generalize uR R55 312 55 (some 340) = R56 at s56 ⊢
  exact R_vret rfl rfl (hQ _ (s56.fin (xr_row (t := 312) (fun j hj => dyn_no (by decide)) (by decide +kernel))))
theorem k69_0 {L : Nat} {xs : Nat → Int} {Q : Res → MH → Prop} {R0 : HR} (hQ : ∀ R', GN 0 312 R0 R' → Q (.inl none) (Ct L xs 312 R')) : Call 69 [vR (some 0)] (Ct L xs 1 R0) Q := by
  refine Call_run (ls := [vR (some 0), vJ]) rfl rfl ?_
  have s0 : ST 0 1 R0 [] R0 := ST.beg
  refine R_aload_n (pc' := 1) rfl rfl rfl ?_
  refine R_objinit (pc' := 4) rfl rfl (Nat.le_of_ble_eq_true rfl) ?_
  refine N_newL (pc' := 7) rfl rfl (t' := 2) rfl (by decide) ?_
  refine R_dup (pc' := 8) rfl rfl rfl ?_
  refine R_sipush (pc' := 11) rfl rfl ?_
  refine N_is (as := [vI 3000]) (rest := [vR (some 1)]) (pc' := 14) rfl rfl rfl rfl rfl (Nat.le_of_ble_eq_true rfl) rfl (k42_1 fun R1 g1 => ⟨rfl, ?_⟩)
  have s1 := s0.sub (t' := 7) (by decide) g1
  show Run 69 14 [vR (some 0), vJ] [vR (some 1)] (Ct L xs 7 R1) _
  refine R_astore_n (ls' := [vR (some 0), vR (some 1)]) (pc' := 15) rfl rfl rfl ?_
  refine R_aload_n (pc' := 16) rfl rfl rfl ?_
  refine R_sipush (pc' := 19) rfl rfl ?_
  refine N_newarrL (pc' := 21) rfl rfl (t' := 8) rfl (by decide) (by decide) (by decide) (by decide) ?_
  have s2 := s1.arrL (t' := 8) rfl (xr_0 (t := 7) (by decide))
  generalize nR R1 7 = R2 at s2 ⊢
  refine N_putRF (pc' := 24) rfl rfl (by decide) (by decide) rfl ?_
  have s3 := s2.put (k := 0) (v := 7) rfl
  generalize uR R2 0 0 (some 7) = R3 at s3 ⊢
  refine R_aload_n (pc' := 25) rfl rfl rfl ?_
  refine R_iconst (pc' := 26) rfl rfl ?_
  refine N_putI (pc' := 29) rfl rfl (by decide) (by decide) ?_
  refine R_aload_n (pc' := 30) rfl rfl rfl ?_
  refine N_newL (pc' := 33) rfl rfl (t' := 9) rfl (by decide) ?_
  refine R_dup (pc' := 34) rfl rfl rfl ?_
  refine R_aload_n (pc' := 35) rfl rfl rfl ?_
  refine R_sipush (pc' := 38) rfl rfl ?_
  refine N_is (as := [vR (some 1), vI 1500]) (rest := [vR (some 8), vR (some 0)]) (pc' := 41) rfl rfl rfl rfl rfl (Nat.le_of_ble_eq_true rfl) rfl (k23_8 fun R4 g4 => ⟨rfl, ?_⟩)
  have s4 := s3.sub (t' := 159) (by decide) g4
  show Run 69 41 [vR (some 0), vR (some 1)] [vR (some 8), vR (some 0)] (Ct L xs 159 R4) _
  refine N_putRF (pc' := 44) rfl rfl (by decide) (by decide) rfl ?_
  have s5 := s4.put (k := 2) (v := 8) rfl
  generalize uR R4 0 2 (some 8) = R5 at s5 ⊢
  refine R_aload_n (pc' := 45) rfl rfl rfl ?_
  refine N_newL (pc' := 48) rfl rfl (t' := 160) rfl (by decide) ?_
  refine R_dup (pc' := 49) rfl rfl rfl ?_
  refine R_aload_n (pc' := 50) rfl rfl rfl ?_
  refine R_sipush (pc' := 53) rfl rfl ?_
  refine N_is (as := [vR (some 1), vI 3000]) (rest := [vR (some 159), vR (some 0)]) (pc' := 56) rfl rfl rfl rfl rfl (Nat.le_of_ble_eq_true rfl) rfl (k23_159 fun R6 g6 => ⟨rfl, ?_⟩)
  have s6 := s5.sub (t' := 310) (by decide) g6
  show Run 69 56 [vR (some 0), vR (some 1)] [vR (some 159), vR (some 0)] (Ct L xs 310 R6) _
  refine N_putRF (pc' := 59) rfl rfl (by decide) (by decide) rfl ?_
  have s7 := s6.put (k := 3) (v := 159) rfl
  generalize uR R6 0 3 (some 159) = R7 at s7 ⊢
  refine R_aload_n (pc' := 60) rfl rfl rfl ?_
  refine N_newL (pc' := 63) rfl rfl (t' := 311) rfl (by decide) ?_
  refine R_dup (pc' := 64) rfl rfl rfl ?_
  refine N_is (as := []) (rest := [vR (some 310), vR (some 0)]) (pc' := 67) rfl rfl rfl rfl rfl (Nat.le_of_ble_eq_true rfl) rfl (k59_310 fun R8 g8 => ⟨rfl, ?_⟩)
  have s8 := s7.sub (t' := 312) (by decide) g8
  show Run 69 67 [vR (some 0), vR (some 1)] [vR (some 310), vR (some 0)] (Ct L xs 312 R8) _
  refine N_putRF (pc' := 70) rfl rfl (by decide) (by decide) rfl ?_
  have s9 := s8.put (k := 4) (v := 310) rfl
  generalize uR R8 0 4 (some 310) = R9 at s9 ⊢
  exact R_vret rfl rfl (hQ _ (s9.fin (xr_row (t := 0) (fun j hj => dyn_no (by decide)) (by decide +kernel))))
