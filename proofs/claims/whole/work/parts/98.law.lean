/-! the law's run, from its first instruction on -/
theorem srf_lt {a k : Nat} (h : srf a k ≠ 0) : a < 341 := by
  rcases Nat.lt_or_ge a 341 with q | q
  · exact q
  · exfalso
    apply h
    unfold srf
    have l : zrL.length = 342 := by decide +kernel
    rcases Nat.eq_or_lt_of_le q with w | w
    · have e : zrL.getD 341 [] = [] := by decide +kernel
      rw [← w, e]; rfl
    · have e : zrL.getD a [] = [] := by rw [List.getD_eq_getElem?_getD, List.getElem?_eq_none (show zrL.length ≤ a by omega)]; rfl
      rw [e]; rfl
theorem dyn_lt {a k : Nat} (h : dyn a k = true) : a < 341 := by
  rcases Nat.lt_or_ge a 341 with q | q
  · exact q
  · have := dyn_no (t := a) (j := k) (by omega)
    rw [this] at h; cases h
theorem PM_0 {A : Nat} (hA : isA A) : PM A D0 := by
  have e1 : ∀ i, D0 (A + 21) i = A + 22 + 2 * i := by
    intro i
    rcases hA with rfl | rfl
    · rfl
    · rfl
  have e2 : D0 A 10 = A + 144 := by rcases hA with rfl | rfl <;> rfl
  refine ⟨fun i hi => ?_, ?_, fun i j hi hj q => ?_, fun i hi q => ?_⟩
  · rw [e1]
    refine ⟨?_, by omega, by omega⟩
    rcases hA with rfl | rfl
    · have : ∀ i, i < 61 → K0 (8 + 22 + 2 * i) = 3 := by decide
      exact this i hi
    · have : ∀ i, i < 61 → K0 (159 + 22 + 2 * i) = 3 := by decide
      exact this i hi
  · rw [e2]
    refine ⟨?_, by omega, by omega⟩
    rcases hA with rfl | rfl <;> decide
  · rw [e1, e1] at q; omega
  · rw [e1, e2] at q; omega
theorem MkL_0 {q : Nat} : MkL q (fun _ _ => 0) [] := ⟨⟨rfl, Nat.zero_le _⟩, fun i r h => by cases h⟩
theorem INV_0 : INV (fun _ => 0) 0 (fun _ => none, [], [], 0, 0, 0) 0 [] [] 0 false (fun _ _ => 0) D0 := by
  refine ⟨⟨rfl, ⟨[], [], ⟨⟨MkL_0, MkL_0, MkL_0, MkL_0⟩, ⟨rfl, ?_, rfl, rfl, rfl⟩, PM_0 (Or.inl rfl), fun i hi => rfl⟩, rfl, ⟨rfl, fun i x h => by cases h⟩, Nat.zero_le _, ⟨Int.le_refl _, by omega⟩, fun p p0 p1 => by omega, by decide, by decide⟩, ⟨PM_0 (Or.inr rfl), [], [], [], [], MkL_0, MkL_0, MkL_0, MkL_0⟩, ⟨rfl, fun i x _ h => by cases h⟩⟩, ⟨rfl, fun i hi => by omega, rfl, ⟨rfl, by omega, fun p p0 p1 => by omega⟩, ⟨⟨fun i _ _ => rfl, ⟨rfl, fun j r h => by cases h⟩, fun _ => ⟨rfl, fun j r h => by cases h⟩, rfl, rfl, rfl⟩, rfl, ⟨rfl, fun i x h => by cases h⟩⟩, ⟨rfl, fun i x _ h => by cases h⟩⟩, (fun i f h => by cases h), by omega, ⟨by decide, by decide⟩, (fun _ => ⟨rfl, rfl, fun _ => rfl⟩), (fun q => by cases q)⟩
  show (0 : Int) = ((cnt fun _ => none : Nat) : Int)
  rw [cnt_0]; rfl
theorem law_run {L : Nat} {xs : Nat → Int} (hL : L ≤ 144) (hx : ∀ j, r32 (xs j)) : Run 147 0 [vS 100, vJ, vJ, vJ, vJ, vJ, vJ, vJ] [] (lawM L xs) (fun r M' => r = .inl (some (vI 1)) ∧ cst M' ≤ 600000 ∧ sst M' ≤ 7000000) := by
  show Run 147 0 [vS 100, vJ, vJ, vJ, vJ, vJ, vJ, vJ] [] (Ct L xs 0 (fun _ _ => none)) _
  refine N_newL (pc' := 3) rfl rfl (t' := 1) rfl (by decide) (R_dup (pc' := 4) rfl rfl rfl (N_is (as := []) (rest := [vR (some 0)]) (pc' := 7) rfl rfl rfl rfl rfl (Nat.le_of_ble_eq_true rfl) rfl (k69_0 fun R1 g1 => ⟨rfl, ?_⟩)))
  refine R_astore_n (ls' := [vS 100, vR (some 0), vJ, vJ, vJ, vJ, vJ, vJ]) (pc' := 8) rfl rfl rfl ?_
  refine N_newL (pc' := 11) rfl rfl (t' := 313) rfl (by decide) (R_dup (pc' := 12) rfl rfl rfl (N_is (as := []) (rest := [vR (some 312)]) (pc' := 15) rfl rfl rfl rfl rfl (Nat.le_of_ble_eq_true rfl) rfl (k85_312 fun R2 g2 => ⟨rfl, ?_⟩)))
  refine R_astore_n (ls' := [vS 100, vR (some 0), vR (some 312), vJ, vJ, vJ, vJ, vJ]) (pc' := 16) rfl rfl rfl ?_
  refine R_iconst (pc' := 17) rfl rfl (N_newarrL (pc' := 19) rfl rfl (t' := 342) rfl (by decide) (by decide) (by decide) (by decide) ?_)
  refine R_astore_n (ls' := [vS 100, vR (some 0), vR (some 312), vR (some 341), vJ, vJ, vJ, vJ]) (pc' := 20) rfl rfl rfl ?_
  refine R_iconst (pc' := 21) rfl rfl (R_istore (ls' := [vS 100, vR (some 0), vR (some 312), vR (some 341), vI 0, vJ, vJ, vJ]) (pc' := 23) rfl rfl rfl ?_)
  have all : ∀ a j, a < 341 → xr a j ≠ 0 → nR R2 341 a j = some (xr a j) := by
    intro a j ha hn
    have e0 : nR R2 341 a j = R2 a j := if_neg (by omega)
    rw [e0]
    rcases Nat.lt_or_ge a 312 with w | w
    · rw [g2.1 a j w]
      have e1 : nR R1 312 a j = R1 a j := if_neg (by omega)
      rw [e1]; exact g1.2 a j (Nat.zero_le _) w hn
    · exact g2.2 a j w ha hn
  generalize nR R2 341 = R3 at all
  have he : HS (0, L, xs, R3) := by
    intro a k hd hs
    have ex : xr a k = srf a k := by unfold xr; rw [hd]; rfl
    have := all a k (srf_lt hs) (by rw [ex]; exact hs)
    rw [ex] at this
    exact this
  have em : Ct L xs 342 R3 = mk (0, L, xs, R3) (fun _ _ => 0) D0 := by
    have e1 : R3 = fun a k => if dyn a k = true then some (D0 a k) else R3 a k := by
      funext a k
      by_cases c : dyn a k = true
      · rw [if_pos c]
        have ex : xr a k = D0 a k := by unfold xr; rw [if_pos c]
        have nz : D0 a k ≠ 0 := by unfold D0; repeat (first | omega | split)
        have := all a k (dyn_lt c) (by rw [ex]; exact nz)
        rw [ex] at this
        exact this
      · rw [if_neg c]
    show (_, R3, _) = (_, fun a k => if dyn a k = true then some (D0 a k) else R3 a k, _)
    rw [← e1]
  rw [em]
  have hl := law_loop hL hx (Q := fun e' z _ _ => z = 1 ∧ e'.1 ≤ 60) 200 0 (0, L, xs, R3) _ _ _ _ _ _ _ _ _ _ he rfl rfl INV_0 (Int.le_refl _) (by decide) (by show 3 * ((0 : Nat) : Int) ≤ 0; decide) (by omega) (by omega) (fun e' _ _ h => ⟨rfl, by omega⟩)
  refine Run_mono hl fun r M q => ?_
  obtain ⟨e', z, I', D', rfl, rfl, rfl, h60⟩ := q
  have zs : zss 342 ≤ 6000000 := by decide +kernel
  exact ⟨rfl, by show 342 + e'.1 ≤ 600000; omega, by show zss 342 + 6 * e'.1 ≤ 7000000; omega⟩
