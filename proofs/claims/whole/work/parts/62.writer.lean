/-! Writer -/
def wmS (a k : Nat) : Prop := (a = 310 ∧ k = 1) ∨ a = 311
def WM (I : HI) (l : List Int) : Prop := I 310 1 = ((min l.length 3000 : Nat) : Int) ∧ ∀ (i : Nat) (x : Int), i < 3000 → l[i]? = some x → I 311 i % 256 = x
def dgN (x : Int) : Nat → Bool → List Int
  | 0, _ => []
  | j + 1, b => (if b = true ∨ 0 < Int.tmod (Int.tdiv x (10 ^ j)) 10 ∨ j = 0 then [48 + Int.tmod (Int.tdiv x (10 ^ j)) 10] else []) ++ dgN x j (b || decide (0 < Int.tmod (Int.tdiv x (10 ^ j)) 10) || decide (j = 0))
def unF : Nat → Int
  | 0 => 0
  | j + 1 => 10 ^ j
theorem dgN_eq {x : Int} (h0 : 0 ≤ x) (h1 : x < 10000) : dgN x 5 false = dgL x := by
  have td : ∀ d : Int, Int.tdiv x d = x / d := fun d => Int.tdiv_eq_ediv_of_nonneg h0
  have tm : ∀ y : Int, 0 ≤ y → Int.tmod y 10 = y % 10 := fun y hy => Int.tmod_eq_emod_of_nonneg hy
  have p4 : (10 : Int) ^ 4 = 10000 := by decide
  have p3 : (10 : Int) ^ 3 = 1000 := by decide
  have p2 : (10 : Int) ^ 2 = 100 := by decide
  have p1 : (10 : Int) ^ 1 = 10 := by decide
  have p0 : (10 : Int) ^ 0 = 1 := by decide
  have z4 : Int.tmod (Int.tdiv x 10000) 10 = 0 := by rw [td, tm _ (by omega)]; omega
  have z3 : Int.tmod (Int.tdiv x 1000) 10 = x / 1000 := by rw [td, tm _ (by omega)]; omega
  have z2 : Int.tmod (Int.tdiv x 100) 10 = x / 100 % 10 := by rw [td, tm _ (by omega)]
  have z1 : Int.tmod (Int.tdiv x 10) 10 = x / 10 % 10 := by rw [td, tm _ (by omega)]
  have z0 : Int.tmod (Int.tdiv x 1) 10 = x % 10 := by rw [td, tm _ (by omega)]; omega
  unfold dgN dgN dgN dgN dgN dgN dgL
  rw [p4, p3, p2, p1, p0, z4, z3, z2, z1, z0]
  by_cases c1 : x < 10
  · have e3 : x / 1000 = 0 := by omega
    have e2 : x / 100 % 10 = 0 := by omega
    have e1 : x / 10 % 10 = 0 := by omega
    have e0 : x % 10 = x := by omega
    simp [e3, e2, e1, e0, c1]
  · by_cases c2 : x < 100
    · have e3 : x / 1000 = 0 := by omega
      have e2 : x / 100 % 10 = 0 := by omega
      have e1 : x / 10 % 10 = x / 10 := by omega
      have e0 : 0 < x / 10 := by omega
      simp [e3, e2, e1, e0, c1, c2]
    · by_cases c3 : x < 1000
      · have e3 : x / 1000 = 0 := by omega
        have e2 : x / 100 % 10 = x / 100 := by omega
        have e0 : 0 < x / 100 := by omega
        simp [e3, e2, e0, c1, c2, c3]
      · have e0 : 0 < x / 1000 := by omega
        simp [e0, c1, c2, c3]
section
variable {e : En} {D : HD}
theorem c66 (he : HS e) {I : HI} {l : List Int} (hM : WM I l) {x : Int} (h0 : 0 ≤ x) (h1 : x ≤ 255) {Q : HI → HD → Prop} (hQ : ∀ I', Fr wmS I I' → WM I' (l ++ [x]) → Q I' D) : CV 66 [vR (some 310), vI x] e I D Q := by
  refine S66 he ?_
  rw [hM.1]
  refine ⟨fun q => by omega, fun _ => ⟨fun q => hQ I Fr.refl ⟨?_, fun i y hi hy => ?_⟩, fun q => ⟨⟨by omega, by omega⟩, ⟨by omega, by omega⟩, ?_⟩⟩⟩
  · rw [hM.1, List.length_append, List.length_singleton]; omega
  · rw [List.getElem?_append_left (by omega)] at hy
    exact hM.2 i y hi hy
  · have hl : min l.length 3000 = l.length := by omega
    rw [hl, Int.toNat_natCast]
    refine hQ _ ((Fr.u (S := wmS) (Or.inr rfl)).trans (Fr.u (S := wmS) (Or.inl ⟨rfl, rfl⟩))) ⟨?_, fun i y hi hy => ?_⟩
    · rw [uI_eq, List.length_append, List.length_singleton]; omega
    · rw [uI_ne (by omega)]
      rcases Nat.lt_or_ge i l.length with w | w
      · rw [List.getElem?_append_left w] at hy
        rw [uI_ne (by omega)]; exact hM.2 i y hi hy
      · have : i = l.length := by
          rcases Nat.eq_or_lt_of_le w with v | v
          · exact v.symm
          · rw [List.getElem?_eq_none (by rw [List.length_append, List.length_singleton]; omega)] at hy; cases hy
        subst this
        rw [List.getElem?_append_right (Nat.le_refl _), Nat.sub_self] at hy
        cases hy
        rw [uI_eq]; omega
theorem zs_lt : ∀ k, k < 25 → ∀ c ∈ zstr k, c < 256 := by decide
theorem c67_2 (he : HS e) {k : Nat} (hk : k < 25) {l : List Int} {Q : HI → HD → Prop} (m : Nat) : ∀ (j : Nat) (I : HI), j ≤ (zstr k).length → (zstr k).length - j = m → WM I (l ++ (txL k).take j) → (∀ I', Fr wmS I I' → WM I' (l ++ txL k) → Q I' D) → RV 67 2 [vR (some 310), vS k, vI (j : Int)] [] e I D Q := by
  have ll : (txL k).length = (zstr k).length := List.length_map ..
  have l25 : (zstr k).length < 100 := by have : ∀ k, k < 25 → (zstr k).length < 100 := by decide
                                         exact this k hk
  induction m with
  | zero =>
    intro j I hj hm hM hQ
    rw [List.take_of_length_le (by omega)] at hM
    exact S67_2 he hk ⟨fun _ => hQ I Fr.refl hM, fun q => by omega⟩
  | succ m ih =>
    intro j I hj hm hM hQ
    have hjl : j < (zstr k).length := by omega
    have hg : (zstr k).getD j 0 = (zstr k)[j] := by rw [List.getD_eq_getElem?_getD, List.getElem?_eq_getElem hjl]; rfl
    have hc := zs_lt k hk _ (List.getElem_mem hjl)
    have tk : (txL k).take (j + 1) = (txL k).take j ++ [((zstr k)[j] : Int)] := by
      rw [List.take_succ]
      congr 1
      unfold txL
      rw [List.getElem?_map, List.getElem?_eq_getElem hjl]; rfl
    refine S67_2 he hk ⟨fun q => by omega, fun _ => ⟨⟨by omega, by omega⟩, ?_⟩⟩
    rw [Int.toNat_natCast, hg]
    refine c66 he hM (by omega) (by omega) fun I' f' M' => ⟨⟨by omega, by omega⟩, ih (j + 1) I' (by omega) (by omega) (by rw [tk, ← List.append_assoc]; exact M') fun I'' f'' M'' => hQ I'' (f'.trans f'') M''⟩
theorem c67 (he : HS e) {k : Nat} (hk : k < 25) {I : HI} {l : List Int} (hM : WM I l) {Q : HI → HD → Prop} (hQ : ∀ I', Fr wmS I I' → WM I' (l ++ txL k) → Q I' D) : CV 67 [vR (some 310), vS k] e I D Q :=
  S67 he hk (c67_2 he hk _ 0 I (Nat.zero_le _) rfl (by rw [List.take_zero, List.append_nil]; exact hM) hQ)
theorem c68_6 (he : HS e) {x : Int} (h0 : 0 ≤ x) (h1 : x < 10000) {Q : HI → HD → Prop} (j : Nat) : ∀ (b : Bool) (l : List Int) (I : HI), j ≤ 5 → WM I l → (∀ I', Fr wmS I I' → WM I' (l ++ dgN x j b) → Q I' D) → RV 68 6 [vR (some 310), vI x, vI (b2i b), vI (unF j), vJ] [] e I D Q := by
  induction j with
  | zero =>
    intro b l I _ hM hQ
    refine S68_6 he ⟨fun _ => hQ I Fr.refl (by show WM I (l ++ []); rw [List.append_nil]; exact hM), fun q => absurd (Int.le_refl 0) q⟩
  | succ j ih =>
    intro b l I hj hM hQ
    have u1 : 0 < unF (j + 1) ∧ unF (j + 1) ≤ 10000 ∧ Int.tdiv (unF (j + 1)) 10 = unF j ∧ (unF (j + 1) = 1 ↔ j = 0) := by
      have : ∀ j, j < 5 → 0 < unF (j + 1) ∧ unF (j + 1) ≤ 10000 ∧ Int.tdiv (unF (j + 1)) 10 = unF j ∧ (unF (j + 1) = 1 ↔ j = 0) := by decide
      exact this j (by omega)
    have hu : unF (j + 1) = 10 ^ j := rfl
    have d0 : 0 ≤ Int.tdiv x (unF (j + 1)) ∧ Int.tdiv x (unF (j + 1)) ≤ x := by
      rw [Int.tdiv_eq_ediv_of_nonneg h0]
      exact ⟨Int.ediv_nonneg h0 (by omega), Int.ediv_le_self _ h0⟩
    have d1 : 0 ≤ Int.tdiv (Int.tdiv x (unF (j + 1))) 10 ∧ Int.tdiv (Int.tdiv x (unF (j + 1))) 10 ≤ Int.tdiv x (unF (j + 1)) := by
      rw [Int.tdiv_eq_ediv_of_nonneg d0.1]; omega
    have d2 : 0 ≤ Int.tmod (Int.tdiv x (unF (j + 1))) 10 ∧ Int.tmod (Int.tdiv x (unF (j + 1))) 10 < 10 := by
      rw [Int.tmod_eq_emod_of_nonneg d0.1]; omega
    have ed : dgN x (j + 1) b = (if b = true ∨ 0 < Int.tmod (Int.tdiv x (unF (j + 1))) 10 ∨ j = 0 then [48 + Int.tmod (Int.tdiv x (unF (j + 1))) 10] else []) ++ dgN x j (b || decide (0 < Int.tmod (Int.tdiv x (unF (j + 1))) 10) || decide (j = 0)) := rfl
    rw [ed] at hQ
    refine S68_6 he ?_
    generalize Int.tmod (Int.tdiv x (unF (j + 1))) 10 = d at *
    have s37y : (b = true ∨ 0 < d ∨ j = 0) → RV 68 32 [vR (some 310), vI x, vJ, vI (unF (j + 1)), vI d] [] e I D Q := by
      intro hb
      have hb' : (b || decide (0 < d) || decide (j = 0)) = true := by
        rcases hb with hb | hb | hb
        · simp [hb]
        · simp [hb]
        · simp [hb]
      rw [if_pos hb, hb'] at hQ
      refine S68_32 he (S68_37 he ⟨fun q => absurd q (by decide), fun _ => ⟨⟨by omega, by omega⟩, c66 he hM (by omega) (by omega) fun I' f' M' => S68_51 he ?_⟩⟩)
      rw [u1.2.2.1]
      refine ⟨?_, ih true _ I' (by omega) M' fun I'' f'' M'' => hQ I'' (f'.trans f'') (by rw [← List.append_assoc]; exact M'')⟩
      have : ∀ j, j < 6 → -2147483648 ≤ unF j ∧ unF j < 2147483648 := by decide
      exact this j (by omega)
    refine ⟨fun q => by omega, fun _ => ⟨by omega, ⟨by omega, by omega⟩, ⟨by omega, by omega⟩, ⟨by omega, by omega⟩, fun q => s37y (Or.inl (b2i_n q)), fun q => ⟨fun w => s37y (Or.inr (Or.inl w)), fun w => ⟨fun v => ?_, fun v => s37y (Or.inr (Or.inr (u1.2.2.2.mp (Decidable.not_not.mp v))))⟩⟩⟩⟩
    have hb0 := b2i_0.mp (Decidable.not_not.mp q)
    have hj0 : ¬ j = 0 := fun w => v (u1.2.2.2.mpr w)
    have hc : ¬ (b = true ∨ 0 < d ∨ j = 0) := fun u => by
      rcases u with u | u | u
      · rw [hb0] at u; cases u
      · exact w u
      · exact hj0 u
    have hb' : (b || decide (0 < d) || decide (j = 0)) = false := by simp [hb0, w, hj0]
    rw [if_neg hc, hb', List.nil_append] at hQ
    refine S68_37 he ⟨fun _ => S68_51 he ?_, fun u => absurd rfl u⟩
    rw [u1.2.2.1]
    refine ⟨?_, ih false _ I (by omega) hM fun I'' f'' M'' => hQ I'' f'' M''⟩
    have : ∀ j, j < 6 → -2147483648 ≤ unF j ∧ unF j < 2147483648 := by decide
    exact this j (by omega)
theorem c68 (he : HS e) {x : Int} (h0 : 0 ≤ x) (h1 : x < 10000) {I : HI} {l : List Int} (hM : WM I l) {Q : HI → HD → Prop} (hQ : ∀ I', Fr wmS I I' → WM I' (l ++ dgL x) → Q I' D) : CV 68 [vR (some 310), vI x] e I D Q :=
  S68 he (c68_6 he h0 h1 5 false l I (Nat.le_refl _) hM fun I' f' M' => hQ I' f' (by rw [← dgN_eq h0 h1]; exact M'))
theorem c60 (he : HS e) {I : HI} {l : List Int} (hM : WM I l) {i : Nat} {x : Int} (hi : i < 3000) (hx : l[i]? = some x) {Q : Int → HI → HD → Prop} (hQ : Q x I D) : CI 60 [vR (some 310), vI (i : Int)] e I D Q := by
  have hl := (List.getElem?_eq_some_iff.mp hx).1
  refine S60 he ⟨fun q => by omega, fun _ => ?_⟩
  rw [hM.1, Int.toNat_natCast, hM.2 i x hi hx]
  exact ⟨fun q => by omega, fun _ => ⟨fun q => by omega, fun _ => ⟨⟨by omega, by omega⟩, hQ⟩⟩⟩
end
