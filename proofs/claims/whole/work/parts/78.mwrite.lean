/-! the model writes: put, say, putNumber, copy -/
def ouS (a k : Nat) : Prop := (a = 312 ∧ k = 54) ∨ a = 340
def OW (I : HI) (l : List Int) : Prop := I 312 54 = ((min l.length 3000 : Nat) : Int) ∧ ∀ (i : Nat) (x : Int), i < 3000 → l[i]? = some x → I 340 i = x
def wB : List Nat → Int
  | [] => 0
  | c :: t => (c : Int) + 256 * wB t
theorem wB_0 (l : List Nat) : 0 ≤ wB l := by
  induction l with
  | nil => exact Int.le_refl _
  | cons c t ih => show 0 ≤ (c : Int) + 256 * wB t; omega
def dgK (x : Int) : Nat → List Int
  | 0 => [48 + Int.tmod (Int.tdiv x 1) 10]
  | j + 1 => [48 + Int.tmod (Int.tdiv x (10 ^ (j + 1))) 10] ++ dgK x j
section
variable {e : En} {g : Int → Int} {n : Int} {D : HD}
theorem m130 (he : HS e) {I : HI} {l : List Int} (hM : OW I l) {x : Int} {Q : HI → HD → Prop} (hQ : ∀ I', Fr ouS I I' → OW I' (l ++ [x]) → Q I' D) : CV 130 [vR (some 312), vI x] e I D Q := by
  refine S130 he ?_
  rw [hM.1]
  refine ⟨fun q => hQ I Fr.refl ⟨?_, fun i y hi hy => ?_⟩, fun q => ⟨⟨by omega, by omega⟩, ⟨by omega, by omega⟩, ?_⟩⟩
  · rw [hM.1, List.length_append, List.length_singleton]; omega
  · rw [List.getElem?_append_left (by omega)] at hy
    exact hM.2 i y hi hy
  · have hl : min l.length 3000 = l.length := by omega
    rw [hl, Int.toNat_natCast]
    refine hQ _ ((Fr.u (S := ouS) (Or.inr rfl)).trans (Fr.u (S := ouS) (Or.inl ⟨rfl, rfl⟩))) ⟨?_, fun i y hi hy => ?_⟩
    · rw [uI_eq, List.length_append, List.length_singleton]; omega
    · rw [uI_ne (by omega)]
      rcases Nat.lt_or_ge i l.length with w | w
      · rw [List.getElem?_append_left w] at hy
        rw [uI_ne (by omega)]; exact hM.2 i y hi hy
      · have : i = l.length := by
          rcases Nat.eq_or_lt_of_le w with v | v
          · exact v.symm
          · rw [List.getElem?_eq_none (by rw [List.length_append, List.length_singleton]; omega)] at hy; cases hy
        subst this
        rw [List.getElem?_append_right (Nat.le_refl _), Nat.sub_self] at hy
        cases hy
        exact uI_eq
theorem m131_2 (he : HS e) {Q : HI → HD → Prop} (t : List Nat) : ∀ (l : List Int) (I : HI), (∀ c ∈ t, 0 < c ∧ c < 256) → wB t < 9223372036854775808 → OW I l → (∀ I', Fr ouS I I' → OW I' (l ++ t.map fun (c : Nat) => (c : Int)) → Q I' D) → RV 131 2 [vR (some 312), vJ, vJ, vL (wB t), vJ] [] e I D Q := by
  induction t with
  | nil =>
    intro l I _ _ hM hQ
    refine S131_2 he ⟨fun _ => hQ I Fr.refl (by rw [List.map_nil, List.append_nil]; exact hM), fun q => absurd (by show (if (0 : Int) < 0 then (1 : Int) else if (0 : Int) = 0 then 0 else -1) = 0; decide) q⟩
  | cons c t ih =>
    intro l I hc hw hM hQ
    have h0 := wB_0 t
    have cc := hc c (List.mem_cons_self ..)
    have ew : wB (c :: t) = (c : Int) + 256 * wB t := rfl
    have e1 : Int.tmod (wB (c :: t)) 256 = (c : Int) := by rw [Int.tmod_eq_emod_of_nonneg (by omega)]; omega
    have e2 : Int.tdiv (wB (c :: t)) 256 = wB t := by rw [Int.tdiv_eq_ediv_of_nonneg (by omega)]; omega
    refine S131_2 he ?_
    rw [e1, e2, if_pos (show 0 < wB (c :: t) by omega)]
    refine ⟨fun q => absurd q (by decide), fun _ => ⟨⟨by omega, by omega⟩, ⟨by omega, by omega⟩, ⟨by omega, by omega⟩, m130 he hM fun I1 f1 M1 => ⟨⟨by omega, by omega⟩, ih _ I1 (fun c' h => hc c' (List.mem_cons_of_mem _ h)) (by omega) M1 fun I2 f2 M2 => hQ I2 (f1.trans f2) ?_⟩⟩⟩
    rw [List.map_cons, ← List.singleton_append, ← List.append_assoc]; exact M2
theorem m131 (he : HS e) {w : Int} (t : List Nat) (hw : w = wB t) (hc : ∀ c ∈ t, 0 < c ∧ c < 256) (hb : wB t < 9223372036854775808) {I : HI} {l : List Int} (hM : OW I l) {Q : HI → HD → Prop} (hQ : ∀ I', Fr ouS I I' → OW I' (l ++ t.map fun (c : Nat) => (c : Int)) → Q I' D) : CV 131 [vR (some 312), vL w] e I D Q := by
  subst hw
  exact S131 he (m131_2 he t l I hc hb hM hQ)
theorem m132_18 (he : HS e) {x : Int} (h0 : 0 ≤ x) (h1 : x < 10000) {Q : HI → HD → Prop} (j : Nat) : ∀ (l : List Int) (I : HI), j ≤ 3 → OW I l → (∀ I', Fr ouS I I' → OW I' (l ++ dgK x j) → Q I' D) → RV 132 18 [vR (some 312), vI x, vI (10 ^ j)] [] e I D Q := by
  have pw : ∀ j : Nat, j ≤ 3 → 0 < (10 : Int) ^ j ∧ (10 : Int) ^ j ≤ 1000 ∧ (10 : Int) ^ j ≠ 0 := by
    intro j hj
    have : ∀ j : Nat, j < 4 → 0 < (10 : Int) ^ j ∧ (10 : Int) ^ j ≤ 1000 ∧ (10 : Int) ^ j ≠ 0 := by decide
    exact this j (by omega)
  have bd : ∀ j : Nat, j ≤ 3 → (0 ≤ Int.tdiv x (10 ^ j) ∧ Int.tdiv x (10 ^ j) ≤ x) ∧ (0 ≤ Int.tdiv (Int.tdiv x (10 ^ j)) 10 ∧ Int.tdiv (Int.tdiv x (10 ^ j)) 10 ≤ x) ∧ (0 ≤ Int.tmod (Int.tdiv x (10 ^ j)) 10 ∧ Int.tmod (Int.tdiv x (10 ^ j)) 10 < 10) := by
    intro j hj
    have p := pw j hj
    have d0 : 0 ≤ Int.tdiv x (10 ^ j) ∧ Int.tdiv x (10 ^ j) ≤ x := by
      rw [Int.tdiv_eq_ediv_of_nonneg h0]
      exact ⟨Int.ediv_nonneg h0 (by omega), Int.ediv_le_self _ h0⟩
    refine ⟨d0, ?_, ?_⟩
    · rw [Int.tdiv_eq_ediv_of_nonneg d0.1]; omega
    · rw [Int.tmod_eq_emod_of_nonneg d0.1]; omega
  induction j with
  | zero =>
    intro l I _ hM hQ
    have b := bd 0 (by omega)
    have e1 : (10 : Int) ^ 0 = 1 := by decide
    rw [e1] at b ⊢
    have e2 : Int.tdiv 1 10 = 0 := by decide
    refine S132_18 he ?_
    rw [e2]
    refine ⟨fun q => by omega, fun _ => ⟨by decide, ⟨by omega, by omega⟩, ⟨by omega, by omega⟩, ⟨by omega, by omega⟩, ⟨by omega, by omega⟩, m130 he hM fun I1 f1 M1 => ⟨⟨by decide, by decide⟩, S132_18 he ⟨fun _ => hQ I1 f1 M1, fun q => absurd (Int.le_refl 0) q⟩⟩⟩⟩
  | succ j ih =>
    intro l I hj hM hQ
    have b := bd (j + 1) hj
    have p := pw (j + 1) hj
    have p2 := pw j (by omega)
    have e2 : Int.tdiv (10 ^ (j + 1)) 10 = (10 : Int) ^ j := by
      have : ∀ j : Nat, j < 3 → Int.tdiv (10 ^ (j + 1)) 10 = (10 : Int) ^ j := by decide
      exact this j (by omega)
    refine S132_18 he ?_
    rw [e2]
    refine ⟨fun q => by omega, fun _ => ⟨p.2.2, ⟨by omega, by omega⟩, ⟨by omega, by omega⟩, ⟨by omega, by omega⟩, ⟨by omega, by omega⟩, m130 he hM fun I1 f1 M1 => ⟨⟨by omega, by omega⟩, ih _ I1 (by omega) M1 fun I2 f2 M2 => hQ I2 (f1.trans f2) ?_⟩⟩⟩
    show OW I2 (l ++ ([48 + Int.tmod (Int.tdiv x (10 ^ (j + 1))) 10] ++ dgK x j))
    rw [← List.append_assoc]; exact M2
theorem m132 (he : HS e) {x : Int} (h0 : 0 ≤ x) (h1 : x < 10000) {I : HI} {l : List Int} (hM : OW I l) {Q : HI → HD → Prop} (hQ : ∀ I', Fr ouS I I' → OW I' (l ++ dgL x) → Q I' D) : CV 132 [vR (some 312), vI x] e I D Q := by
  have td : ∀ d : Int, Int.tdiv x d = x / d := fun d => Int.tdiv_eq_ediv_of_nonneg h0
  have tm : ∀ y : Int, 0 ≤ y → Int.tmod y 10 = y % 10 := fun y hy => Int.tmod_eq_emod_of_nonneg hy
  have p3 : (10 : Int) ^ (2 + 1) = 1000 := by decide
  have p2 : (10 : Int) ^ (1 + 1) = 100 := by decide
  have p1 : (10 : Int) ^ (0 + 1) = 10 := by decide
  have z3 : Int.tmod (Int.tdiv x 1000) 10 = x / 1000 := by rw [td, tm _ (by omega)]; omega
  have z2 : Int.tmod (Int.tdiv x 100) 10 = x / 100 % 10 := by rw [td, tm _ (by omega)]
  have z1 : Int.tmod (Int.tdiv x 10) 10 = x / 10 % 10 := by rw [td, tm _ (by omega)]
  have z0 : Int.tmod (Int.tdiv x 1) 10 = x % 10 := by rw [td, tm _ (by omega)]; omega
  have fin : ∀ j : Nat, j ≤ 3 → dgK x j = dgL x → RV 132 18 [vR (some 312), vI x, vI (10 ^ j)] [] e I D Q := fun j hj hd => m132_18 he h0 h1 j l I hj hM fun I' f' M' => hQ I' f' (by rw [← hd]; exact M')
  have q0 := fin 0 (by omega)
  have q1 := fin 1 (by omega)
  have q2 := fin 2 (by omega)
  have q3 := fin 3 (by omega)
  have c0 : (10 : Int) ^ 0 = 1 := by decide
  have c1 : (10 : Int) ^ 1 = 10 := by decide
  have c2 : (10 : Int) ^ 2 = 100 := by decide
  have c3 : (10 : Int) ^ 3 = 1000 := by decide
  rw [c0] at q0
  rw [c1] at q1
  rw [c2] at q2
  rw [c3] at q3
  have t1 : (10 : Int) * 1 = 10 := by decide
  have t2 : (10 : Int) * 10 = 100 := by decide
  have t3 : (10 : Int) * 100 = 1000 := by decide
  have s1000 : ¬ x < 1000 → RV 132 2 [vR (some 312), vI x, vI 1000] [] e I D Q := by
    intro c
    refine S132_2 he ?_
    rw [td]
    refine ⟨by decide, ⟨by omega, by omega⟩, fun _ => q3 ?_, fun q => by omega⟩
    unfold dgK dgK dgK dgK dgL
    rw [p3, p2, p1, z3, z2, z1, z0, if_neg (by omega), if_neg (by omega), if_neg (by omega)]; rfl
  have s100 : ¬ x < 100 → RV 132 2 [vR (some 312), vI x, vI 100] [] e I D Q := by
    intro c
    refine S132_2 he ?_
    rw [td, t3]
    refine ⟨by decide, ⟨by omega, by omega⟩, fun q => q2 ?_, fun q => ⟨⟨by omega, by omega⟩, s1000 (by omega)⟩⟩
    have : x / 100 % 10 = x / 100 := by omega
    unfold dgK dgK dgK dgL
    rw [p2, p1, z2, z1, z0, this, if_neg (by omega), if_neg (by omega), if_pos (by omega)]; rfl
  have s10 : ¬ x < 10 → RV 132 2 [vR (some 312), vI x, vI 10] [] e I D Q := by
    intro c
    refine S132_2 he ?_
    rw [td, t2]
    refine ⟨by decide, ⟨by omega, by omega⟩, fun q => q1 ?_, fun q => ⟨⟨by omega, by omega⟩, s100 (by omega)⟩⟩
    have : x / 10 % 10 = x / 10 := by omega
    unfold dgK dgK dgL
    rw [p1, z1, z0, this, if_neg (by omega), if_pos (by omega)]; rfl
  refine S132 he (S132_2 he ?_)
  rw [td, t1]
  refine ⟨by decide, ⟨by omega, by omega⟩, fun q => q0 ?_, fun q => ⟨⟨by omega, by omega⟩, s10 (by omega)⟩⟩
  have : x % 10 = x := by omega
  unfold dgK dgL
  rw [z0, this, if_pos (by omega)]
end
