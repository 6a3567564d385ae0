/-! guess, addPage, walk -/
section
variable {e : En} {g : Int → Int} {n : Int} {d : Nat} {D : HD}
theorem gs_bd {fo : Nat → Option FR} (hok : OKS g n fo) (k : Nat) (hk : k ≤ 60) : (gsN g n fo k).1 = 0 ∨ ∃ (j : Nat) (f : FR), 1 ≤ j ∧ j ≤ k ∧ fo j = some f ∧ (gsN g n fo k).1 = (j : Int) := by
  obtain ⟨i1, -, -⟩ := gs_lc hok k hk
  have T := lc_i (g := g) (n := n) (fo := fo) (wp := true) k
  have F := lc_i (g := g) (n := n) (fo := fo) (wp := false) k
  rcases i1 with i1 | i1
  · rcases T with T | ⟨j, fj, j1, j2, j3, j4, T⟩
    · rw [T] at i1; exact absurd i1.1 (by show ¬ (0 : Int) < 0; omega)
    · exact Or.inr ⟨j, fj, j1, j2, j3, by rw [i1.2, T]⟩
  · rcases F with T | ⟨j, fj, j1, j2, j3, j4, T⟩
    · exact Or.inl (by rw [i1.2, T])
    · exact Or.inr ⟨j, fj, j1, j2, j3, by rw [i1.2, T]⟩
theorem m114_13 (he : HS e) {s : SC} (hok : OKS g n s.1) (hcap : s.2.1.length < 2000) {Q : Int → HI → HD → Prop} (k : Nat) : ∀ (i : Nat) (I : HI), i ≤ 60 → 60 - i = k → MoB g n (d : Int) I → MM d I s →
    (∀ I', Fr (mgS d) I I' → MM d I' (s.1, s.2.1 ++ (match obO s.1 (gsN g n s.1 60).1 with | some f => ([(f.1, f.1, 7)] : RfL) | none => []), s.2.2) → Q (gsN g n s.1 60).1 I' D) →
    RI 114 13 [vR (some 312), vI (gsN g n s.1 i).1, vI (b2i (gsN g n s.1 i).2), vI ((i + 1 : Nat) : Int), vJ, vJ] [] e I D Q := by
  induction k with
  | zero =>
    intro i I hi hk hM hS hQ
    obtain ⟨m4, hd, m14, h0n, h3n⟩ := hM.sd
    have : i = 60 := by omega
    subst this
    refine S114_13 he ⟨fun _ => ?_, fun q => by omega⟩
    rcases gs_bd hok 60 (Nat.le_refl _) with b | ⟨j, f, j1, j2, j3, b⟩
    · rw [b] at hQ ⊢
      have e0 : obO s.1 0 = none := if_neg (by omega)
      rw [e0] at hQ
      have hQ := hQ I Fr.refl (by dsimp only; rw [List.append_nil]; exact hS)
      exact ⟨fun _ => hQ, fun q => absurd (Int.le_refl 0) q⟩
    · rw [b] at hQ ⊢
      rw [obO_s (by omega), j3] at hQ
      have mo := hS.1 j j1 (by omega)
      rw [j3] at mo
      refine ⟨fun q => by omega, fun _ => m102 he m4 hd (by omega) (by omega) ?_⟩
      rw [Int.toNat_natCast, Int.toNat_natCast, mo.2.1]
      exact ⟨⟨by omega, by omega⟩, m106 he m4 hd hS hcap fun I1 f1 M1 => hQ I1 (f1.mono mnmg) M1⟩
  | succ k ih =>
    intro i I hi hk hM hS hQ
    have s120 : ∀ (I' : HI), Fr (mgS d) I I' → MM d I' s → RI 114 120 [vR (some 312), vI (gsN g n s.1 (i + 1)).1, vI (b2i (gsN g n s.1 (i + 1)).2), vI ((i + 1 : Nat) : Int), vJ, vJ] [] e I' D Q := by
      intro I' f' M'
      exact S114_120 he ⟨⟨by omega, by omega⟩, ih (i + 1) I' (by omega) (by omega) (hM.mg f') M' fun I'' f'' => hQ I'' (f'.trans f'')⟩
    refine S114_13 he ⟨fun q => by omega, fun _ => m105 he hM hS hok fun I1 f1 => ?_⟩
    rw [obO_s (by omega)]
    have S1 := hS.di f1
    have hM1 := hM.di f1
    have F1 : Fr (mgS d) I I1 := f1.mono dimg
    cases hf : s.1 (i + 1) with
    | none =>
      have eG : gsN g n s.1 (i + 1) = gsN g n s.1 i := by conv => lhs; unfold gsN; rw [hf]
      rw [eG] at s120
      exact ⟨fun _ => s120 I1 F1 S1, fun q => absurd (by show ¬ (0 : Int) = 1; decide) q⟩
    | some f =>
      have eG : gsN g n s.1 (i + 1) = if kdF g n f = 1 ∧ ((gsN g n s.1 i).1 = 0 ∨ ((kdO g n (obO s.1 (pgR g n f)) == 2) = true ∧ (gsN g n s.1 i).2 = false) ∨ ((kdO g n (obO s.1 (pgR g n f)) == 2) = (gsN g n s.1 i).2 ∧ (match obO s.1 (gsN g n s.1 i).1 with | some f0 => f0.1 | none => 0) < f.1))
          then (((i + 1 : Nat) : Int), kdO g n (obO s.1 (pgR g n f)) == 2) else gsN g n s.1 i := by
        conv => lhs; unfold gsN; rw [hf]
        rfl
      refine ⟨fun q => ?_, fun q => ?_⟩
      · have q : ¬ kdF g n f = 1 := q
        rw [if_neg (fun w => q w.1)] at eG
        rw [eG] at s120
        exact s120 I1 F1 S1
      · have k1 : kdF g n f = 1 := Decidable.not_not.mp q
        refine m113 he hM1 S1 hok hf fun I2 f2 => m105 he (hM1.di f2) (S1.di f2) hok fun I3 f3 => ?_
        have S3 := (S1.di f2).di f3
        have hM3 := (hM1.di f2).di f3
        obtain ⟨m4, hd, m14, h0n, h3n⟩ := hM3.sd
        have F3 : Fr (mgS d) I I3 := F1.trans ((f2.mono dimg).trans (f3.mono dimg))
        -- once it is known which is better
        have s95 : ∀ y x4 : Int, x4 = b2i (kdO g n (obO s.1 (pgR g n f)) == 2) → (y = 0 ∧ gsN g n s.1 (i + 1) = gsN g n s.1 i ∨ y = 1 ∧ gsN g n s.1 (i + 1) = (((i + 1 : Nat) : Int), kdO g n (obO s.1 (pgR g n f)) == 2)) → RI 114 95 [vR (some 312), vI (gsN g n s.1 i).1, vI (b2i (gsN g n s.1 i).2), vI ((i + 1 : Nat) : Int), vI x4, vJ] [vI y] e I3 D Q := by
          intro y x4 hx hy
          have s2 := s120 I3 F3 S3
          rcases hy with ⟨rfl, hg⟩ | ⟨rfl, hg⟩
          · rw [hg] at s2
            exact S114_95 he ⟨fun _ => S114_107 he ⟨fun _ => S114_119 he s2, fun w => absurd rfl w⟩, fun w => absurd rfl w⟩
          · rw [hg] at s2
            dsimp only at s2
            rw [← hx] at s2
            exact S114_95 he ⟨fun w => absurd w (by decide), fun _ => S114_107 he ⟨fun w => absurd w (by decide), fun _ => S114_119 he s2⟩⟩
        have s46 : ∀ has : Bool, (kdO g n (obO s.1 (pgR g n f)) == 2) = has → RI 114 46 [vR (some 312), vI (gsN g n s.1 i).1, vI (b2i (gsN g n s.1 i).2), vI ((i + 1 : Nat) : Int), vJ, vJ] [vI (b2i has)] e I3 D Q := by
          intro has hhas
          have yes : ((gsN g n s.1 i).1 = 0 ∨ (has = true ∧ (gsN g n s.1 i).2 = false) ∨ (has = (gsN g n s.1 i).2 ∧ (match obO s.1 (gsN g n s.1 i).1 with | some f0 => f0.1 | none => 0) < f.1)) → RI 114 90 [vR (some 312), vI (gsN g n s.1 i).1, vI (b2i (gsN g n s.1 i).2), vI ((i + 1 : Nat) : Int), vI (b2i has), vJ] [] e I3 D Q := by
            intro c
            exact S114_90 he (s95 1 _ (by rw [hhas]) (Or.inr ⟨rfl, by rw [eG, hhas, if_pos ⟨k1, c⟩]⟩))
          have no : ¬ ((gsN g n s.1 i).1 = 0 ∨ (has = true ∧ (gsN g n s.1 i).2 = false) ∨ (has = (gsN g n s.1 i).2 ∧ (match obO s.1 (gsN g n s.1 i).1 with | some f0 => f0.1 | none => 0) < f.1)) → RI 114 94 [vR (some 312), vI (gsN g n s.1 i).1, vI (b2i (gsN g n s.1 i).2), vI ((i + 1 : Nat) : Int), vI (b2i has), vJ] [] e I3 D Q := by
            intro c
            exact S114_94 he (s95 0 _ (by rw [hhas]) (Or.inl ⟨rfl, by rw [eG, hhas, if_neg (fun w => c w.2)]⟩))
          have s61 : ¬ (gsN g n s.1 i).1 = 0 → ¬ (has = true ∧ (gsN g n s.1 i).2 = false) → RI 114 61 [vR (some 312), vI (gsN g n s.1 i).1, vI (b2i (gsN g n s.1 i).2), vI ((i + 1 : Nat) : Int), vI (b2i has), vJ] [] e I3 D Q := by
            intro n0 n1
            refine S114_61 he ⟨fun w => no (fun v => ?_), fun w => ?_⟩
            · rcases v with v | v | v
              · exact n0 v
              · exact n1 v
              · exact w (by rw [v.1])
            · have w' : has = (gsN g n s.1 i).2 := b2i_inj.mp (Decidable.not_not.mp w)
              rcases gs_bd hok i (by omega) with b | ⟨j, fj, j1, j2, j3, b⟩
              · exact absurd b n0
              · have mi := S3.1 (i + 1) (by omega) (by omega)
                have mj := S3.1 j j1 (by omega)
                rw [hf] at mi
                rw [j3] at mj
                have ob : (match obO s.1 (gsN g n s.1 i).1 with | some f0 => f0.1 | none => 0) = fj.1 := by rw [b, obO_s (by omega), j3]
                rw [ob] at yes no
                have nb : ((j : Int)) ≠ 0 := by omega
                refine m102 he m4 hd (by omega) (by omega) ⟨⟨by omega, by omega⟩, ?_⟩
                have tj : (gsN g n s.1 i).1.toNat = j := by omega
                refine m102 he m4 hd (by omega) (by omega) ?_
                rw [Int.toNat_natCast, Int.toNat_natCast, Int.toNat_natCast, tj, mi.2.1, mj.2.1]
                refine ⟨⟨by omega, by omega⟩, fun v => no (fun u => ?_), fun v => yes (Or.inr (Or.inr ⟨w', by omega⟩))⟩
                rcases u with u | u | u
                · exact n0 u
                · exact n1 u
                · omega
          refine S114_46 he ⟨fun w => yes (Or.inl w), fun w => ⟨fun v => s61 w (fun u => ?_), fun v => ⟨fun u => yes (Or.inr (Or.inl ⟨b2i_n v, b2i_0.mp u⟩)), fun u => s61 w (fun t => ?_)⟩⟩⟩
          · rw [u.1] at v; cases v
          · rw [t.2] at u; exact u rfl
        refine ⟨fun w => ?_, fun w => ?_⟩
        · have hw : (kdO g n (obO s.1 (pgR g n f)) == 2) = false := by simpa using w
          exact s46 false hw
        · have hw : (kdO g n (obO s.1 (pgR g n f)) == 2) = true := by simpa using w
          exact s46 true hw
theorem m114 (he : HS e) {I : HI} {s : SC} (hok : OKS g n s.1) (hcap : s.2.1.length + 1 < 2000) (hM : MoB g n (d : Int) I) (hS : MM d I s) {Q : Int → HI → HD → Prop}
    (hQ : ∀ I', Fr (mgS d) I I' → MM d I' (s.1, s.2.1 ++ [(0, 0, 6)] ++ (match obO s.1 (gsN g n s.1 60).1 with | some f => ([(f.1, f.1, 7)] : RfL) | none => []), s.2.2) → Q (gsN g n s.1 60).1 I' D) : CI 114 [vR (some 312)] e I D Q := by
  obtain ⟨m4, hd, m14, h0n, h3n⟩ := hM.sd
  refine S114 he (m106 he m4 hd hS (by omega) fun I1 f1 M1 => ?_)
  exact m114_13 he (s := (s.1, s.2.1 ++ [(0, 0, 6)], s.2.2)) hok (by show (s.2.1 ++ [(0, 0, 6)]).length < 2000; rw [List.length_append, List.length_singleton]; omega) 60 0 I1 (by omega) rfl (hM.mg (f1.mono mnmg)) M1 fun I2 f2 => hQ I2 ((f1.mono mnmg).trans f2)
end
