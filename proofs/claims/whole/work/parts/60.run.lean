/-! Scan.run -/
def scF (g : Int → Int) (n : Int) : SC := scN g n 4000 (skp g n 0) (sc0 g n)
def scR (g : Int → Int) (n : Int) : SC := ((scF g n).1, (scF g n).2.1 ++ m5N g n (scF g n).1 60 ++ caM g n (scF g n) ++ pgD g n (scF g n), (scF g n).2.2)
/-- the class's memory at A holds a scan with all that came behind it -/
def RS (g : Int → Int) (n : Int) (A : Nat) (I : HI) (D : HD) (s : SC) (c : Int) (pg : List Int) : Prop := ∃ rs ls, CS g n A I D s rs ls ∧ I A 15 = c ∧ PgM A I pg ∧ pg.length ≤ 61 ∧ (0 ≤ n ∧ n ≤ L0 (A + 1)) ∧ (∀ p : Int, 0 ≤ p → p < n → I (A + 1) p.toNat % 256 = g p) ∧ rs.length < 100000 ∧ ls.length < 100000
def rnS (A a _k : Nat) : Prop := (A ≤ a ∧ a < A + 151) ∨ (1 ≤ a ∧ a ≤ 5)
section
variable {e : En} {g : Int → Int} {n : Int} {A : Nat}
theorem caps (hA : isA A) (h : n ≤ L0 (A + 1)) : n ≤ 3000 ∧ n ≤ 5 * L0 (A + 3) ∧ n ≤ 8 * L0 (A + 7) ∧ n + 15 ≤ 3 * L0 (A + 11) ∧ n < 7 * L0 (A + 15) := by
  rcases hA with rfl | rfl
  · have e1 : L0 (8 + 1) = 1500 ∧ L0 (8 + 3) = 301 ∧ L0 (8 + 7) = 188 ∧ L0 (8 + 11) = 510 ∧ L0 (8 + 15) = 215 := by decide
    omega
  · have e1 : L0 (159 + 1) = 3000 ∧ L0 (159 + 3) = 601 ∧ L0 (159 + 7) = 376 ∧ L0 (159 + 11) = 1010 ∧ L0 (159 + 15) = 429 := by decide
    omega
theorem c24 (he : HS e) (hA : isA A) {I : HI} {D : HD} {q1 : Nat} (hq1 : K0 q1 = 22) (hqA : q1 ≠ A) (h0 : 0 ≤ n) (h2 : n ≤ L0 q1) (h3 : n ≤ L0 (A + 1)) (hb : ∀ p : Int, 0 ≤ p → p < n → I q1 p.toNat % 256 = g p) (hP : PM A D)
    {l1 l2 l3 l4 : RfL} (m1 : MkL (A + 2) I l1) (m2 : MkL (A + 6) I l2) (m3 : MkL (A + 10) I l3) (m4 : MkL (A + 14) I l4) {Q : HI → HD → Prop}
    (hQ : ∀ I' D', Fr (rnS A) I I' → (∀ a k, a ≠ 1 → a < A ∨ A + 21 < a → D' a k = D a k) → RS g n A I' D' (scR g n) (caF g n (scF g n)) (pgF g n (scF g n)) → WT g n n (scF g n) → Q I' D') : CV 24 [vR (some A), vR (some q1), vI n] e I D Q := by
  have hA8 := isA8 hA
  obtain ⟨hn, k1, k2, k3, k4⟩ := caps hA h3
  refine S24 he hA hq1 (c25 he hA hq1 hqA h0 hn h2 h3 hb hP m1 m2 m3 m4 fun I1 f1 T1 C1 => c51 he T1.1 T1.2.1 (Int.le_refl _) (Int.le_refl _) h0 ?_)
  have sb := skp_bd (g := g) h0
  have W0 := (WT_0 (g := g) (n := n)).le sb.1
  refine c24_18 he hA k1 k2 k3 k4 4000 (skp g n 0) 0 (sc0 g n) [] [] I1 _ sb.1 sb.2 (skp_skp h0) (by omega) (Int.le_refl _) sb.1 T1 C1 (by simp; omega) (by simp; omega) W0 fun I2 D2 rs ls f2 d2 T2 C2 W2 r5 r8 => ?_
  have C2 : CS g n A I2 D2 (scF g n) rs ls := C2
  have W2 : WT g n n (scF g n) := W2
  have ml := m5N_le (g := g) (n := n) (fo := (scF g n).1) 60
  have ml : (m5N g n (scF g n).1 60).length ≤ tot g n (scF g n).1 := ml
  have cl : (caM g n (scF g n)).length ≤ 2 := by
    unfold caM
    split
    · exact Nat.zero_le _
    · rw [List.length_append]
      split <;> simp
  have w1 := W2.1
  refine S24_89 he hA (c38 he hA (by omega) (by omega) C2 fun I3 f3 C3 => c39 he hA (by show ((scF g n).2.1 ++ m5N g n (scF g n).1 60).length + 2 ≤ L0 (A + 11); rw [List.length_append]; omega) C3 fun I4 f4 C4 h15 => ?_)
  have C4 : CS g n A I4 D2 ((scF g n).1, (scF g n).2.1 ++ m5N g n (scF g n).1 60 ++ caM g n (scF g n), (scF g n).2.2) rs ls := C4
  have h15 : I4 A 15 = caF g n (scF g n) := h15
  refine c41 he hA C4 (by omega) (by show tot g n (scF g n).1 ≤ 1500; omega) (by show ((scF g n).2.1 ++ m5N g n (scF g n).1 60 ++ caM g n (scF g n)).length < _; rw [List.length_append, List.length_append]; omega) h15 (p1 := pg1 g n (scF g n)) rfl fun I5 f5 G5 l5 C5 => ?_
  have pn := pgN_len (g := g) (n := n) (fo := (scF g n).1) 60
  have FF : Fr (rnS A) I I5 := (f1.mono fun a k q => by unfold tbS at q; unfold rnS; omega).trans ((f2.mono fun a k q => by unfold obW at q; unfold rnS; omega).trans ((f3.mono fun a k q => by unfold mkS at q; unfold rnS; omega).trans ((f4.mono fun a k q => by unfold mkS at q; unfold rnS; omega).trans (f5.mono fun a k q => by unfold pgS mkS at q; unfold rnS; omega))))
  refine hQ I5 D2 FF (fun a k q1 q2 => by rw [d2 a k q2, uD_ne (by omega)]) ⟨rs, ls, C5, ?_, G5, ?_, ⟨h0, h3⟩, fun p p0 p1 => ?_, by omega, by omega⟩ W2
  · rw [f5 _ _ (fun q => by unfold pgS mkS at q; omega)]; exact h15
  · show (pgF g n (scF g n)).length ≤ 61
    unfold pgF
    split
    · exact l5
    · omega
  · rw [f5 _ _ (fun q => by unfold pgS mkS at q; omega), f4 _ _ (fun q => by unfold mkS at q; omega), f3 _ _ (fun q => by unfold mkS at q; omega)]
    have := T2.1.2.2.2.2.2 p p0 p1
    rw [T2.2.2] at this
    exact this
end
