/-! the model's readRow -/
def rwS (a k : Nat) : Prop := (a = 312 ∧ (k = 31 ∨ k = 33 ∨ k = 34 ∨ k = 38)) ∨ (333 ≤ a ∧ a ≤ 335)
theorem curw (a k : Nat) (h : cuS a k) : rwS a k := by unfold cuS at h; unfold rwS; omega
theorem rfrw (a k : Nat) (h : rfS a k) : rwS a k := by unfold rfS at h; unfold rwS; omega
theorem MoB.rw {g : Int → Int} {n s : Int} {I I' : HI} (h : MoB g n s I) (hf : Fr rwS I I') : MoB g n s I' := h.fr hf (by simp [rwS]) (by simp [rwS])
theorem MR.cu {I I' : HI} {rs : RfL} (h : MR I rs) (hf : Fr cuS I I') : MR I' rs := h.fr hf (by simp [cuS]) (by simp [cuS])
theorem wok_op : WOK 15420 [60, 60] := ⟨by decide, by decide⟩
theorem wok_cl : WOK 15934 [62, 62] := ⟨by decide, by decide⟩
theorem wok_ro : WOK 91 [91] := ⟨by decide, by decide⟩
theorem wok_rc : WOK 93 [93] := ⟨by decide, by decide⟩
theorem wok_len : WOK 29401385160494127 (zstr 20) := ⟨by decide, by decide⟩
section
variable {e : En} {D : HD} {g : Int → Int} {n s lim b : Int} {P : Int → Prop}
theorem mnx (he : HS e) (hB : Bd g n b P) (hb : HB g n lim b) {I : HI} {a p : Int} (hM : MoB g n s I) (hl : I 312 32 = lim) (ha : I 312 31 = a) (h0 : 0 ≤ a) (hp : P p) (hap : a ≤ p) (hs : skp g n a = p) {Q : Int → HI → HD → Prop}
    (hX : p = b → b = lim)
    (hN : p = b → b = lim → ∀ I', Fr cuS I I' → I' 312 31 = lim → Q 0 I' D)
    (hY : p < b → ∀ I', Fr cuS I I' → I' 312 31 = eF g n p → I' 312 33 = p → I' 312 34 = eF g n p → Q 1 I' D) : CI 91 [vR (some 312)] e I D Q := by
  have pb := (hB.2 p hp).1
  have hb1 := hb.1
  have hb2 := hb.2.1
  have hal : a ≤ lim := by omega
  have sm : skp g lim a = min lim p := by rw [skp_min hb2 _ a hal (Nat.le_refl _), hs]
  refine m91 he hM hl ha h0 hal hb2 (fun c I' f e1 => ?_) (fun c I' f e1 e2 e3 => ?_)
  · have : p = b := by omega
    exact hN this (hX this) I' f e1
  · have hlt : p < b := by
      rcases Int.lt_or_le p b with w | w
      · exact w
      · have := hX (by omega); omega
    have t := tk_lim hB hb hp hlt hap hs
    rw [t.1] at e1 e2 e3
    rw [t.2] at e1 e3
    exact hY hlt I' f e1 e2 e3
def opk (sq : Bool) : Int := if sq = true then 11 else 9
def clk (sq : Bool) : Int := if sq = true then 12 else 10
theorem m100_2 (he : HS e) (hB : Bd g n b P) (hb : HB g n lim b) {sq : Bool} {Q : HI → HD → Prop} (k : Nat) :
    ∀ (p d a : Int) (rs : RfL) (I : HI), (b - p).toNat < k → P p → 1 ≤ d → d ≤ p + 1 → MoB g n s I → I 312 32 = lim → I 312 31 = a → 0 ≤ a → a ≤ p → skp g n a = p → MR I rs → 5 * (rs.length : Int) ≤ p →
    (b = lim ∨ (rowN g n b (opk sq) (clk sq) k p d rs).1 < b) →
    (∀ I', Fr rwS I I' → MR I' (rowN g n b (opk sq) (clk sq) k p d rs).2 → I' 312 31 = (rowN g n b (opk sq) (clk sq) k p d rs).1 → Q I' D) →
    RV 100 2 [vR (some 312), vI (b2i sq), vI d, vJ, vJ] [] e I D Q := by
  have hb2 := hb.2.1
  have hb1 := hb.1
  induction k with
  | zero => intro p d a rs I hk; omega
  | succ k ih =>
    intro p d a rs I hk hp hd1 hd2 hM hl ha h0 hap hs hR h5 hcl hQ
    have hn := hM.2.2.2.2.1
    have pb := (hB.2 p hp).1
    refine S100_2 he ⟨fun q => by omega, fun _ => mnx he hB hb hM hl ha h0 hp hap hs (fun q => ?_) (fun q1 q2 I' f ea => ⟨fun _ => ?_, fun q => absurd rfl q⟩) (fun hlt I1 f1 a1 g1 t1 => ⟨fun q => absurd q (by decide), fun _ => ?_⟩)⟩
    · rcases hcl with w | w
      · exact w
      · have e1 : rowN g n b (opk sq) (clk sq) (k + 1) p d rs = (p, rs) := if_pos (by omega)
        rw [e1] at w
        have : p < b := w
        omega
    · have e1 : rowN g n b (opk sq) (clk sq) (k + 1) p d rs = (p, rs) := if_pos (by omega)
      rw [e1] at hQ
      exact hQ I' (f.mono curw) (hR.cu f) (by show I' 312 31 = p; omega)
    · have M1 := hM.cu f1
      have R1 := hR.cu f1
      have l1 : I1 312 32 = lim := by rw [f1 _ _ (by simp [cuS])]; exact hl
      have hnx := hB.nx hp hlt
      have nb := (nxF_bd (g := g) (show p ≤ n by omega)).2.2 (by omega)
      have eb := hB.eFle hp hlt
      have tk := ((hB.2 p hp).2 hlt).2.1
      have ko := k_open pb.1 (show p < n by omega) tk
      have kc := k_close pb.1 (show p < n by omega) tk
      have kr := k_row pb.1 (show p < n by omega) tk
      have se : skp g n (eF g n p) = nxF g n p := rfl
      have el : eF g n p ≤ nxF g n p := (skp_bd (g := g) (show eF g n p ≤ n by omega)).1
      have e1 : rowN g n b (opk sq) (clk sq) (k + 1) p d rs = if kF' g n p = 4 then rowN g n b (opk sq) (clk sq) k (skp g n (e3F g n p)) d (rs ++ [(p, e3F g n p, mF g n p)])
          else if kF' g n p = clk sq then (if d = 1 then (eF g n p, rs) else rowN g n b (opk sq) (clk sq) k (nxF g n p) (d - 1) rs)
          else if kF' g n p = opk sq then rowN g n b (opk sq) (clk sq) k (nxF g n p) (d + 1) rs
          else rowN g n b (opk sq) (clk sq) k (nxF g n p) d rs := if_neg (by omega)
      have go : ∀ (d' : Int), 1 ≤ d' → d' ≤ p + 2 → rowN g n b (opk sq) (clk sq) (k + 1) p d rs = rowN g n b (opk sq) (clk sq) k (nxF g n p) d' rs → ∀ J, Fr cuS I J → J 312 31 = eF g n p → RV 100 2 [vR (some 312), vI (b2i sq), vI d', vJ, vJ] [] e J D Q := by
        intro d' h1 h2 w J fJ aJ
        rw [w] at hQ hcl
        exact ih (nxF g n p) d' (eF g n p) rs J (by omega) hnx h1 (by omega) (hM.cu fJ) (by rw [fJ _ _ (by simp [cuS])]; exact hl) aJ (by omega) el se (hR.cu fJ) (by omega) hcl (fun I' f2 => hQ I' ((fJ.mono curw).trans f2))
      have okne : opk sq ≠ clk sq ∧ opk sq ≠ 4 ∧ clk sq ≠ 4 := by cases sq <;> decide
      have r58 : kF' g n p = opk sq → RV 100 58 [vR (some 312), vI (b2i sq), vI d, vJ, vJ] [] e I1 D Q := by
        intro w
        refine S100_58 he ⟨⟨by omega, by omega⟩, go (d + 1) (by omega) (by omega) ?_ I1 f1 a1⟩
        rw [e1, if_neg (by omega), if_neg (by omega), if_pos w]
      have r64 : kF' g n p ≠ opk sq → RV 100 64 [vR (some 312), vI (b2i sq), vI d, vJ, vJ] [] e I1 D Q := by
        intro w
        have r109 : kF' g n p = clk sq → RV 100 109 [vR (some 312), vI (b2i sq), vI d, vJ, vJ] [] e I1 D Q := by
          intro v
          refine S100_109 he ⟨⟨by omega, by omega⟩, ?_⟩
          by_cases f : d = 1
          · rw [show d + (-1) = 0 by omega]
            rw [if_neg (by omega), if_pos v, if_pos f] at e1
            rw [e1] at hQ
            exact S100_2 he ⟨fun _ => hQ I1 (f1.mono curw) R1 a1, fun q => absurd (by decide) q⟩
          · rw [show d + (-1) = d - 1 by omega]
            rw [if_neg (by omega), if_pos v, if_neg f] at e1
            exact go (d - 1) (by omega) (by omega) e1 I1 f1 a1
        have r115 : kF' g n p ≠ clk sq → RV 100 115 [vR (some 312), vI (b2i sq), vI d, vJ, vJ] [] e I1 D Q := by
          intro v
          refine S100_115 he ?_
          rw [g1, t1]
          have pr := prf hB hb hp hlt
          refine m96 he M1 pb.1 (by omega) (by omega) l1 a1 (by omega) (by omega) hb2 fun I2 f2 a2 => ⟨fun z => S100_148 he ?_, fun z => ?_⟩
          · have z := b2i_0.mp z
            have n4 : kF' g n p ≠ 4 := fun u => by rw [pr.1.mpr u] at z; cases z
            rw [z] at a2
            exact go d hd1 (by omega) (by rw [e1, if_neg n4, if_neg v, if_neg w]) I2 (f1.trans f2) a2
          · have z := b2i_n z
            have h4 := pr.1.mp z
            rw [z, if_pos rfl, pr.2 h4] at a2
            have M2 := M1.cu f2
            have R2 := R1.cu f2
            obtain ⟨q1, q2, q3, -, -⟩ := hB.ref hp hlt h4
            refine m95 he M2 pb.1 (by omega) (by omega) ?_
            rw [← mF_tok (show p < n by omega) tk]
            refine m97 he R2 (by omega) a2 fun I3 f3 R3 => S100_148 he ?_
            rw [e1, if_pos h4] at hQ hcl
            have s3 := skp_bd (g := g) (show e3F g n p ≤ n by omega)
            have f13 : Fr rwS I I3 := ((f1.trans f2).mono curw).trans (f3.mono rfrw)
            exact ih (skp g n (e3F g n p)) d (e3F g n p) (rs ++ [(p, e3F g n p, mF g n p)]) I3 (by omega) q1 hd1 (by omega) (hM.rw f13) (by rw [f13 _ _ (by simp [rwS])]; exact hl) (by rw [f3 _ _ (by simp [rfS])]; exact a2) (by omega) s3.1 rfl R3 (by simp only [List.length_append, List.length_cons, List.length_nil]; omega) hcl (fun I' f4 => hQ I' (f13.trans f4))
        refine S100_64 he ⟨fun q => ?_, fun q => ?_⟩
        · have hsq : sq = false := b2i_0.mp q
          rw [g1, t1]
          refine m94 he M1 wok_cl rfl pb.1 (by omega) (by omega) (by omega) ⟨fun z => r115 ?_, fun z => r109 ?_⟩
          · intro u
            rw [hsq] at u
            rw [kc.mpr u] at z; exact absurd z (by decide)
          · rw [hsq]; exact kc.mp (b2i_n z)
        · have hsq : sq = true := b2i_n q
          rw [g1, t1]
          refine m94 he M1 wok_rc rfl pb.1 (by omega) (by omega) (by omega) ⟨fun z => r115 ?_, fun z => r109 ?_⟩
          · intro u
            rw [hsq] at u
            rw [kr.2.mpr u] at z; exact absurd z (by decide)
          · rw [hsq]; exact kr.2.mp (b2i_n z)
      refine ⟨fun q => ?_, fun q => ?_⟩
      · have hsq : sq = false := b2i_0.mp q
        rw [g1, t1]
        refine m94 he M1 wok_op rfl pb.1 (by omega) (by omega) (by omega) ⟨fun z => r64 ?_, fun z => r58 ?_⟩
        · intro u
          rw [hsq] at u
          rw [ko.mpr u] at z; exact absurd z (by decide)
        · rw [hsq]; exact ko.mp (b2i_n z)
      · have hsq : sq = true := b2i_n q
        rw [g1, t1]
        refine m94 he M1 wok_ro rfl pb.1 (by omega) (by omega) (by omega) ⟨fun z => r64 ?_, fun z => r58 ?_⟩
        · intro u
          rw [hsq] at u
          rw [kr.1.mpr u] at z; exact absurd z (by decide)
        · rw [hsq]; exact kr.1.mp (b2i_n z)
end
