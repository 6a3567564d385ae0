/-! the model's copy, putObject -/
theorem mk_take {L : RfL} {i : Int} {j : Nat} {r : Int × Int × Int} (h : oPr L) (hj : L[j]? = some r) : mkA (L.take (j + 1)) i = if r.1 = i then some r else mkA (L.take j) i := by
  have tk : L.take (j + 1) = L.take j ++ [r] := by rw [List.take_succ, hj]; rfl
  split
  · rename_i c
    exact mkA_some (h.sublist (List.take_sublist _ _)) (by rw [tk]; exact List.mem_append_right _ (List.mem_singleton.mpr rfl)) c
  · rename_i c
    rw [tk]
    unfold mkA
    rw [List.find?_append]
    have : ([r].find? fun r => r.1 == i) = none := by rw [List.find?_eq_none]; intro x hx; rw [List.mem_singleton] at hx; subst hx; simpa using c
    rw [this, Option.or_none]
/-- two marks of one place are one -/
theorem mk_take_none {L : RfL} {i : Int} {j : Nat} {r : Int × Int × Int} (h : oPr L) (hj : L[j]? = some r) (hi : r.1 = i) : mkA (L.take j) i = none := by
  refine mkA_none fun r' hr' => ?_
  obtain ⟨a, ha⟩ := List.mem_iff_getElem?.mp hr'
  rw [List.getElem?_take] at ha
  split at ha
  · rename_i c
    obtain ⟨la, ea⟩ := List.getElem?_eq_some_iff.mp ha
    obtain ⟨lj, ej⟩ := List.getElem?_eq_some_iff.mp hj
    have := (List.pairwise_iff_getElem.mp h) a j la lj c
    rw [ea, ej] at this
    omega
  · cases ha
def skV (L : RfL) (j : Nat) (i : Int) : Int := match mkA (L.take j) i with | some r => r.2.1 | none => i
def rfV (fo : Nat → Option FR) (R : RfL) (j : Nat) (i : Int) : Int := match mkA (R.take j) i with | some r => (if (obO fo r.2.2).isNone = true then r.2.1 else i) | none => i
section
variable {e : En} {g : Int → Int} {n : Int} {D : HD}
theorem m133_16 (he : HS e) {I : HI} {L : RfL} (hL : ML I L) (oL : oPr L) (h7 : L.length ≤ 700) {t i : Int} {Q : HI → HD → Prop} (k : Nat) : ∀ j : Nat, j ≤ L.length → L.length - j = k →
    RV 133 61 [vR (some 312), vJ, vI t, vI 1, vI i, vI (skV L L.length i), vJ, vJ] [] e I D Q → RV 133 16 [vR (some 312), vJ, vI t, vI 1, vI i, vI (skV L j i), vI (j : Int), vJ] [] e I D Q := by
  induction k with
  | zero =>
    intro j hj hk hQ
    have : j = L.length := by omega
    subst this
    refine S133_16 he ?_
    rw [hL.1]
    exact ⟨fun _ => hQ, fun q => absurd (Int.le_refl _) q⟩
  | succ k ih =>
    intro j hj hk hQ
    have hjl : j < L.length := by omega
    have hr := List.getElem?_eq_getElem hjl
    have m := hL.2 j _ hr
    have nx := ih (j + 1) (by omega) (by omega) hQ
    have mt := mk_take (i := i) oL hr
    refine S133_16 he ?_
    rw [hL.1, Int.toNat_natCast, m.1, m.2]
    refine ⟨fun q => by omega, fun _ => ⟨fun q => absurd q (by decide), fun _ => ⟨⟨by omega, by omega⟩, fun q => S133_53 he ⟨⟨by omega, by omega⟩, ?_⟩, fun q => ⟨⟨by omega, by omega⟩, S133_53 he ⟨⟨by omega, by omega⟩, ?_⟩⟩⟩⟩⟩
    · have : skV L (j + 1) i = skV L j i := by unfold skV; rw [mt, if_neg q]
      rw [this] at nx; exact nx
    · have : skV L (j + 1) i = L[j].2.1 := by unfold skV; rw [mt, if_pos (Decidable.not_not.mp q)]
      rw [this] at nx; exact nx
theorem m133_68 (he : HS e) {I : HI} {s : SC} (hM : MoB g n ((0 : Nat) : Int) I) (hS : MM 0 I s) {R : RfL} (hR : MR I R) (oR : oPr R) (h7 : R.length ≤ 700) {t x3 i : Int} {Q : HI → HD → Prop} (k : Nat) : ∀ j : Nat, j ≤ R.length → R.length - j = k →
    RV 133 130 [vR (some 312), vJ, vI t, vI x3, vI i, vI i, vI (rfV s.1 R R.length i), vJ] [] e I D Q → RV 133 68 [vR (some 312), vJ, vI t, vI x3, vI i, vI i, vI (rfV s.1 R j i), vI (j : Int)] [] e I D Q := by
  obtain ⟨m4, hd, m14, h0n, h3n⟩ := hM.sd
  induction k with
  | zero =>
    intro j hj hk hQ
    have : j = R.length := by omega
    subst this
    refine S133_68 he ?_
    rw [hR.1]
    exact ⟨fun _ => hQ, fun q => absurd (Int.le_refl _) q⟩
  | succ k ih =>
    intro j hj hk hQ
    have hjl : j < R.length := by omega
    have hr := List.getElem?_eq_getElem hjl
    have m := hR.2 j _ hr
    have nx := ih (j + 1) (by omega) (by omega) hQ
    have mt := mk_take (i := i) oR hr
    refine S133_68 he ?_
    rw [hR.1, Int.toNat_natCast, m.1, m.2.2]
    refine ⟨fun q => by omega, fun _ => ⟨fun q => absurd rfl q, fun _ => ⟨⟨by omega, by omega⟩, fun q => S133_120 he (S133_122 he ⟨⟨by omega, by omega⟩, ?_⟩), fun q => ⟨⟨by omega, by omega⟩, m103 he m4 hd hS ⟨fun w => S133_120 he (S133_122 he ⟨⟨by omega, by omega⟩, ?_⟩), fun w => ⟨⟨by omega, by omega⟩, ?_⟩⟩⟩⟩⟩⟩
    · have : rfV s.1 R (j + 1) i = rfV s.1 R j i := by unfold rfV; rw [mt, if_neg q]
      rw [this] at nx; exact nx
    · have q := Decidable.not_not.mp q
      have w : (obO s.1 R[j].2.2).isSome = true := b2i_n w
      have mn := mk_take_none oR hr q
      have : rfV s.1 R (j + 1) i = rfV s.1 R j i := by
        unfold rfV
        rw [mt, if_pos q, mn]
        dsimp only
        rw [if_neg (by rw [← Option.not_isSome, w]; decide)]
      rw [this] at nx; exact nx
    · have q := Decidable.not_not.mp q
      have w : (obO s.1 R[j].2.2).isSome = false := b2i_0.mp (Decidable.not_not.mp w)
      have : rfV s.1 R (j + 1) i = R[j].2.1 := by
        unfold rfV
        rw [mt, if_pos q]
        dsimp only
        rw [if_pos (by rw [← Option.not_isSome, w]; decide)]
      rw [this] at nx
      rw [m.2.1]
      exact S133_122 he ⟨⟨by omega, by omega⟩, nx⟩
theorem MM.ou {I I' : HI} {d : Nat} {s : SC} (h : MM d I s) (hf : Fr ouS I I') : MM d I' s := h.fr hf (fun a k q => by unfold ouS at q; omega)
theorem MoB.ou {I I' : HI} {d : Nat} (h : MoB g n (d : Int) I) (hf : Fr ouS I I') : MoB g n (d : Int) I' := h.fr hf (fun q => by unfold ouS at q; omega) (fun k => ⟨fun q => by unfold ouS at q; omega, fun q => by unfold ouS at q; omega⟩)
theorem m133_3 (he : HS e) {I0 : HI} {s : SC} (hM : MoB g n ((0 : Nat) : Int) I0) (hS : MM 0 I0 s) {R L : RfL} (hR : MR I0 R) (hL : ML I0 L) (oR : oPr R) (oL : oPr L) (oR2 : ∀ r ∈ R, r.1 < r.2.1) (oL2 : ∀ r ∈ L, r.1 < r.2.1) (h7 : R.length ≤ 700) (h7' : L.length ≤ 700) {lv : Bool} {t : Int} (ht : t ≤ n) {Q : HI → HD → Prop} (k : Nat) :
    ∀ (i : Int) (I : HI) (l : List Int), 0 ≤ i → (t - i).toNat ≤ k → Fr ouS I0 I → OW I l → (∀ I', Fr ouS I0 I' → OW I' (l ++ cpN g s.1 R L lv t k i) → Q I' D) → RV 133 3 [vR (some 312), vJ, vI t, vI (b2i lv), vI i, vJ, vJ, vJ] [] e I D Q := by
  induction k with
  | zero =>
    intro i I l h0 hk f hW hQ
    exact S133_3 he ⟨fun _ => hQ I f (by show OW I (l ++ []); rw [List.append_nil]; exact hW), fun q => by omega⟩
  | succ k ih =>
    intro i I l h0 hk f hW hQ
    by_cases hti : t ≤ i
    · have e1 : cpN g s.1 R L lv t (k + 1) i = [] := by unfold cpN; rw [if_pos hti]
      rw [e1] at hQ
      exact S133_3 he ⟨fun _ => hQ I f (by rw [List.append_nil]; exact hW), fun q => absurd hti q⟩
    · have hMI := hM.ou f
      have hSI := hS.ou f
      have hRI : MR I R := hR.fr f (fun q => by unfold ouS at q; omega) (fun k => ⟨fun q => by unfold ouS at q; omega, fun q => by unfold ouS at q; omega, fun q => by unfold ouS at q; omega⟩)
      have hLI : ML I L := hL.fr f (fun q => by unfold ouS at q; omega) (fun k => ⟨fun q => by unfold ouS at q; omega, fun q => by unfold ouS at q; omega⟩)
      obtain ⟨m4, hd, m14, h0n, h3n⟩ := hMI.sd
      have e1 : cpN g s.1 R L lv t (k + 1) i = (match (if lv = true then mkA L i else none) with
        | some r => cpN g s.1 R L lv t k r.2.1
        | none => match mkA R i with
          | some r => if (obO s.1 r.2.2).isNone = true then txL 4 ++ cpN g s.1 R L lv t k r.2.1 else [g i] ++ cpN g s.1 R L lv t k (i + 1)
          | none => [g i] ++ cpN g s.1 R L lv t k (i + 1)) := by
        conv => lhs; unfold cpN
        rw [if_neg hti]
        rfl
      -- no length is left out here
      have plain : (if lv = true then mkA L i else none) = none → RV 133 61 [vR (some 312), vJ, vI t, vI (b2i lv), vI i, vI i, vJ, vJ] [] e I D Q := by
        intro hl0
        rw [hl0] at e1
        dsimp only at e1
        have r0 : rfV s.1 R 0 i = i := rfl
        have := m133_68 he hMI hSI hRI oR h7 (t := t) (x3 := b2i lv) (i := i) (D := D) (Q := Q) _ 0 (Nat.zero_le _) rfl
        rw [r0] at this
        refine S133_61 he (this ?_)
        have ra : rfV s.1 R R.length i = (match mkA R i with | some r => (if (obO s.1 r.2.2).isNone = true then r.2.1 else i) | none => i) := by
          unfold rfV; rw [List.take_of_length_le (Nat.le_refl _)]
        have byt : cpN g s.1 R L lv t (k + 1) i = [g i] ++ cpN g s.1 R L lv t k (i + 1) → rfV s.1 R R.length i = i → RV 133 130 [vR (some 312), vJ, vI t, vI (b2i lv), vI i, vI i, vI (rfV s.1 R R.length i), vJ] [] e I D Q := by
          intro hc hr
          rw [hc] at hQ
          rw [hr]
          refine S133_130 he ⟨fun _ => ⟨fun _ => m88 he hMI h0 (by omega) (m130 he hW fun I1 f1 M1 => ⟨⟨by omega, by omega⟩, S133_178 he (ih (i + 1) I1 _ (by omega) (by omega) (f.trans f1) M1 fun I2 f2 M2 => hQ I2 f2 (by rw [← List.append_assoc]; exact M2))⟩), fun q => absurd (Int.le_refl _) q⟩, fun q => absurd (Int.le_refl _) q⟩
        cases hm : mkA R i with
        | none =>
          rw [hm] at e1 ra
          exact byt e1 ra
        | some r =>
          rw [hm] at e1 ra
          dsimp only at e1 ra
          have mm := mkA_mem hm
          have r2 := oR2 r mm.1
          cases hn : (obO s.1 r.2.2).isNone with
          | false =>
            rw [hn, if_neg (by decide)] at e1 ra
            exact byt e1 ra
          | true =>
            rw [hn, if_pos rfl] at e1 ra
            rw [e1] at hQ
            rw [ra]
            refine S133_130 he ⟨fun _ => ⟨fun q => by omega, fun _ => m131 he (zstr 4) (by decide) (by decide) (by decide) hW fun I1 f1 M1 => S133_178 he (ih r.2.1 I1 _ (by omega) (by omega) (f.trans f1) M1 fun I2 f2 M2 => hQ I2 f2 (by rw [← List.append_assoc]; exact M2))⟩, fun q => absurd (Int.le_refl _) q⟩
      refine S133_3 he ⟨fun q => absurd q hti, fun _ => ?_⟩
      cases hv : lv with
      | false =>
        rw [hv] at plain
        refine S133_16 he ⟨fun _ => plain rfl, fun _ => ⟨fun _ => plain rfl, fun q => absurd rfl q⟩⟩
      | true =>
        have s0 : skV L 0 i = i := rfl
        have := m133_16 he hLI oL h7' (t := t) (i := i) (D := D) (Q := Q) _ 0 (Nat.zero_le _) rfl
        rw [s0] at this
        refine this ?_
        have sa : skV L L.length i = (match mkA L i with | some r => r.2.1 | none => i) := by unfold skV; rw [List.take_of_length_le (Nat.le_refl _)]
        cases hm : mkA L i with
        | none =>
          rw [hm] at sa
          rw [sa]
          rw [hv] at plain
          exact plain (by rw [if_pos rfl]; exact hm)
        | some r =>
          rw [hm] at sa
          have sa : skV L L.length i = r.2.1 := sa
          have mm := mkA_mem hm
          have r2 := oL2 r mm.1
          rw [if_pos hv, hm] at e1
          dsimp only at e1
          rw [e1] at hQ
          rw [sa]
          have i2 := ih r.2.1 I l (by omega) (by omega) f hW hQ
          rw [hv] at i2
          have ne : ¬ r.2.1 = i := by omega
          refine S133_61 he (S133_68 he ⟨fun _ => S133_130 he ⟨fun q => by omega, fun _ => S133_178 he i2⟩, fun _ => ⟨fun _ => S133_130 he ⟨fun q => by omega, fun _ => S133_178 he i2⟩, fun q => absurd ne q⟩⟩)
end
