/-! addPage, walk -/
def PgL (d : Nat) (I : HI) (pg : List Int) : Prop := I 331 d = pg.length ∧ ∀ (i : Nat) (x : Int), pg[i]? = some x → I 332 (61 * d + i) = x
def StM (I : HI) : List Int → Prop
  | [] => True
  | x :: t => I 339 t.length = x ∧ StM I t
theorem StM.fr {I I' : HI} {l : List Int} (h : StM I l) (hf : ∀ j, j < l.length → I' 339 j = I 339 j) : StM I' l := by
  induction l with
  | nil => trivial
  | cons x t ih => exact ⟨by rw [hf t.length (by rw [List.length_cons]; omega)]; exact h.1, ih h.2 fun j hj => hf j (by rw [List.length_cons]; omega)⟩
def paS (d a k : Nat) : Prop := (a = 331 ∧ k = d) ∨ (a = 332 ∧ 61 * d ≤ k ∧ k < 61 * d + 61)
section
variable {e : En} {g : Int → Int} {n : Int} {d : Nat} {D : HD}
theorem pama (a k : Nat) (h : paS d a k) : maS d a k := by unfold paS at h; unfold maS; omega
theorem PgL.fr {S : Nat → Nat → Prop} {I I' : HI} {pg : List Int} (h : PgL d I pg) (hf : Fr S I I') (h1 : ¬ S 331 d) (h2 : ∀ k, ¬ S 332 k) : PgL d I' pg :=
  ⟨by rw [hf _ _ h1]; exact h.1, fun i x hx => by rw [hf _ _ (h2 _)]; exact h.2 i x hx⟩
theorem m115 (he : HS e) {I : HI} (m4 : I 312 4 = (d : Int)) (hd : d < 2) {pg : List Int} (hP : PgL d I pg) (hl : pg.length < 61) {x : Int} {Q : HI → HD → Prop} (hQ : ∀ I', Fr (paS d) I I' → PgL d I' (pg ++ [x]) → Q I' D) : CV 115 [vR (some 312), vI x] e I D Q := by
  refine S115 he ?_
  rw [m4, Int.toNat_natCast, hP.1]
  have ix : ((61 : Int) * (d : Int) + (pg.length : Int)).toNat = 61 * d + pg.length := by omega
  rw [ix]
  have fr : Fr (paS d) I (uI (uI I 332 (61 * d + pg.length) x) 331 d ((pg.length : Int) + 1)) := (Fr.u (S := paS d) (Or.inr ⟨rfl, by omega, by omega⟩)).trans (Fr.u (S := paS d) (Or.inl ⟨rfl, rfl⟩))
  refine ⟨⟨by omega, by omega⟩, ⟨by omega, by omega⟩, ⟨by omega, by omega⟩, ⟨by omega, by omega⟩, ⟨by omega, by omega⟩, ⟨by omega, by omega⟩, ⟨by omega, by omega⟩, hQ _ fr ⟨?_, fun j y hy => ?_⟩⟩
  · rw [uI_eq, List.length_append, List.length_singleton]; omega
  · rw [uI_ne (by omega)]
    rcases Nat.lt_or_ge j pg.length with q | q
    · rw [List.getElem?_append_left q] at hy
      rw [uI_ne (by omega)]; exact hP.2 j y hy
    · have : j = pg.length := by
        rcases Nat.eq_or_lt_of_le q with w | w
        · exact w.symm
        · rw [List.getElem?_eq_none (by rw [List.length_append, List.length_singleton]; omega)] at hy; cases hy
      subst this
      rw [List.getElem?_append_right (Nat.le_refl _), Nat.sub_self] at hy
      cases hy
      exact uI_eq
/-- what the walk leaves: the stack, what is seen -/
def wkS (d a k : Nat) : Prop := diS a k ∨ paS d a k ∨ a = 338 ∨ a = 339
theorem wkma (a k : Nat) (h : wkS d a k) : maS d a k := by
  rcases h with h | h | h | h
  · exact Or.inl (dimg a k h)
  · exact pama a k h
  · unfold maS; omega
  · unfold maS; omega
theorem MM.wk {I I' : HI} {s : SC} (h : MM d I s) (hf : Fr (wkS d) I I') : MM d I' s := h.fr hf (fun a k q => by unfold wkS diS paS at q; omega)
/-- the kids are put on the stack, the first one on top -/
theorem m116_112 (he : HS e) {ks : List Int} {r0 : Nat} {st : List Int} (hl : st.length + ks.length ≤ 1400) {Q : HI → HD → Prop} (m : Nat) : ∀ (j : Nat) (I : HI), j ≤ ks.length → j = m → I 312 45 = 1 → I 312 50 = (r0 : Int) → r0 + ks.length ≤ 700 → (∀ (i : Nat) (x : Int), ks[i]? = some x → I 335 (r0 + i) = x) → StM I (ks.drop j ++ st) →
    (∀ I', Fr (fun a _ => a = 339) I I' → StM I' (ks ++ st) → RV 116 151 [vR (some 312), vJ, vI ((ks ++ st).length : Int), vJ, vJ, vJ] [] e I' D Q) →
    RV 116 112 [vR (some 312), vJ, vI (((ks.drop j ++ st).length : Nat) : Int), vJ, vJ, vI ((j : Int) - 1)] [] e I D Q := by
  induction m with
  | zero =>
    intro j I hj hm h45 h50 h7 hR hS hQ
    subst hm
    refine S116_112 he ?_
    rw [h45]
    refine ⟨fun q => by omega, fun _ => ⟨fun _ => ?_, fun q => by omega⟩⟩
    rw [List.drop_zero] at *
    exact hQ I Fr.refl hS
  | succ m ih =>
    intro j I hj hm h45 h50 h7 hR hS hQ
    subst hm
    have hml : m < ks.length := by omega
    have hk : ks.drop m = ks[m] :: ks.drop (m + 1) := List.drop_eq_getElem_cons hml
    have ll : (ks.drop (m + 1) ++ st).length = ks.length - (m + 1) + st.length := by rw [List.length_append, List.length_drop]
    refine S116_112 he ?_
    rw [h45, h50]
    have e1 : ((r0 : Int) + (((m + 1 : Nat) : Int) - 1)).toNat = r0 + m := by omega
    rw [e1, hR m _ (List.getElem?_eq_getElem hml), Int.toNat_natCast]
    refine ⟨fun q => by omega, fun _ => ⟨fun q => by omega, fun _ => ⟨⟨by omega, by omega⟩, ⟨by omega, by omega⟩, ⟨by omega, by omega⟩, ⟨by omega, by omega⟩, ⟨by omega, by omega⟩, ?_⟩⟩⟩
    have fu : Fr (fun a _ => a = 339) I (uI I 339 (ks.drop (m + 1) ++ st).length ks[m]) := Fr.u rfl
    have := ih m (uI I 339 (ks.drop (m + 1) ++ st).length ks[m]) (by omega) rfl (by rw [uI_ne (by omega)]; exact h45) (by rw [uI_ne (by omega)]; exact h50) h7 (fun i x hx => by rw [uI_ne (by omega)]; exact hR i x hx) (by
      rw [hk]
      exact ⟨uI_eq, hS.fr fun j hj => uI_ne (by omega)⟩) fun I' f' => hQ I' (fu.trans f')
    have e2 : (((ks.drop (m + 1) ++ st).length : Nat) : Int) + 1 = (((ks.drop m ++ st).length : Nat) : Int) := by rw [hk]; simp only [List.cons_append, List.length_cons]; omega
    have e3 : ((m + 1 : Nat) : Int) - 1 + -1 = (m : Int) - 1 := by omega
    rw [e2, e3]; exact this
theorem kid_ky {f : FR} {i : Nat} (ho : OK1 g n i f) : match kyF g n (zstr 19) (dPr g n f) with
    | none => kidL g n f = []
    | some pr => pr.2.2.2.1 ≤ pr.2.2.2.2 ∧ pr.2.2.2.2 ≤ (dRs g n f).length ∧ kidL g n f = (((dRs g n f).drop pr.2.2.2.1).take (pr.2.2.2.2 - pr.2.2.2.1)).map fun r => r.2.2 := by
  have k8 := ky_8 (g := g) (n := n) (dPr g n f)
  have k9 := ky_9 (g := g) (n := n) (dPr g n f)
  cases hk : kyF g n (zstr 19) (dPr g n f) with
  | none =>
    rw [hk] at k8 k9
    show kidL g n f = []
    have k8 : dfF g n 0 (dPr g n f) 8 = 0 := k8
    have k9 : dfF g n 0 (dPr g n f) 9 = 0 := k9
    unfold kidL
    rw [k8, k9]; simp
  | some pr =>
    rw [hk] at k8 k9
    have k8 : dfF g n 0 (dPr g n f) 8 = (pr.2.2.2.1 : Int) := k8
    have k9 : dfF g n 0 (dPr g n f) 9 = (pr.2.2.2.2 : Int) := k9
    have ix := dR_ix (g := g) (n := n) pr (ky_mem hk)
    refine ⟨ix.1, ix.2, ?_⟩
    unfold kidL
    rw [k8, k9, Int.toNat_natCast, Int.toNat_natCast]
theorem m116_30 (he : HS e) {s : SC} (hok : OKS g n s.1) {Q : HI → HD → Prop} (k : Nat) : ∀ (st : List Int) (sn : Nat → Bool) (pg : List Int) (I : HI), MoB g n (d : Int) I → MM d I s → StM I st → (∀ i, i < 61 → I 338 i = b2i (sn i)) → PgL d I pg → pg.length + usN sn ≤ 61 → st.length + usK g n s.1 sn ≤ k → st.length + usK g n s.1 sn ≤ 1400 →
    (∀ I', Fr (wkS d) I I' → PgL d I' (wkN g n s.1 k st sn pg) → Q I' D) → RV 116 30 [vR (some 312), vJ, vI (st.length : Int), vJ, vJ, vJ] [] e I D Q := by
  induction k with
  | zero =>
    intro st sn pg I hM hS hT hN hP hp hk hk2 hQ
    have : st = [] := List.length_eq_zero_iff.mp (by omega)
    subst this
    exact S116_30 he ⟨fun _ => hQ I Fr.refl hP, fun q => absurd (Int.le_refl 0) q⟩
  | succ k ih =>
    intro st sn pg I hM hS hT hN hP hp hk hk2 hQ
    obtain ⟨m4, hd, m14, h0n, h3n⟩ := hM.sd
    cases st with
    | nil => exact S116_30 he ⟨fun _ => hQ I Fr.refl hP, fun q => absurd (Int.le_refl 0) q⟩
    | cons x st =>
      rw [List.length_cons] at hk hk2
      have e1 : (((x :: st).length : Nat) : Int) + -1 = (st.length : Int) := by rw [List.length_cons]; omega
      refine S116_30 he ?_
      rw [e1, Int.toNat_natCast, hT.1]
      have lx : (((x :: st).length : Nat) : Int) = (st.length : Int) + 1 := by rw [List.length_cons]; omega
      rw [lx]
      refine ⟨fun q => by omega, fun _ => ⟨⟨by omega, by omega⟩, ⟨by omega, by omega⟩, m103 he m4 hd hS ?_⟩⟩
      cases ho : obO s.1 x with
      | none =>
        have ew : wkN g n s.1 (k + 1) (x :: st) sn pg = wkN g n s.1 k st sn pg := by conv => lhs; unfold wkN; rw [ho]
        rw [ew] at hQ
        exact ⟨fun _ => S116_151 he (ih st sn pg I hM hS hT.2 hN hP hp (by omega) (by omega) hQ), fun q => absurd rfl q⟩
      | some f =>
        have hx : (1 ≤ x ∧ x < 61) ∧ s.1 x.toNat = some f := by
          unfold obO at ho
          split at ho
          · exact ⟨by assumption, ho⟩
          · cases ho
        refine ⟨fun q => absurd q (by show ¬ (1 : Int) = 0; decide), fun _ => ⟨⟨by omega, by omega⟩, ?_⟩⟩
        rw [hN x.toNat (by omega)]
        have wk : wkN g n s.1 (k + 1) (x :: st) sn pg = (if sn x.toNat = true then wkN g n s.1 k st sn pg else if kdF g n f = 3 then wkN g n s.1 k st (fun i => if i = x.toNat then true else sn i) (pg ++ [x])
          else if kdF g n f = 2 then wkN g n s.1 k (kidL g n f ++ st) (fun i => if i = x.toNat then true else sn i) pg
          else wkN g n s.1 k st (fun i => if i = x.toNat then true else sn i) pg) := by
          conv => lhs; unfold wkN; rw [ho]
        refine ⟨fun q => ?_, fun q => ⟨⟨by omega, by omega⟩, ?_⟩⟩
        · have sx := b2i_n q
          rw [if_pos sx] at wk
          rw [wk] at hQ
          exact S116_151 he (ih st sn pg I hM hS hT.2 hN hP hp (by omega) (by omega) hQ)
        · have sx := b2i_0.mp (Decidable.not_not.mp q)
          rw [if_neg (by rw [sx]; decide)] at wk
          have su := sum_up (sn := sn) (w := fun i => kdN g n (s.1 i)) (i := x.toNat) (by omega) sx
          have suK : usK g n s.1 (fun i => if i = x.toNat then true else sn i) + (kidL g n f).length = usK g n s.1 sn := by
            have e1 : kdN g n (s.1 x.toNat) = (kidL g n f).length := by rw [hx.2]; rfl
            rw [← e1]; exact su
          have suN : usN (fun i => if i = x.toNat then true else sn i) + 1 = usN sn := sum_up (sn := sn) (w := fun _ => 1) (i := x.toNat) (by omega) sx
          have fu : Fr (fun a _ => a = 338) I (uI I 338 x.toNat 1) := Fr.u rfl
          have FU : Fr (wkS d) I (uI I 338 x.toNat 1) := fu.mono fun a k q => Or.inr (Or.inr (Or.inl q))
          have hM1 : MoB g n (d : Int) (uI I 338 x.toNat 1) := hM.ma (FU.mono wkma)
          have S1 := hS.wk FU
          have hN1 : ∀ i, i < 61 → uI I 338 x.toNat 1 338 i = b2i (if i = x.toNat then true else sn i) := by
            intro i hi
            by_cases c : i = x.toNat
            · rw [if_pos c, c, uI_eq]; rfl
            · rw [if_neg c, uI_ne (by omega)]; exact hN i hi
          have T1 : StM (uI I 338 x.toNat 1) st := hT.2.fr fun j hj => uI_ne (by omega)
          have P1 : PgL d (uI I 338 x.toNat 1) pg := hP.fr fu (by omega) (fun k => by omega)
          generalize uI I 338 x.toNat 1 = J at fu FU hM1 S1 hN1 T1 P1
          refine m105b he hM1 S1 hok fun I2 f2 b51 => ?_
          rw [ho] at b51 ⊢
          have F2 : Fr (wkS d) I I2 := FU.trans (f2.mono fun a k q => Or.inl q)
          have hM2 := hM1.di f2
          have S2 := S1.di f2
          have hN2 : ∀ i, i < 61 → I2 338 i = b2i (if i = x.toNat then true else sn i) := fun i hi => by rw [f2 _ _ (fun q => by unfold diS at q; omega)]; exact hN1 i hi
          have T2 := T1.fr (I' := I2) (fun j hj => f2 _ _ (fun q => by unfold diS at q; omega))
          have P2 := P1.fr f2 (fun q => by unfold diS at q; omega) (fun k q => by unfold diS at q; omega)
          have ek : kdO g n (some f) = kdF g n f := rfl
          rw [ek]
          refine ⟨fun w3 => ⟨fun w2 => ?_, fun w2 => ?_⟩, fun w3 => ?_⟩
          · rw [if_neg w3, if_neg w2] at wk
            rw [wk] at hQ
            exact S116_151 he (ih st _ pg I2 hM2 S2 T2 hN2 P2 (by omega) (by omega) (by omega) fun I' f' => hQ I' (F2.trans f'))
          · rw [if_neg w3, if_pos (Decidable.not_not.mp w2)] at wk
            rw [wk] at hQ
            have ex : x = (x.toNat : Int) := by omega
            have okx := hok x.toNat f hx.2
            have pk := dPr_ok okx
            rw [ex]
            refine m104 he hM2 S2 hx.2 okx wok_kid (by decide) fun I3 f3 M3 _ _ => ?_
            have F3 : Fr (wkS d) I I3 := F2.trans (f3.mono fun a k q => Or.inl q)
            have hM3 := hM2.di f3
            have S3 := S2.di f3
            have hN3 : ∀ i, i < 61 → I3 338 i = b2i (if i = x.toNat then true else sn i) := fun i hi => by rw [f3 _ _ (fun q => by unfold diS at q; omega)]; exact hN2 i hi
            have T3 := T2.fr (I' := I3) (fun j hj => f3 _ _ (fun q => by unfold diS at q; omega))
            have P3 := P2.fr f3 (fun q => by unfold diS at q; omega) (fun k q => by unfold diS at q; omega)
            obtain ⟨hR, -, hK⟩ := M3
            have kk := kid_ky okx
            cases hk4 : kyF g n (zstr 19) (dPr g n f) with
            | none =>
              rw [hk4] at hK kk
              have hK : I3 312 45 = 0 ∧ I3 312 51 = I2 312 51 := hK
              have kk : kidL g n f = [] := kk
              have b := b51 (by rw [ek]; omega)
              rw [hK.2]
              refine ⟨⟨by omega, by omega⟩, S116_112 he ⟨fun _ => S116_151 he ?_, fun q => absurd hK.1 q⟩⟩
              rw [kk, List.nil_append] at hQ
              exact ih st _ pg I3 hM3 S3 T3 hN3 P3 (by omega) (by omega) (by omega) fun I' f' => hQ I' (F3.trans f')
            | some pr =>
              rw [hk4] at hK kk
              obtain ⟨a1, a2, a3, a4, a5, a6, a7⟩ := hK
              obtain ⟨q1, q2, q3⟩ := kk
              have kl : (kidL g n f).length = pr.2.2.2.2 - pr.2.2.2.1 := by rw [q3, List.length_map, List.length_take, List.length_drop]; omega
              have r5 := pk.2
              rw [a7]
              refine ⟨⟨by omega, by omega⟩, ?_⟩
              have fin := m116_112 he (D := D) (ks := kidL g n f) (r0 := pr.2.2.2.1) (st := st) (by omega) (Q := Q) (kidL g n f).length (kidL g n f).length I3 (Nat.le_refl _) rfl a1 a6 (by omega) (fun i y hy => ?_) (by rw [List.drop_of_length_le (Nat.le_refl _)]; exact T3) fun I4 f4 T4 => S116_151 he (ih _ _ pg I4 (hM3.ma (f4.mono fun a k q => by unfold maS; omega)) (S3.fr f4 (fun a k q => by omega)) T4 (fun i hi => by rw [f4 _ _ (by omega)]; exact hN3 i hi) (P3.fr f4 (by omega) (fun k => by omega)) (by omega) (by rw [List.length_append]; omega) (by rw [List.length_append]; omega) fun I' f' => hQ I' (F3.trans ((f4.mono fun a k q => Or.inr (Or.inr (Or.inr q))).trans f')))
              · rw [List.drop_of_length_le (Nat.le_refl _), List.nil_append] at fin
                have e2 : ((pr.2.2.2.2 : Int) - (pr.2.2.2.1 : Int)) - 1 = ((kidL g n f).length : Int) - 1 := by omega
                rw [e2]; exact fin
              · rw [q3, List.getElem?_map, List.getElem?_take, List.getElem?_drop] at hy
                split at hy
                · cases hr : (dRs g n f)[pr.2.2.2.1 + i]? with
                  | none => rw [hr] at hy; cases hy
                  | some r =>
                    rw [hr] at hy
                    cases hy
                    exact (hR.2 _ _ hr).2.2
                · cases hy
          · rw [if_pos (Decidable.not_not.mp w3)] at wk
            rw [wk] at hQ
            refine m115 he hM2.1 hd P2 (by omega) fun I3 f3 P3 => S116_151 he (ih st _ (pg ++ [x]) I3 (hM2.ma (f3.mono pama)) (S2.fr f3 (fun a k q => by unfold paS at q; omega)) (T2.fr fun j hj => f3 _ _ (fun q => by unfold paS at q; omega)) (fun i hi => by rw [f3 _ _ (fun q => by unfold paS at q; omega)]; exact hN2 i hi) P3 (by rw [List.length_append, List.length_singleton]; omega) (by omega) (by omega) fun I' f' => hQ I' (F2.trans ((f3.mono fun a k q => Or.inr (Or.inl q)).trans f')))
end
