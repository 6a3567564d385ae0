/-! PageList.visit, follow, takeAll; Scan.choosePages -/
section
variable {g : Int → Int} {n lim : Int}
theorem row_app {op cl : Int} (k : Nat) : ∀ (p d : Int) (rs : RfL), ∃ t, (rowN g n lim op cl k p d rs).2 = rs ++ t := by
  induction k with
  | zero => intro p d rs; exact ⟨[], by unfold rowN; simp⟩
  | succ k ih =>
    intro p d rs
    unfold rowN
    split
    · exact ⟨[], by simp⟩
    · split
      · obtain ⟨t, ht⟩ := ih (skp g n (e3F g n p)) d (rs ++ [(p, e3F g n p, mF g n p)])
        exact ⟨[(p, e3F g n p, mF g n p)] ++ t, by rw [ht, List.append_assoc]⟩
      · split
        · split
          · exact ⟨[], by simp⟩
          · exact ih _ _ _
        · split
          · exact ih _ _ _
          · exact ih _ _ _
theorem val_app {q : Int} {rs : RfL} : ∃ t, (valF g n lim q rs).2 = rs ++ t := by
  unfold valF
  split
  · exact row_app _ _ _ _
  · split
    · exact row_app _ _ _ _
    · split
      · exact ⟨_, rfl⟩
      · exact ⟨[], by simp⟩
def ixP (rs : RfL) (pr : Int × Int × Int × Nat × Nat) : Prop := pr.2.2.2.1 ≤ pr.2.2.2.2 ∧ pr.2.2.2.2 ≤ rs.length
theorem dic_ix (k : Nat) : ∀ (p : Int) (ps : PrL) (rs : RfL), (∀ pr ∈ ps, ixP rs pr) → ∀ pr ∈ (dicN g n lim k p ps rs).2.2.1, ixP (dicN g n lim k p ps rs).2.2.2 pr := by
  induction k with
  | zero => intro p ps rs h; exact h
  | succ k ih =>
    intro p ps rs h
    unfold dicN
    split
    · exact h
    · split
      · exact h
      · split
        · obtain ⟨t, ht⟩ := val_app (g := g) (n := n) (lim := lim) (q := nxF g n p) (rs := rs)
          refine ih _ _ _ fun pr hpr => ?_
          rcases List.mem_append.mp hpr with hpr | hpr
          · have := h pr hpr
            exact ⟨this.1, by rw [ht, List.length_append]; have := this.2; omega⟩
          · rw [List.mem_singleton] at hpr
            subst hpr
            exact ⟨by show rs.length ≤ (valF g n lim (nxF g n p) rs).2.length; rw [ht, List.length_append]; omega, Nat.le_refl _⟩
        · exact ih _ _ _ h
def rlK (b0 : Nat) (all : PrL) (S S' : Nat → Int) : Prop := (S 8 = 0 ∧ S 9 = 0 ∧ S' 8 = 0 ∧ S' 9 = 0) ∨ ∃ pr, pr ∈ all ∧ S 8 = ((b0 + pr.2.2.2.1 : Nat) : Int) ∧ S 9 = ((b0 + pr.2.2.2.2 : Nat) : Int) ∧ S' 8 = (pr.2.2.2.1 : Int) ∧ S' 9 = (pr.2.2.2.2 : Int)
theorem df_kids (b0 : Nat) (all : PrL) : rlK b0 all (dfF g n b0 all) (dfF g n 0 all) := by
  have gen : ∀ (ps : PrL) (S S' : Nat → Int), (∀ pr ∈ ps, pr ∈ all) → rlK b0 all S S' → rlK b0 all (ps.foldl (fun S pr => kpF g n b0 pr S) S) (ps.foldl (fun S pr => kpF g n 0 pr S) S') := by
    intro ps
    induction ps with
    | nil => intro S S' _ h; exact h
    | cons pr ps ih =>
      intro S S' hm h
      refine ih _ _ (fun pr' h' => hm pr' (List.mem_cons_of_mem _ h')) ?_
      by_cases c : tx g n pr.1 19 = true
      · exact Or.inr ⟨pr, hm pr (List.mem_cons_self ..), by simp [kpF, c], by simp [kpF, c], by simp [kpF, c], by simp [kpF, c]⟩
      · have e : ∀ (b : Nat) (T : Nat → Int), kpF g n b pr T 8 = T 8 ∧ kpF g n b pr T 9 = T 9 := fun b T => ⟨by simp [kpF, c], by simp [kpF, c]⟩
        show rlK b0 all (kpF g n b0 pr S) (kpF g n 0 pr S')
        unfold rlK
        rw [(e b0 S).1, (e b0 S).2, (e 0 S').1, (e 0 S').2]
        exact h
  exact gen all df0 df0 (fun _ h => h) (Or.inl ⟨rfl, rfl, rfl, rfl⟩)
theorem dR_ix {p0 : Int} : ∀ pr ∈ (dR g n p0).2.2.1, ixP (dR g n p0).2.2.2 pr := by
  unfold dR
  split
  · exact dic_ix _ _ _ _ (fun pr h => by cases h)
  · exact fun pr h => by cases h
/-- the row of kids, as the class and as the model keep it -/
theorem kids_ok {f : FR} {rs : RfL} {r0 : Nat} (h1 : r0 + (dRs g n f).length ≤ rs.length) (h2 : ∀ (j : Nat) (r : Int × Int × Int), (dRs g n f)[j]? = some r → rs[r0 + j]? = some r) :
    ∃ a b : Nat, dfF g n r0 (dPr g n f) 8 = (a : Int) ∧ dfF g n r0 (dPr g n f) 9 = (b : Int) ∧ a ≤ b ∧ b ≤ rs.length ∧ ((rs.drop a).take (b - a)).map (fun r => r.2.2) = kidL g n f := by
  rcases df_kids (g := g) (n := n) r0 (dPr g n f) with h | ⟨pr, hm, q1, q2, q3, q4⟩
  · refine ⟨0, 0, h.1, h.2.1, Nat.le_refl _, Nat.zero_le _, ?_⟩
    unfold kidL
    rw [h.2.2.1, h.2.2.2]; simp
  · have ix := dR_ix (g := g) (n := n) pr hm
    have ix1 : pr.2.2.2.1 ≤ pr.2.2.2.2 := ix.1
    have ix2 : pr.2.2.2.2 ≤ (dRs g n f).length := ix.2
    refine ⟨r0 + pr.2.2.2.1, r0 + pr.2.2.2.2, q1, q2, by omega, by omega, ?_⟩
    unfold kidL
    rw [q3, q4, Int.toNat_natCast, Int.toNat_natCast]
    congr 1
    apply List.ext_getElem?
    intro i
    rw [List.getElem?_take, List.getElem?_take, List.getElem?_drop, List.getElem?_drop]
    have e1 : r0 + pr.2.2.2.2 - (r0 + pr.2.2.2.1) = pr.2.2.2.2 - pr.2.2.2.1 := by omega
    rw [e1]
    split
    · rename_i c
      have hl : pr.2.2.2.1 + i < (dRs g n f).length := by omega
      have := h2 (pr.2.2.2.1 + i) _ (List.getElem?_eq_getElem hl)
      rw [Nat.add_assoc, this, List.getElem?_eq_getElem hl]
    · rfl
end
def pgW (g : Int → Int) (n : Int) (fo : Nat → Option FR) (x : Int) : List Int := if kdO g n (obO fo x) = 2 then wkN g n fo 2000 [x] (fun _ => false) [] else []
def pgN (g : Int → Int) (n : Int) (fo : Nat → Option FR) : Nat → List Int
  | 0 => []
  | k + 1 => pgN g n fo k ++ (if kdO g n (fo (k + 1)) = 3 then [((k + 1 : Nat) : Int)] else [])
def pg1 (g : Int → Int) (n : Int) (s : SC) : List Int := match obO s.1 (caF g n s) with | some f => pgW g n s.1 (pgR g n f) | none => []
def pgF (g : Int → Int) (n : Int) (s : SC) : List Int := if (pgN g n s.1 60).length = (pg1 g n s).length then pg1 g n s else pgN g n s.1 60
def pgD (g : Int → Int) (n : Int) (s : SC) : RfL := if (pgN g n s.1 60).length = (pg1 g n s).length then [] else [(0, 0, 8)]
section
variable {e : En} {g : Int → Int} {n : Int} {A : Nat} {D : HD}
theorem usN_0 : usN (fun _ => false) = 61 := by decide
theorem c20 (he : HS e) (hA : isA A) {I : HI} {s : SC} {rs ls : RfL} (hC : CS g n A I D s rs ls) {L : List (Nat × Nat)} {sn : Nat → Bool} {pg : List Int} (hW : WkM A I rs L sn pg) (hd : L.length + usN sn ≤ 61) (hp : pg.length + usN sn ≤ 61) {x : Int} {Q : HI → HD → Prop}
    (hQ : ∀ I' L' sn' pg', Fr (pgS A) I I' → WkM A I' rs L' sn' pg' → (∀ k, wkN g n s.1 (k + 1) (x :: lvS rs L) sn pg = wkN g n s.1 k (lvS rs L') sn' pg') → (lvS rs L').length + usK g n s.1 sn' ≤ (lvS rs L).length + usK g n s.1 sn → L'.length + usN sn' ≤ L.length + usN sn → pg'.length + usN sn' ≤ pg.length + usN sn → Q I' D) :
    CV 20 [vR (some (A + 146)), vR (some A), vI x] e I D Q := by
  obtain ⟨hG, hS, h5, hL⟩ := hW
  refine S20 he hA (c35' he hA hC (fun q => ⟨fun _ => hQ I L sn pg Fr.refl ⟨hG, hS, h5, hL⟩ (fun k => by conv => lhs; unfold wkN; rw [q]) (Nat.le_refl _) (Nat.le_refl _) (Nat.le_refl _), fun u w => by cases w⟩) fun f hf hx hk3 hcf => ⟨fun w => (by cases w), fun u w => ?_⟩)
  cases w
  have pF := hC.2.2.1.1 x.toNat (by omega)
  refine ⟨hk3, fun q => by omega, fun _ => ⟨fun q => by omega, fun _ => ⟨⟨by omega, by omega⟩, ?_⟩⟩⟩
  rw [hS x.toNat (by omega)]
  refine ⟨fun q => ?_, fun q => ?_⟩
  · have sx := b2i_0.mp q
    have su := sum_up (sn := sn) (w := fun i => kdN g n (s.1 i)) (i := x.toNat) (by omega) sx
    have suK : usK g n s.1 (fun i => if i = x.toNat then true else sn i) + (kidL g n f).length = usK g n s.1 sn := by
      have e1 : kdN g n (s.1 x.toNat) = (kidL g n f).length := by rw [hx.2]; rfl
      rw [← e1]; exact su
    have suN : usN (fun i => if i = x.toNat then true else sn i) + 1 = usN sn := sum_up (sn := sn) (w := fun _ => 1) (i := x.toNat) (by omega) sx
    have fS : Fr (fun a k => a = A + 148 ∧ k = x.toNat) I (uI I (A + 148) x.toNat 1) := Fr.u ⟨rfl, rfl⟩
    have hS' : ∀ i, i < 61 → uI I (A + 148) x.toNat 1 (A + 148) i = b2i (if i = x.toNat then true else sn i) := by
      intro i hi
      by_cases c : i = x.toNat
      · rw [if_pos c, c, uI_eq]; rfl
      · rw [if_neg c, uI_ne (by omega)]; exact hS i hi
    obtain ⟨-, r0, l0, a0, a1, a2, a3, a4, a5, a6, a7, a8, a9⟩ := id hcf
    have kd3 : uI I (A + 148) x.toNat 1 (D (A + 21) x.toNat + 1) 3 = kdF g n f := by rw [uI_ne (by omega)]; exact hcf.kd.1
    have v8 : uI I (A + 148) x.toNat 1 (D (A + 21) x.toNat + 1) 8 = dfF g n r0 (dPr g n f) 8 := by rw [uI_ne (by omega)]; exact a3 8 (by omega) (by omega)
    have v9 : uI I (A + 148) x.toNat 1 (D (A + 21) x.toNat + 1) 9 = dfF g n r0 (dPr g n f) 9 := by rw [uI_ne (by omega)]; exact a3 9 (by omega) (by omega)
    have v5 : uI I (A + 148) x.toNat 1 (A + 146) 5 = L.length := by rw [uI_ne (by omega)]; exact h5
    have hG' : PgM A (uI I (A + 148) x.toNat 1) pg := ⟨by rw [uI_ne (by omega)]; exact hG.1, fun i y hy => by rw [uI_ne (by omega)]; exact hG.2 i y hy⟩
    have hL' : LvM A (uI I (A + 148) x.toNat 1) rs L := hL.fr fun j hj => ⟨uI_ne (by omega), uI_ne (by omega)⟩
    have fP : Fr (pgS A) I (uI I (A + 148) x.toNat 1) := fS.mono fun a k q => by unfold pgS; omega
    have wk : ∀ k, wkN g n s.1 (k + 1) (x :: lvS rs L) sn pg = (if kdF g n f = 3 then wkN g n s.1 k (lvS rs L) (fun i => if i = x.toNat then true else sn i) (pg ++ [x])
      else if kdF g n f = 2 then wkN g n s.1 k (kidL g n f ++ lvS rs L) (fun i => if i = x.toNat then true else sn i) pg
      else wkN g n s.1 k (lvS rs L) (fun i => if i = x.toNat then true else sn i) pg) := by
      intro k
      conv => lhs; unfold wkN
      rw [hf]
      dsimp only
      rw [if_neg (by rw [sx]; decide)]
    rw [kd3, v8, v5]
    generalize uI I (A + 148) x.toNat 1 = J at fS hS' kd3 v8 v9 v5 hG' hL' fP
    refine ⟨⟨by omega, by omega⟩, fun w3 => ⟨fun w2 => ?_, fun w2 => ⟨fun y => by omega, fun _ => ⟨fun y => by omega, fun _ => ⟨⟨by omega, by omega⟩, ?_⟩⟩⟩⟩, fun w3 => ?_⟩
    · exact hQ J L (fun i => if i = x.toNat then true else sn i) pg fP ⟨hG', hS', v5, hL'⟩ (fun k => by rw [wk, if_neg w3, if_neg w2]) (by omega) (by omega) (by omega)
    · obtain ⟨a, b, e8, e9, hab, hb, hk⟩ := kids_ok (g := g) (n := n) (f := f) a8.1 a8.2
      have x5 : uI J (A + 149) ((L.length : Int)).toNat (dfF g n r0 (dPr g n f) 8) (A + 146) 5 = L.length := by rw [uI_ne (by omega)]; exact v5
      have x9 : uI J (A + 149) ((L.length : Int)).toNat (dfF g n r0 (dPr g n f) 8) (D (A + 21) x.toNat + 1) 9 = dfF g n r0 (dPr g n f) 9 := by rw [uI_ne (by omega)]; exact v9
      rw [x5, x9, e8, e9, Int.toNat_natCast]
      have x5' : uI (uI J (A + 149) L.length (a : Int)) (A + 150) L.length (b : Int) (A + 146) 5 = L.length := by rw [uI_ne (by omega), uI_ne (by omega)]; exact v5
      rw [x5']
      refine ⟨⟨by omega, by omega⟩, ⟨by omega, by omega⟩, hQ _ ((a, b) :: L) (fun i => if i = x.toNat then true else sn i) pg ?_ ⟨⟨?_, fun i y hy => ?_⟩, fun i hi => ?_, ?_, ?_, ?_, hab, hb, ?_⟩ (fun k => ?_) ?_ ?_ (by omega)⟩
      · exact fP.trans ((Fr.u (S := pgS A) ⟨by omega, by omega⟩).trans ((Fr.u (S := pgS A) ⟨by omega, by omega⟩).trans (Fr.u (S := pgS A) ⟨by omega, by omega⟩)))
      · rw [uI_ne (by omega), uI_ne (by omega), uI_ne (by omega)]; exact hG'.1
      · rw [uI_ne (by omega), uI_ne (by omega), uI_ne (by omega)]; exact hG'.2 i y hy
      · rw [uI_ne (by omega), uI_ne (by omega), uI_ne (by omega)]; exact hS' i hi
      · rw [uI_eq, List.length_cons]; rfl
      · rw [uI_ne (by omega), uI_ne (by omega), uI_eq]
      · rw [uI_ne (by omega), uI_eq]
      · exact hL'.fr fun j hj => ⟨by rw [uI_ne (by omega), uI_ne (by omega), uI_ne (by omega)], by rw [uI_ne (by omega), uI_ne (by omega), uI_ne (by omega)]⟩
      · rw [wk, if_neg w3, if_pos (Decidable.not_not.mp w2)]
        show _ = wkN g n s.1 k (((rs.drop a).take (b - a)).map (fun r => r.2.2) ++ lvS rs L) _ pg
        rw [hk]
      · show (((rs.drop a).take (b - a)).map (fun r => r.2.2) ++ lvS rs L).length + _ ≤ _
        rw [hk, List.length_append]; omega
      · rw [List.length_cons]; omega
    · refine c22 he hA hG' (by omega) fun I' f' G' => hQ I' L (fun i => if i = x.toNat then true else sn i) (pg ++ [x]) (fP.trans (f'.mono fun a k q => by unfold pgS; omega)) ⟨G', fun i hi => by rw [f' _ _ (by omega)]; exact hS' i hi, by rw [f' _ _ (by omega)]; exact v5, hL'.fr fun j hj => ⟨f' _ _ (by omega), f' _ _ (by omega)⟩⟩ (fun k => by rw [wk, if_pos (Decidable.not_not.mp w3)]) (by omega) (by omega) (by rw [List.length_append, List.length_singleton]; omega)
  · have sx := b2i_n q
    exact hQ I L sn pg Fr.refl ⟨hG, hS, h5, hL⟩ (fun k => by conv => lhs; unfold wkN; rw [hf]
                                                             dsimp only; rw [if_pos sx]) (Nat.le_refl _) (Nat.le_refl _) (Nat.le_refl _)
end
section
variable {e : En} {g : Int → Int} {n : Int} {A : Nat} {D : HD}
theorem c19_22 (he : HS e) (hA : isA A) {s : SC} {rs ls : RfL} (hbig : rs.length < 100000) {Q : HI → HD → Prop} (m : Nat) : ∀ (k : Nat) (L : List (Nat × Nat)) (sn : Nat → Bool) (pg : List Int) (x4 : Int) (I : HI), CS g n A I D s rs ls → WkM A I rs L sn pg → L.length + usN sn ≤ 61 → pg.length + usN sn ≤ 61 →
    (lvS rs L).length + usK g n s.1 sn + L.length + usN sn ≤ m → 0 ≤ x4 → x4 + m ≤ 3060 → (lvS rs L).length + usK g n s.1 sn ≤ k →
    (∀ I', Fr (pgS A) I I' → PgM A I' (wkN g n s.1 k (lvS rs L) sn pg) → (wkN g n s.1 k (lvS rs L) sn pg).length ≤ 61 → Q I' D) → RV 19 22 [vR (some (A + 146)), vR (some A), vJ, vI 3060, vI x4, vJ, vJ] [] e I D Q := by
  have kc := capA hA
  induction m with
  | zero =>
    intro k L sn pg x4 I hC hW hd hp hm h0 h1 hk hQ
    have : L = [] := List.length_eq_zero_iff.mp (by omega)
    subst this
    have e1 : wkN g n s.1 k (lvS rs []) sn pg = pg := by cases k <;> rfl
    rw [e1] at hQ
    have fin := hQ I Fr.refl hW.1 (by omega)
    have h5 : I (A + 146) 5 = 0 := hW.2.2.1
    refine S19_22 he hA ⟨fun _ => fin, fun _ => ⟨fun _ => fin, fun q => by omega⟩⟩
  | succ m ih =>
    intro k L sn pg x4 I hC hW hd hp hm h0 h1 hk hQ
    obtain ⟨hG, hS, h5, hL⟩ := id hW
    refine S19_22 he hA ⟨fun q => by omega, fun _ => ?_⟩
    rw [h5]
    cases L with
    | nil =>
      have e1 : wkN g n s.1 k (lvS rs []) sn pg = pg := by cases k <;> rfl
      rw [e1] at hQ
      exact ⟨fun _ => hQ I Fr.refl hG (by omega), fun q => absurd (Int.le_refl _) q⟩
    | cons ab t =>
      obtain ⟨a, b⟩ := ab
      obtain ⟨l1, l2, l3, l4, l5⟩ := hL
      rw [List.length_cons] at hd hm h5
      have et : ((((a, b) :: t).length : Nat) : Int) - 1 = (t.length : Int) := by rw [List.length_cons]; omega
      rw [et, Int.toNat_natCast, l1, l2]
      refine ⟨fun q => by rw [List.length_cons] at q; omega, fun _ => ⟨fun q => by rw [List.length_cons] at q; omega, fun _ => ⟨⟨by omega, by omega⟩, ⟨by omega, by omega⟩, ⟨by omega, by omega⟩, fun q => ⟨⟨by omega, by omega⟩, S19_119 he hA ⟨⟨by omega, by omega⟩, ?_⟩⟩, fun q => ⟨⟨by omega, by omega⟩, ?_⟩⟩⟩⟩
      · have eab : a = b := by omega
        have es : lvS rs ((a, b) :: t) = lvS rs t := by
          show ((rs.drop a).take (b - a)).map (fun r => r.2.2) ++ lvS rs t = _
          rw [eab, Nat.sub_self, List.take_zero]; rfl
        rw [es] at hm hk hQ
        have fu : Fr (pgS A) I (uI I (A + 146) 5 (t.length : Int)) := Fr.u ⟨Nat.le_refl _, by omega⟩
        refine ih k t sn pg (x4 + 1) _ (hC.pg fu) ⟨⟨by rw [uI_ne (by omega)]; exact hG.1, fun i y hy => by rw [uI_ne (by omega)]; exact hG.2 i y hy⟩, fun i hi => by rw [uI_ne (by omega)]; exact hS i hi, uI_eq, l5.fr fun j hj => ⟨uI_ne (by omega), uI_ne (by omega)⟩⟩ (by omega) hp (by omega) (by omega) (by omega) hk fun I' f' G' => hQ I' (fu.trans f') G'
      · have hab : a < b := by omega
        have hal : a < rs.length := Nat.lt_of_lt_of_le hab l4
        have hra : rs[a]? = some (rs[a]'hal) := List.getElem?_eq_getElem hal
        refine c13 he kc.1 hC.1.1 hra ?_
        rw [l1]
        have es : lvS rs ((a, b) :: t) = (rs[a]'hal).2.2 :: lvS rs ((a + 1, b) :: t) := by
          show ((rs.drop a).take (b - a)).map (fun r => r.2.2) ++ lvS rs t = (rs[a]'hal).2.2 :: (((rs.drop (a + 1)).take (b - (a + 1))).map (fun r => r.2.2) ++ lvS rs t)
          have e1 : rs.drop a = (rs[a]'hal) :: rs.drop (a + 1) := List.drop_eq_getElem_cons hal
          have e2 : b - a = (b - (a + 1)) + 1 := by omega
          rw [e1, e2, List.take_succ_cons]; rfl
        rw [es] at hm hk hQ
        rw [List.length_cons] at hm hk
        have fu : Fr (pgS A) I (uI I (A + 149) t.length ((a : Int) + 1)) := Fr.u ⟨by omega, by omega⟩
        have ca : ((a : Int) + 1) = ((a + 1 : Nat) : Int) := by omega
        cases k with
        | zero => omega
        | succ k =>
          refine ⟨⟨by omega, by omega⟩, ⟨by omega, by omega⟩, ⟨by omega, by omega⟩, c20 he hA (hC.pg fu) (L := (a + 1, b) :: t) (sn := sn) (pg := pg) ⟨⟨by rw [uI_ne (by omega)]; exact hG.1, fun i y hy => by rw [uI_ne (by omega)]; exact hG.2 i y hy⟩, fun i hi => by rw [uI_ne (by omega)]; exact hS i hi, by rw [uI_ne (by omega), List.length_cons]; exact h5, by rw [uI_eq]; exact ca, by rw [uI_ne (by omega)]; exact l2, by omega, l4, l5.fr fun j hj => ⟨uI_ne (by omega), uI_ne (by omega)⟩⟩ (by rw [List.length_cons]; exact hd) hp fun I' L' sn' pg' f' W' hwk m1 m2 m3 => S19_119 he hA ⟨⟨by omega, by omega⟩, ?_⟩⟩
          rw [hwk k] at hQ
          rw [List.length_cons] at m2
          exact ih k L' sn' pg' (x4 + 1) I' ((hC.pg fu).pg f') W' (by omega) (by omega) (by omega) (by omega) (by omega) (by omega) fun I'' f'' G'' => hQ I'' ((fu.trans f').trans f'') G''
theorem c19 (he : HS e) (hA : isA A) {I : HI} {s : SC} {rs ls : RfL} (hC : CS g n A I D s rs ls) (hbig : rs.length < 100000) (ht : tot g n s.1 ≤ 1500) (hW : WkM A I rs [] (fun _ => false) []) {x : Int} {Q : HI → HD → Prop}
    (hQ : ∀ I', Fr (pgS A) I I' → PgM A I' (pgW g n s.1 x) → (pgW g n s.1 x).length ≤ 61 → Q I' D) : CV 19 [vR (some (A + 146)), vR (some A), vI x] e I D Q := by
  have u0 := usN_0
  have uk := usK_0 (g := g) (n := n) (fo := s.1)
  refine S19 he hA (c36 he hA hC ⟨fun q => S19_15 he hA ?_, fun q => ?_⟩)
  · have e1 : pgW g n s.1 x = [] := if_neg q
    rw [e1] at hQ
    refine c19_22 he hA hbig 3060 2000 [] (fun _ => false) [] 0 I hC hW (by rw [u0]; simp) (by rw [u0]; simp) (by simp only [lvS, List.length_nil]; omega) (by omega) (by omega) (by simp only [lvS, List.length_nil]; omega) fun I' f' G' l' => hQ I' f' G' l'
  · have e1 : pgW g n s.1 x = wkN g n s.1 2000 [x] (fun _ => false) [] := if_pos (Decidable.not_not.mp q)
    rw [e1] at hQ
    refine c20 he hA hC hW (by rw [u0]; simp) (by rw [u0]; simp) fun I' L' sn' pg' f' W' hwk m1 m2 m3 => S19_15 he hA ?_
    rw [u0] at m2 m3
    simp only [lvS, List.length_nil] at m1 m2 m3
    have hw := hwk 1999
    have hw : wkN g n s.1 2000 [x] (fun _ => false) [] = wkN g n s.1 1999 (lvS rs L') sn' pg' := hw
    rw [hw] at hQ
    exact c19_22 he hA hbig 3060 1999 L' sn' pg' 0 I' (hC.pg f') W' (by omega) (by omega) (by omega) (by omega) (by omega) (by omega) fun I'' f'' G'' l'' => hQ I'' (f'.trans f'') G'' l''
theorem pgN_len {fo : Nat → Option FR} (k : Nat) : (pgN g n fo k).length ≤ k := by
  induction k with
  | zero => exact Nat.le_refl _
  | succ k ih =>
    show (pgN g n fo k ++ _).length ≤ k + 1
    rw [List.length_append]
    split <;> simp <;> omega
theorem obO_s {fo : Nat → Option FR} {i : Nat} (h : 1 ≤ i ∧ i < 61) : obO fo (i : Int) = fo i := by
  unfold obO
  rw [if_pos (by omega), Int.toNat_natCast]
theorem c21_7 (he : HS e) (hA : isA A) {s : SC} {rs ls : RfL} {Q : HI → HD → Prop} (k : Nat) : ∀ (i : Nat) (I : HI), i ≤ 60 → 60 - i = k → CS g n A I D s rs ls → PgM A I (pgN g n s.1 i) →
    (∀ I', Fr (pgS A) I I' → PgM A I' (pgN g n s.1 60) → Q I' D) → RV 21 7 [vR (some (A + 146)), vR (some A), vI ((i + 1 : Nat) : Int)] [] e I D Q := by
  induction k with
  | zero =>
    intro i I hi hk hC hM hQ
    have : i = 60 := by omega
    subst this
    exact S21_7 he hA ⟨fun _ => hQ I Fr.refl hM, fun q => by omega⟩
  | succ k ih =>
    intro i I hi hk hC hM hQ
    have pl := pgN_len (g := g) (n := n) (fo := s.1) i
    have go : ∀ I', Fr (pgS A) I I' → PgM A I' (pgN g n s.1 (i + 1)) → RV 21 27 [vR (some (A + 146)), vR (some A), vI ((i + 1 : Nat) : Int)] [] e I' D Q := fun I' f' G' =>
      S21_27 he hA ⟨⟨by omega, by omega⟩, ih (i + 1) I' (by omega) (by omega) (hC.pg f') G' fun I'' f'' G'' => hQ I'' (f'.trans f'') G''⟩
    refine S21_7 he hA ⟨fun q => by omega, fun _ => c36 he hA hC ?_⟩
    rw [obO_s (by omega)]
    refine ⟨fun q => go I Fr.refl ?_, fun q => c22 he hA hM (by omega) fun I' f' G' => go I' (f'.mono fun a k q => by unfold pgS; omega) ?_⟩
    · show PgM A I (pgN g n s.1 i ++ _)
      rw [if_neg q, List.append_nil]; exact hM
    · show PgM A I' (pgN g n s.1 i ++ _)
      rw [if_pos (Decidable.not_not.mp q)]; exact G'
theorem c21 (he : HS e) (hA : isA A) {I : HI} {s : SC} {rs ls : RfL} (hC : CS g n A I D s rs ls) {Q : HI → HD → Prop}
    (hQ : ∀ I', Fr (pgS A) I I' → PgM A I' (pgN g n s.1 60) → Q I' D) : CV 21 [vR (some (A + 146)), vR (some A)] e I D Q := by
  have fu : Fr (pgS A) I (uI I (A + 146) 1 0) := Fr.u ⟨Nat.le_refl _, by omega⟩
  exact S21 he hA (c21_7 he hA 60 0 _ (by omega) rfl (hC.pg fu) ⟨uI_eq, fun i x hx => by cases hx⟩ fun I' f' G' => hQ I' (fu.trans f') G')
theorem c41_39 (he : HS e) (hA : isA A) {I : HI} {s : SC} {rs ls : RfL} (hC : CS g n A I D s rs ls) {pg : List Int} (hM : PgM A I pg) (hcap : s.2.1.length < L0 (A + 11)) {Q : HI → HD → Prop}
    (hQ : ∀ I', Fr (fun a k => pgS A a k ∨ mkS (A + 10) a k) I I' → PgM A I' (if (pgN g n s.1 60).length = pg.length then pg else pgN g n s.1 60) → CS g n A I' D (s.1, s.2.1 ++ (if (pgN g n s.1 60).length = pg.length then [] else [(0, 0, 8)]), s.2.2) rs ls → Q I' D) (k : Nat) :
    ∀ i : Nat, i ≤ 60 → 60 - i = k → RV 41 39 [vR (some A), vJ, vI ((pgN g n s.1 i).length : Int), vI ((i + 1 : Nat) : Int)] [] e I D Q := by
  induction k with
  | zero =>
    intro i hi hk
    have : i = 60 := by omega
    subst this
    refine S41_39 he hA ⟨fun _ => ?_, fun q => by omega⟩
    rw [hM.1]
    refine ⟨fun q => hQ I Fr.refl ?_ ?_, fun q => c21 he hA hC fun I' f' G' => c26 he hA (hC.pg f').1.2.2.1 hcap fun I'' f'' M'' => hQ I'' ((f'.mono fun a k q => Or.inl q).trans (f''.mono fun a k q => Or.inr q)) ?_ ?_⟩
    · rw [if_pos (by omega)]; exact hM
    · rw [if_pos (by omega), List.append_nil]; exact hC
    · rw [if_neg (by omega)]
      exact ⟨by rw [f'' _ _ (fun q => by unfold mkS at q; omega)]; exact G'.1, fun j y hy => by rw [f'' _ _ (fun q => by unfold mkS at q; omega)]; exact G'.2 j y hy⟩
    · rw [if_neg (by omega)]; exact (hC.pg f').mend hA f'' M''
  | succ k ih =>
    intro i hi hk
    have pl := pgN_len (g := g) (n := n) (fo := s.1) i
    have nx := ih (i + 1) (by omega) (by omega)
    have e1 : pgN g n s.1 (i + 1) = pgN g n s.1 i ++ (if kdO g n (s.1 (i + 1)) = 3 then [((i + 1 : Nat) : Int)] else []) := rfl
    refine S41_39 he hA ⟨fun q => by omega, fun _ => c36 he hA hC ?_⟩
    rw [obO_s (by omega)]
    refine ⟨fun q => S41_60 he hA ⟨⟨by omega, by omega⟩, ⟨by omega, by omega⟩, ?_⟩, fun q => S41_60 he hA ⟨⟨by omega, by omega⟩, ⟨by omega, by omega⟩, ?_⟩⟩
    · rw [e1, if_neg q, List.append_nil] at nx
      have : ((pgN g n s.1 i).length : Int) + 0 = (pgN g n s.1 i).length := by omega
      rw [this]; exact nx
    · rw [e1, if_pos (Decidable.not_not.mp q), List.length_append, List.length_singleton] at nx
      exact nx
theorem c41 (he : HS e) (hA : isA A) {I : HI} {s : SC} {rs ls : RfL} (hC : CS g n A I D s rs ls) (hbig : rs.length < 100000) (ht : tot g n s.1 ≤ 1500) (hcap : s.2.1.length < L0 (A + 11)) {c : Int} (hc : I A 15 = c) {Q : HI → HD → Prop} {p1 : List Int} (hp1 : p1 = (match obO s.1 c with | some f => pgW g n s.1 (pgR g n f) | none => []))
    (hQ : ∀ I', Fr (fun a k => pgS A a k ∨ mkS (A + 10) a k) I I' → PgM A I' (if (pgN g n s.1 60).length = p1.length then p1 else pgN g n s.1 60) → p1.length ≤ 61 → CS g n A I' D (s.1, s.2.1 ++ (if (pgN g n s.1 60).length = p1.length then [] else [(0, 0, 8)]), s.2.2) rs ls → Q I' D) : CV 41 [vR (some A)] e I D Q := by
  refine S41 he hA (c17 he hA (rs := rs) fun I1 f1 W1 => ?_)
  have C1 := hC.pg f1
  have h15 : I1 A 15 = c := by rw [f1 _ _ (fun q => by unfold pgS at q; omega)]; exact hc
  rw [h15]
  refine c35' he hA C1 (fun q => ⟨fun _ => S41_35 he hA ?_, fun u w => by cases w⟩) fun f hf hx hk3 hcf => ⟨fun w => (by cases w), fun u w => ?_⟩
  · rw [q] at hp1
    subst hp1
    exact c41_39 he hA C1 W1.1 hcap (fun I' f' G' C' => hQ I' ((f1.mono fun a k q => Or.inl q).trans f') G' (by simp) C') 60 0 (by omega) rfl
  · cases w
    rw [hcf.kd.2]
    have hf' : obO s.1 c = some f := hf
    rw [hf'] at hp1
    dsimp only at hp1
    refine ⟨hk3, c19 he hA C1 hbig ht W1 fun I2 f2 G2 l2 => S41_35 he hA ?_⟩
    rw [← hp1] at G2 l2
    exact c41_39 he hA (C1.pg f2) G2 hcap (fun I' f' G' C' => hQ I' ((f1.mono fun a k q => Or.inl q).trans ((f2.mono fun a k q => Or.inl q).trans f')) G' l2 C') 60 0 (by omega) rfl
end
