/-! PageList.visit, follow, takeAll; Scan.choosePages -/
section
variable {g : Int → Int} {n lim : Int}
theorem row_app {op cl : Int} (k : Nat) : ∀ (p d : Int) (rs : RfL), ∃ t, (rowN g n lim op cl k p d rs).2 = rs ++ t := by
  induction k with
  | zero => intro p d rs; exact ⟨[], by unfold rowN; simp⟩
  | succ k ih =>
    intro p d rs
    unfold rowN
    split
    · exact ⟨[], by simp⟩
    · split
      · obtain ⟨t, ht⟩ := ih (skp g n (e3F g n p)) d (rs ++ [(p, e3F g n p, mF g n p)])
        exact ⟨[(p, e3F g n p, mF g n p)] ++ t, by rw [ht, List.append_assoc]⟩
      · split
        · split
          · exact ⟨[], by simp⟩
          · exact ih _ _ _
        · split
          · exact ih _ _ _
          · exact ih _ _ _
theorem val_app {q : Int} {rs : RfL} : ∃ t, (valF g n lim q rs).2 = rs ++ t := by
  unfold valF
  split
  · exact row_app _ _ _ _
  · split
    · exact row_app _ _ _ _
    · split
      · exact ⟨_, rfl⟩
      · exact ⟨[], by simp⟩
def ixP (rs : RfL) (pr : Int × Int × Int × Nat × Nat) : Prop := pr.2.2.2.1 ≤ pr.2.2.2.2 ∧ pr.2.2.2.2 ≤ rs.length
theorem dic_ix (k : Nat) : ∀ (p : Int) (ps : PrL) (rs : RfL), (∀ pr ∈ ps, ixP rs pr) → ∀ pr ∈ (dicN g n lim k p ps rs).2.2.1, ixP (dicN g n lim k p ps rs).2.2.2 pr := by
  induction k with
  | zero => intro p ps rs h; exact h
  | succ k ih =>
    intro p ps rs h
    unfold dicN
    split
    · exact h
    · split
      · exact h
      · split
        · obtain ⟨t, ht⟩ := val_app (g := g) (n := n) (lim := lim) (q := nxF g n p) (rs := rs)
          refine ih _ _ _ fun pr hpr => ?_
          rcases List.mem_append.mp hpr with hpr | hpr
          · have := h pr hpr
            exact ⟨this.1, by rw [ht, List.length_append]; have := this.2; omega⟩
          · rw [List.mem_singleton] at hpr
            subst hpr
            exact ⟨by show rs.length ≤ (valF g n lim (nxF g n p) rs).2.length; rw [ht, List.length_append]; omega, Nat.le_refl _⟩
        · exact ih _ _ _ h
def rlK (b0 : Nat) (all : PrL) (S S' : Nat → Int) : Prop := (S 8 = 0 ∧ S 9 = 0 ∧ S' 8 = 0 ∧ S' 9 = 0) ∨ ∃ pr, pr ∈ all ∧ S 8 = ((b0 + pr.2.2.2.1 : Nat) : Int) ∧ S 9 = ((b0 + pr.2.2.2.2 : Nat) : Int) ∧ S' 8 = (pr.2.2.2.1 : Int) ∧ S' 9 = (pr.2.2.2.2 : Int)
theorem df_kids (b0 : Nat) (all : PrL) : rlK b0 all (dfF g n b0 all) (dfF g n 0 all) := by
  have gen : ∀ (ps : PrL) (S S' : Nat → Int), (∀ pr ∈ ps, pr ∈ all) → rlK b0 all S S' → rlK b0 all (ps.foldl (fun S pr => kpF g n b0 pr S) S) (ps.foldl (fun S pr => kpF g n 0 pr S) S') := by
    intro ps
    induction ps with
    | nil => intro S S' _ h; exact h
    | cons pr ps ih =>
      intro S S' hm h
      refine ih _ _ (fun pr' h' => hm pr' (List.mem_cons_of_mem _ h')) ?_
      by_cases c : tx g n pr.1 19 = true
      · exact Or.inr ⟨pr, hm pr (List.mem_cons_self ..), by simp [kpF, c], by simp [kpF, c], by simp [kpF, c], by simp [kpF, c]⟩
      · have e : ∀ (b : Nat) (T : Nat → Int), kpF g n b pr T 8 = T 8 ∧ kpF g n b pr T 9 = T 9 := fun b T => ⟨by simp [kpF, c], by simp [kpF, c]⟩
        unfold rlK
        rw [(e b0 S).1, (e b0 S).2, (e 0 S').1, (e 0 S').2]
        exact h
  exact gen all df0 df0 (fun _ h => h) (Or.inl ⟨rfl, rfl, rfl, rfl⟩)
theorem dR_ix {p0 : Int} : ∀ pr ∈ (dR g n p0).2.2.1, ixP (dR g n p0).2.2.2 pr := by
  unfold dR
  split
  · exact dic_ix _ _ _ _ (fun pr h => by cases h)
  · exact fun pr h => by cases h
/-- the row of kids, as the class and as the model keep it -/
theorem kids_ok {f : FR} {rs : RfL} {r0 : Nat} (h1 : r0 + (dRs g n f).length ≤ rs.length) (h2 : ∀ (j : Nat) (r : Int × Int × Int), (dRs g n f)[j]? = some r → rs[r0 + j]? = some r) :
    ∃ a b : Nat, dfF g n r0 (dPr g n f) 8 = (a : Int) ∧ dfF g n r0 (dPr g n f) 9 = (b : Int) ∧ a ≤ b ∧ b ≤ rs.length ∧ ((rs.drop a).take (b - a)).map (fun r => r.2.2) = kidL g n f := by
  rcases df_kids (g := g) (n := n) r0 (dPr g n f) with h | ⟨pr, hm, q1, q2, q3, q4⟩
  · refine ⟨0, 0, h.1, h.2.1, Nat.le_refl _, Nat.zero_le _, ?_⟩
    unfold kidL
    rw [h.2.2.1, h.2.2.2]; simp
  · have ix := dR_ix (g := g) (n := n) pr hm
    have ix1 : pr.2.2.2.1 ≤ pr.2.2.2.2 := ix.1
    have ix2 : pr.2.2.2.2 ≤ (dRs g n f).length := ix.2
    refine ⟨r0 + pr.2.2.2.1, r0 + pr.2.2.2.2, q1, q2, by omega, by omega, ?_⟩
    unfold kidL
    rw [q3, q4, Int.toNat_natCast, Int.toNat_natCast]
    congr 1
    apply List.ext_getElem?
    intro i
    rw [List.getElem?_take, List.getElem?_take, List.getElem?_drop, List.getElem?_drop]
    have e1 : r0 + pr.2.2.2.2 - (r0 + pr.2.2.2.1) = pr.2.2.2.2 - pr.2.2.2.1 := by omega
    rw [e1]
    split
    · rename_i c
      have hl : pr.2.2.2.1 + i < (dRs g n f).length := by omega
      have := h2 (pr.2.2.2.1 + i) _ (List.getElem?_eq_getElem hl)
      rw [Nat.add_assoc, this, List.getElem?_eq_getElem hl]
    · rfl
end
def pgW (g : Int → Int) (n : Int) (fo : Nat → Option FR) (x : Int) : List Int := if kdO g n (obO fo x) = 2 then wkN g n fo 2000 [x] (fun _ => false) [] else []
def pgN (g : Int → Int) (n : Int) (fo : Nat → Option FR) : Nat → List Int
  | 0 => []
  | k + 1 => pgN g n fo k ++ (if kdO g n (fo (k + 1)) = 3 then [((k + 1 : Nat) : Int)] else [])
def pg1 (g : Int → Int) (n : Int) (s : SC) : List Int := match obO s.1 (caF g n s) with | some f => pgW g n s.1 (pgR g n f) | none => []
def pgF (g : Int → Int) (n : Int) (s : SC) : List Int := if (pgN g n s.1 60).length = (pg1 g n s).length then pg1 g n s else pgN g n s.1 60
def pgD (g : Int → Int) (n : Int) (s : SC) : RfL := if (pgN g n s.1 60).length = (pg1 g n s).length then [] else [(0, 0, 8)]
section
variable {e : En} {g : Int → Int} {n : Int} {A : Nat} {D : HD}
theorem usN_0 : usN (fun _ => false) = 61 := by decide
theorem c20 (he : HS e) (hA : isA A) {I : HI} {s : SC} {rs ls : RfL} (hC : CS g n A I D s rs ls) {L : List (Nat × Nat)} {sn : Nat → Bool} {pg : List Int} (hW : WkM A I rs L sn pg) (hd : L.length + usN sn ≤ 61) (hp : pg.length + usN sn ≤ 61) {x : Int} {Q : HI → HD → Prop}
    (hQ : ∀ I' L' sn' pg', Fr (pgS A) I I' → WkM A I' rs L' sn' pg' → (∀ k, wkN g n s.1 (k + 1) (x :: lvS rs L) sn pg = wkN g n s.1 k (lvS rs L') sn' pg') → (lvS rs L').length + usK g n s.1 sn' ≤ (lvS rs L).length + usK g n s.1 sn → L'.length + usN sn' ≤ L.length + usN sn → pg'.length + usN sn' ≤ pg.length + usN sn → Q I' D) :
    CV 20 [vR (some (A + 146)), vR (some A), vI x] e I D Q := by
  obtain ⟨hG, hS, h5, hL⟩ := hW
  refine S20 he hA (c35' he hA hC (fun q => ⟨fun _ => hQ I L sn pg Fr.refl ⟨hG, hS, h5, hL⟩ (fun k => by conv => lhs; unfold wkN; rw [q]) (Nat.le_refl _) (Nat.le_refl _) (Nat.le_refl _), fun u w => by cases w⟩) fun f hf hx hk3 hcf => ⟨fun w => (by cases w), fun u w => ?_⟩)
  cases w
  have pF := hC.2.2.1.1 x.toNat (by omega)
  refine ⟨hk3, fun q => by omega, fun _ => ⟨fun q => by omega, fun _ => ⟨⟨by omega, by omega⟩, ?_⟩⟩⟩
  rw [hS x.toNat (by omega)]
  refine ⟨fun q => ?_, fun q => ?_⟩
  · have sx := b2i_0.mp q
    have su := sum_up (sn := sn) (w := fun i => kdN g n (s.1 i)) (i := x.toNat) (by omega) sx
    have suK : usK g n s.1 (fun i => if i = x.toNat then true else sn i) + (kidL g n f).length = usK g n s.1 sn := by
      have e1 : kdN g n (s.1 x.toNat) = (kidL g n f).length := by rw [hx.2]; rfl
      rw [← e1]; exact su
    have suN : usN (fun i => if i = x.toNat then true else sn i) + 1 = usN sn := sum_up (sn := sn) (w := fun _ => 1) (i := x.toNat) (by omega) sx
    have fS : Fr (fun a k => a = A + 148 ∧ k = x.toNat) I (uI I (A + 148) x.toNat 1) := Fr.u ⟨rfl, rfl⟩
    have hS' : ∀ i, i < 61 → uI I (A + 148) x.toNat 1 (A + 148) i = b2i (if i = x.toNat then true else sn i) := by
      intro i hi
      by_cases c : i = x.toNat
      · rw [if_pos c, c, uI_eq]; rfl
      · rw [if_neg c, uI_ne (by omega)]; exact hS i hi
    obtain ⟨-, r0, l0, a0, a1, a2, a3, a4, a5, a6, a7, a8, a9⟩ := id hcf
    have kd3 : uI I (A + 148) x.toNat 1 (D (A + 21) x.toNat + 1) 3 = kdF g n f := by rw [uI_ne (by omega)]; exact hcf.kd.1
    have v8 : uI I (A + 148) x.toNat 1 (D (A + 21) x.toNat + 1) 8 = dfF g n r0 (dPr g n f) 8 := by rw [uI_ne (by omega)]; exact a3 8 (by omega) (by omega)
    have v9 : uI I (A + 148) x.toNat 1 (D (A + 21) x.toNat + 1) 9 = dfF g n r0 (dPr g n f) 9 := by rw [uI_ne (by omega)]; exact a3 9 (by omega) (by omega)
    have v5 : uI I (A + 148) x.toNat 1 (A + 146) 5 = L.length := by rw [uI_ne (by omega)]; exact h5
    have hG' : PgM A (uI I (A + 148) x.toNat 1) pg := ⟨by rw [uI_ne (by omega)]; exact hG.1, fun i y hy => by rw [uI_ne (by omega)]; exact hG.2 i y hy⟩
    have hL' : LvM A (uI I (A + 148) x.toNat 1) rs L := hL.fr fun j hj => ⟨uI_ne (by omega), uI_ne (by omega)⟩
    have fP : Fr (pgS A) I (uI I (A + 148) x.toNat 1) := fS.mono fun a k q => by unfold pgS; omega
    have wk : ∀ k, wkN g n s.1 (k + 1) (x :: lvS rs L) sn pg = (if kdF g n f = 3 then wkN g n s.1 k (lvS rs L) (fun i => if i = x.toNat then true else sn i) (pg ++ [x])
      else if kdF g n f = 2 then wkN g n s.1 k (kidL g n f ++ lvS rs L) (fun i => if i = x.toNat then true else sn i) pg
      else wkN g n s.1 k (lvS rs L) (fun i => if i = x.toNat then true else sn i) pg) := by
      intro k
      conv => lhs; unfold wkN
      rw [hf]
      dsimp only
      rw [if_neg (by rw [sx]; decide)]
    rw [kd3, v8, v5]
    generalize uI I (A + 148) x.toNat 1 = J at fS hS' kd3 v8 v9 v5 hG' hL' fP
    refine ⟨⟨by omega, by omega⟩, fun w3 => ⟨fun w2 => ?_, fun w2 => ⟨fun y => by omega, fun _ => ⟨fun y => by omega, fun _ => ⟨⟨by omega, by omega⟩, ?_⟩⟩⟩⟩, fun w3 => ?_⟩
    · exact hQ J L (fun i => if i = x.toNat then true else sn i) pg fP ⟨hG', hS', v5, hL'⟩ (fun k => by rw [wk, if_neg w3, if_neg w2]) (by omega) (by omega) (by omega)
    · obtain ⟨a, b, e8, e9, hab, hb, hk⟩ := kids_ok (g := g) (n := n) (f := f) a8.1 a8.2
      have x5 : uI J (A + 149) ((L.length : Int)).toNat (dfF g n r0 (dPr g n f) 8) (A + 146) 5 = L.length := by rw [uI_ne (by omega)]; exact v5
      have x9 : uI J (A + 149) ((L.length : Int)).toNat (dfF g n r0 (dPr g n f) 8) (D (A + 21) x.toNat + 1) 9 = dfF g n r0 (dPr g n f) 9 := by rw [uI_ne (by omega)]; exact v9
      rw [x5, x9, e8, e9, Int.toNat_natCast]
      have x5' : uI (uI J (A + 149) L.length (a : Int)) (A + 150) L.length (b : Int) (A + 146) 5 = L.length := by rw [uI_ne (by omega), uI_ne (by omega)]; exact v5
      rw [x5']
      refine ⟨⟨by omega, by omega⟩, ⟨by omega, by omega⟩, hQ _ ((a, b) :: L) (fun i => if i = x.toNat then true else sn i) pg ?_ ⟨⟨?_, fun i y hy => ?_⟩, fun i hi => ?_, ?_, ?_, ?_, hab, hb, ?_⟩ (fun k => ?_) ?_ ?_ (by omega)⟩
      · exact fP.trans ((Fr.u (S := pgS A) ⟨by omega, by omega⟩).trans ((Fr.u (S := pgS A) ⟨by omega, by omega⟩).trans (Fr.u (S := pgS A) ⟨by omega, by omega⟩)))
      · rw [uI_ne (by omega), uI_ne (by omega), uI_ne (by omega)]; exact hG'.1
      · rw [uI_ne (by omega), uI_ne (by omega), uI_ne (by omega)]; exact hG'.2 i y hy
      · rw [uI_ne (by omega), uI_ne (by omega), uI_ne (by omega)]; exact hS' i hi
      · rw [uI_eq, List.length_cons]; rfl
      · rw [uI_ne (by omega), uI_ne (by omega), uI_eq]
      · rw [uI_ne (by omega), uI_eq]
      · exact hL'.fr fun j hj => ⟨by rw [uI_ne (by omega), uI_ne (by omega), uI_ne (by omega)], by rw [uI_ne (by omega), uI_ne (by omega), uI_ne (by omega)]⟩
      · rw [wk, if_neg w3, if_pos (Decidable.not_not.mp w2)]
        show _ = wkN g n s.1 k (((rs.drop a).take (b - a)).map (fun r => r.2.2) ++ lvS rs L) _ pg
        rw [hk]
      · show (((rs.drop a).take (b - a)).map (fun r => r.2.2) ++ lvS rs L).length + _ ≤ _
        rw [hk, List.length_append]; omega
      · rw [List.length_cons]; omega
    · refine c22 he hA hG' (by omega) fun I' f' G' => hQ I' L (fun i => if i = x.toNat then true else sn i) (pg ++ [x]) (fP.trans (f'.mono fun a k q => by unfold pgS; omega)) ⟨G', fun i hi => by rw [f' _ _ (by omega)]; exact hS' i hi, by rw [f' _ _ (by omega)]; exact v5, hL'.fr fun j hj => ⟨f' _ _ (by omega), f' _ _ (by omega)⟩⟩ (fun k => by rw [wk, if_pos (Decidable.not_not.mp w3)]) (by omega) (by omega) (by rw [List.length_append, List.length_singleton]; omega)
  · have sx := b2i_n q
    exact hQ I L sn pg Fr.refl ⟨hG, hS, h5, hL⟩ (fun k => by conv => lhs; unfold wkN; rw [hf]
                                                             dsimp only; rw [if_pos sx]) (Nat.le_refl _) (Nat.le_refl _) (Nat.le_refl _)
end
