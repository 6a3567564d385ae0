/-! the model's read -/
def diS (a k : Nat) : Prop := (a = 312 ∧ ((31 ≤ k ∧ k ≤ 38) ∨ k = 42 ∨ (45 ≤ k ∧ k ≤ 51))) ∨ (333 ≤ a ∧ a ≤ 337)
def lrS (a k : Nat) : Prop := prS a k ∨ (a = 312 ∧ k = 37)
theorem prlr (a k : Nat) (h : prS a k) : lrS a k := Or.inl h
theorem lrdi (a k : Nat) (h : lrS a k) : diS a k := by unfold lrS prS at h; unfold diS; omega
theorem MoB.lr {g : Int → Int} {n s : Int} {I I' : HI} (h : MoB g n s I) (hf : Fr lrS I I') : MoB g n s I' := h.fr hf (by simp [lrS, prS]) (by simp [lrS, prS])
theorem MoB.di {g : Int → Int} {n s : Int} {I I' : HI} (h : MoB g n s I) (hf : Fr diS I I') : MoB g n s I' := h.fr hf (by simp [diS]) (by simp [diS])
theorem MD.cu {g : Int → Int} {n vv : Int} {l : List Nat} {I I' : HI} {ps : PrL} {rs : RfL} (h : MD g n l vv I ps rs) (f : Fr cuS I I') : MD g n l vv I' ps rs :=
  ⟨h.1.cu f, h.2.1.fr f (by simp [cuS]) (by simp [cuS]), h.2.2.fr f (fun k u v => by unfold cuS; omega)⟩
theorem MD.one {g : Int → Int} {n vv : Int} {l : List Nat} {I : HI} {ps : PrL} {rs : RfL} (h : MD g n l vv I ps rs) {k : Nat} {z : Int} (hk : k = 31 ∨ (32 ≤ k ∧ k ≤ 37)) : MD g n l vv (uI I 312 k z) ps rs := by
  have f : Fr (fun a j => a = 312 ∧ j = k) I (uI I 312 k z) := Fr.u ⟨rfl, rfl⟩
  exact ⟨h.1.fr f (by omega) (fun k => by omega), h.2.1.fr f (by omega) (fun k => by omega), h.2.2.fr f (fun k u v => by omega)⟩
section
variable {e : En} {D : HD} {g : Int → Int} {n s lim b vv : Int} {P : Int → Prop}
theorem dic_lt {k : Nat} {p : Int} {ps : PrL} {rs : RfL} (h : (dicN g n b k p ps rs).2.1 = true) : p < b := by
  cases k with
  | zero => cases h
  | succ k =>
    rcases Int.lt_or_le p b with q | q
    · exact q
    · have e1 : dicN g n b (k + 1) p ps rs = (p, false, ps, rs) := if_pos q
      rw [e1] at h; cases h
theorem lnL_1 {pr : Int × Int × Int × Nat × Nat} (h1 : pr.1 ≤ n) (h2 : nxF g n pr.1 < pr.2.2.1) : 8 * ((lnL g n [pr]).length : Int) ≤ pr.2.2.1 - pr.1 := by
  have ll := lnL_le (g := g) (n := n) (pr := pr)
  cases t : tx g n pr.1 20 with
  | false =>
    have := ll.2 t
    have := nxF_bd (g := g) h1
    omega
  | true =>
    have t2 := tx_len t
    have t3 : (zstr 20).length = 7 := by decide
    have := skp_bd (g := g) (eF_bd (g := g) h1).2.1
    have : eF g n pr.1 ≤ nxF g n pr.1 := by unfold nxF; omega
    omega
theorem m98_84 (he : HS e) (hB : Bd g n b P) (hb : HB g n lim b) {w m : Int} {l : List Nat} (hw : WOK w l) (hm : m = l.length) {Q : HI → HD → Prop} (k : Nat) :
    ∀ (p a : Int) (ps : PrL) (rs : RfL) (I : HI), (b - p).toNat < k → P p → MoB g n s I → I 312 32 = lim → I 312 31 = a → 0 ≤ a → a ≤ p → skp g n a = p → MD g n l vv I ps rs → 5 * (rs.length : Int) ≤ p → 8 * ((lnL g n ps).length : Int) ≤ p → I 312 37 = -1 →
    (b = lim ∨ (dicN g n b k p ps rs).2.1 = true) →
    (∀ I', Fr lrS I I' → MD g n l vv I' (dicN g n b k p ps rs).2.2.1 (dicN g n b k p ps rs).2.2.2 → I' 312 37 = (if (dicN g n b k p ps rs).2.1 = true then (dicN g n b k p ps rs).1 else -1) → Q I' D) →
    RV 98 84 [vR (some 312), vJ, vJ, vL w, vJ, vI m, vI 1] [] e I D Q := by
  have hb2 := hb.2.1
  have hb1 := hb.1
  induction k with
  | zero => intro p a ps rs I hk; omega
  | succ k ih =>
    intro p a ps rs I hk hp hM hl ha h0 hap hs hD h5 h8 h37 hcl hQ
    have hn := hM.2.2.2.2.1
    have pb := (hB.2 p hp).1
    refine S98_84 he ⟨fun q => absurd q (by decide), fun _ => mnx he hB hb hM hl ha h0 hp hap hs (fun q => ?_) (fun q1 q2 I' f ea => ⟨fun _ => ?_, fun q => absurd rfl q⟩) (fun hlt I1 f1 a1 g1 t1 => ⟨fun q => absurd q (by decide), fun _ => ?_⟩)⟩
    · rcases hcl with c | c
      · exact c
      · have := dic_lt c; omega
    · have e1 : dicN g n b (k + 1) p ps rs = (p, false, ps, rs) := if_pos (by omega)
      rw [e1] at hQ
      exact hQ I' (f.mono fun a k q => prlr a k (cupr a k q)) (hD.cu f) (by rw [f _ _ (by simp [cuS])]; exact h37)
    · have M1 := hM.cu f1
      have D1 := hD.cu f1
      have l1 : I1 312 32 = lim := by rw [f1 _ _ (by simp [cuS])]; exact hl
      have h371 : I1 312 37 = -1 := by rw [f1 _ _ (by simp [cuS])]; exact h37
      have hnx := hB.nx hp hlt
      have qb := (hB.2 _ hnx).1
      have nb := (nxF_bd (g := g) (show p ≤ n by omega)).2.2 (by omega)
      have eb := hB.eFle hp hlt
      have tk := ((hB.2 p hp).2 hlt).2.1
      have kc := k_close pb.1 (show p < n by omega) tk
      have kn := k_name (show p < n by omega) tk
      have el : eF g n p ≤ nxF g n p := (skp_bd (g := g) (show eF g n p ≤ n by omega)).1
      have F1 : Fr lrS I I1 := f1.mono fun a k q => prlr a k (cupr a k q)
      have e1 : dicN g n b (k + 1) p ps rs = if kF' g n p = 10 then (eF g n p, true, ps, rs)
        else if kF' g n p = 8 ∧ kF' g n (nxF g n p) ≠ 10 ∧ nxF g n p < b then
          dicN g n b k (skp g n (valF g n b (nxF g n p) rs).1) (ps ++ [(p, nxF g n p, (valF g n b (nxF g n p) rs).1, rs.length, (valF g n b (nxF g n p) rs).2.length)]) (valF g n b (nxF g n p) rs).2
        else dicN g n b k (nxF g n p) ps rs := if_neg (by omega)
      rw [g1, t1]
      refine m94 he M1 wok_cl rfl pb.1 (by omega) (by omega) (by omega) ⟨fun z => ?_, fun z => ?_⟩
      · have n10 : kF' g n p ≠ 10 := fun u => by rw [kc.mpr u] at z; exact absurd z (by decide)
        rw [if_neg n10] at e1
        have go : dicN g n b (k + 1) p ps rs = dicN g n b k (nxF g n p) ps rs → ∀ J, Fr lrS I J → MD g n l vv J ps rs → J 312 37 = -1 → 0 ≤ J 312 31 → J 312 31 ≤ nxF g n p → skp g n (J 312 31) = nxF g n p → RV 98 84 [vR (some 312), vJ, vJ, vL w, vJ, vI m, vI 1] [] e J D Q := by
          intro w1 J fJ DJ h37J c1 c2 c3
          rw [w1] at hQ hcl
          exact ih (nxF g n p) (J 312 31) ps rs J (by omega) hnx (hM.lr fJ) (by rw [fJ _ _ (by simp [lrS, prS])]; exact hl) rfl c1 c2 c3 DJ (by omega) (by omega) h37J hcl (fun I' f2 => hQ I' (fJ.trans f2))
        rw [g1]
        refine m88 he M1 pb.1 (by omega) ⟨fun u => ?_, fun u => ?_⟩
        · have n8 : kF' g n p ≠ 8 := fun v => u (kn.mpr v)
          exact go (by rw [e1, if_neg (fun v => n8 v.1)]) I1 F1 D1 h371 (by omega) (by omega) (by rw [a1]; rfl)
        · have k8 : kF' g n p = 8 := kn.mp (Decidable.not_not.mp u)
          refine m99 he hB hb hw hm hp hlt M1 l1 a1 g1 t1 D1 h5 (by omega) ?_ (fun c I' f2 DI c1 c2 c3 => ?_) (fun c I' f2 DI c1 => ?_)
          · rcases hcl with c | c
            · exact Or.inl c
            · rw [e1] at c
              refine Or.inr ?_
              by_cases v : kF' g n (nxF g n p) ≠ 10 ∧ nxF g n p < b
              · rw [if_pos ⟨k8, v⟩] at c
                exact ⟨v.2, fun _ => dic_lt c⟩
              · rw [if_neg (fun x => v x.2)] at c
                have := dic_lt c
                exact ⟨this, fun x => absurd ⟨x, this⟩ v⟩
          · exact go (by rw [e1, if_neg (fun v => c v.2)]) I' (F1.trans (f2.mono prlr)) DI (by rw [f2 _ _ (by simp [prS])]; exact h371) c1 c2 c3
          · rw [e1, if_pos ⟨k8, c⟩] at hQ hcl
            have vo := valF_ok hB 0 hnx c.2 (rs := rs) (by omega)
            have sb := skp_bd (g := g) (show (valF g n b (nxF g n p) rs).1 ≤ n by omega)
            have l8 := lnL_1 (g := g) (n := n) (pr := (p, nxF g n p, (valF g n b (nxF g n p) rs).1, rs.length, (valF g n b (nxF g n p) rs).2.length)) (by omega) vo.1
            have F2 : Fr lrS I I' := F1.trans (f2.mono prlr)
            refine ih _ (valF g n b (nxF g n p) rs).1 _ _ I' (by omega) vo.2.2.1 (hM.lr F2) (by rw [F2 _ _ (by simp [lrS, prS])]; exact hl) c1 (by omega) sb.1 rfl DI (by omega) ?_ (by rw [f2 _ _ (by simp [prS])]; exact h371) hcl (fun I3 f3 => hQ I3 (F2.trans f3))
            rw [lnL_app, List.length_append]
            have l8' : 8 * ((lnL g n [(p, nxF g n p, (valF g n b (nxF g n p) rs).1, rs.length, (valF g n b (nxF g n p) rs).2.length)]).length : Int) ≤ (valF g n b (nxF g n p) rs).1 - p := l8
            omega
      · have k10 := kc.mp (b2i_n z)
        rw [if_pos k10] at e1
        rw [e1] at hQ
        rw [t1]
        exact S98_84 he ⟨fun _ => hQ _ (F1.trans (Fr.u (Or.inr ⟨rfl, rfl⟩))) (D1.one (by omega)) uI_eq, fun q => absurd rfl q⟩
theorem m98 (he : HS e) (hB : Bd g n b P) (hb : HB g n lim b) {w m : Int} {l : List Nat} (hw : WOK w l) (hm : m = l.length) {x p : Int} {I : HI} (hM : MoB g n s I) (h0 : 0 ≤ x) (hxp : x ≤ p) (hs : skp g n x = p) (hp : P p)
    (hcl : b = lim ∨ (p < b ∧ kF' g n p = 9 ∧ (dicN g n b 4000 (nxF g n p) [] []).2.1 = true)) {Q : HI → HD → Prop}
    (hN : ¬ (p < b ∧ kF' g n p = 9) → ∀ I', Fr diS I I' → MD g n l (I 312 51) I' [] [] → I' 312 35 = 0 → I' 312 37 = -1 → Q I' D)
    (hY : p < b ∧ kF' g n p = 9 → ∀ I', Fr diS I I' → MD g n l (I 312 51) I' (dicN g n b 4000 (nxF g n p) [] []).2.2.1 (dicN g n b 4000 (nxF g n p) [] []).2.2.2 → I' 312 35 = 1 → I' 312 36 = eF g n p → I' 312 37 = (if (dicN g n b 4000 (nxF g n p) [] []).2.1 = true then (dicN g n b 4000 (nxF g n p) [] []).1 else -1) → Q I' D) :
    CV 98 [vR (some 312), vI x, vI lim, vL w, vI m] e I D Q := by
  have hb2 := hb.2.1
  have hb1 := hb.1
  have hn := hM.2.2.2.2.1
  have pb := (hB.2 p hp).1
  refine S98 he ?_
  have f0 : Fr diS I (uI (uI (uI (uI (uI (uI I 312 31 x) 312 32 lim) 312 38 0) 312 42 0) 312 45 0) 312 37 (-1)) := by
    refine Fr.trans (Fr.trans (Fr.trans (Fr.u ?_) (Fr.u ?_)) (Fr.u ?_)) (Fr.trans (Fr.u ?_) (Fr.trans (Fr.u ?_) (Fr.u ?_))) <;> (unfold diS; omega)
  have a0 : (uI (uI (uI (uI (uI (uI I 312 31 x) 312 32 lim) 312 38 0) 312 42 0) 312 45 0) 312 37 (-1)) 312 31 = x := by simp [uI]
  have l0 : (uI (uI (uI (uI (uI (uI I 312 31 x) 312 32 lim) 312 38 0) 312 42 0) 312 45 0) 312 37 (-1)) 312 32 = lim := by simp [uI]
  have h370 : (uI (uI (uI (uI (uI (uI I 312 31 x) 312 32 lim) 312 38 0) 312 42 0) 312 45 0) 312 37 (-1)) 312 37 = -1 := uI_eq
  have D0 : MD g n l (I 312 51) (uI (uI (uI (uI (uI (uI I 312 31 x) 312 32 lim) 312 38 0) 312 42 0) 312 45 0) 312 37 (-1)) [] [] := by
    refine ⟨⟨by simp [uI], fun i r hr => by simp at hr⟩, ⟨by simp [uI, lnL], fun i r hr => by simp [lnL] at hr⟩, ?_⟩
    show _ = 0 ∧ _ = _
    simp [uI]
  have M0 := hM.di f0
  generalize (uI (uI (uI (uI (uI (uI I 312 31 x) 312 32 lim) 312 38 0) 312 42 0) 312 45 0) 312 37 (-1)) = J at f0 a0 l0 h370 D0 M0
  have no : ¬ (p < b ∧ kF' g n p = 9) → ∀ K, Fr cuS J K → RV 98 61 [vR (some 312), vJ, vJ, vL w, vJ, vI m, vJ] [vR (some 312)] e K D Q := by
    intro c K fK
    refine S98_61 he (S98_62 he ⟨Or.inl rfl, fun q => absurd rfl q, fun _ => hN c _ ?_ ((D0.cu fK).one (by omega)) uI_eq ?_⟩)
    · exact f0.trans ((fK.mono fun a k q => lrdi a k (prlr a k (cupr a k q))).trans (Fr.u (by unfold diS; omega)))
    · rw [uI_ne (by omega), fK _ _ (by simp [cuS])]; exact h370
  refine mnx he hB hb M0 l0 a0 h0 hp hxp hs (fun q => ?_) (fun q1 q2 K f ea => ⟨fun _ => no (by omega) K f, fun q => absurd rfl q⟩) (fun hlt K f1 a1 g1 t1 => ⟨fun q => absurd q (by decide), fun _ => ?_⟩)
  · rcases hcl with c | c
    · exact c
    · omega
  · have M1 := M0.cu f1
    have hnx := hB.nx hp hlt
    have nb := (nxF_bd (g := g) (show p ≤ n by omega)).2.2 (by omega)
    have eb := hB.eFle hp hlt
    have tk := ((hB.2 p hp).2 hlt).2.1
    have ko := k_open pb.1 (show p < n by omega) tk
    have el : eF g n p ≤ nxF g n p := (skp_bd (g := g) (show eF g n p ≤ n by omega)).1
    rw [g1, t1]
    refine m94 he M1 wok_op rfl pb.1 (by omega) (by omega) (by omega) ⟨fun z => no (fun u => ?_) K f1, fun z => ?_⟩
    · rw [ko.mpr u.2] at z; exact absurd z (by decide)
    · have k9 := ko.mp (b2i_n z)
      have hY := hY ⟨hlt, k9⟩
      refine S98_62 he ⟨Or.inr rfl, fun _ => ?_, fun q => absurd (by decide) q⟩
      rw [t1]
      have f2 : Fr diS I (uI (uI K 312 35 1) 312 36 (eF g n p)) := f0.trans ((f1.mono fun a k q => lrdi a k (prlr a k (cupr a k q))).trans (Fr.trans (Fr.u (by unfold diS; omega)) (Fr.u (by unfold diS; omega))))
      refine m98_84 he hB hb hw hm 4000 (nxF g n p) (eF g n p) [] [] _ (by omega) hnx (hM.di f2) ?_ ?_ (by omega) el rfl (((D0.cu f1).one (by omega)).one (by omega)) (by simp; omega) (by simp [lnL]; omega) ?_ (hcl.imp id fun c => c.2.2) fun I' f3 DI h37 => hY I' (f2.trans (f3.mono lrdi)) DI ?_ ?_ h37
      · rw [uI_ne (by omega), uI_ne (by omega), f1 _ _ (by simp [cuS])]; exact l0
      · rw [uI_ne (by omega), uI_ne (by omega)]; exact a1
      · rw [uI_ne (by omega), uI_ne (by omega), f1 _ _ (by simp [cuS])]; exact h370
      · rw [f3 _ _ (by simp [lrS, prS]), uI_ne (by omega), uI_eq]
      · rw [f3 _ _ (by simp [lrS, prS]), uI_eq]
end
