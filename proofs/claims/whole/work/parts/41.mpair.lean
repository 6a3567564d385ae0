/-! the model's readPair -/
def ML (I : HI) (ls : RfL) : Prop := I 312 42 = ls.length ∧ ∀ (i : Nat) (r : Int × Int × Int), ls[i]? = some r → I 336 i = r.1 ∧ I 337 i = r.2.1
def raF (g : Int → Int) (n v : Int) : Bool := kF' g n v == 9 || kF' g n v == 11 || kF' g n v == 4
def askP (g : Int → Int) (n : Int) (l : List Nat) (pr : Int × Int × Int × Nat × Nat) : Bool := isF g n pr.1 (eF g n pr.1) l
/-- the last pair whose name is asked for -/
def kyF (g : Int → Int) (n : Int) (l : List Nat) (ps : PrL) : Option (Int × Int × Int × Nat × Nat) := ps.foldl (fun o pr => if askP g n l pr = true then some pr else o) none
def KY (g : Int → Int) (n vv : Int) (I : HI) : Option (Int × Int × Int × Nat × Nat) → Prop
  | none => I 312 45 = 0 ∧ I 312 51 = vv
  | some pr => I 312 45 = 1 ∧ I 312 46 = (if raF g n pr.2.1 = true then -1 else mF g n pr.2.1) ∧ I 312 47 = (if raF g n pr.2.1 = true then 0 else pr.2.1) ∧ I 312 48 = (if raF g n pr.2.1 = true then 0 else eF g n pr.2.1) ∧
    I 312 49 = b2i (kF' g n pr.2.1 == 4) ∧ I 312 50 = pr.2.2.2.1 ∧ I 312 51 = (pr.2.2.2.2 : Int) - pr.2.2.2.1
def MD (g : Int → Int) (n : Int) (l : List Nat) (vv : Int) (I : HI) (ps : PrL) (rs : RfL) : Prop := MR I rs ∧ ML I (lnL g n ps) ∧ KY g n vv I (kyF g n l ps)
def prS (a k : Nat) : Prop := (a = 312 ∧ (k = 31 ∨ k = 33 ∨ k = 34 ∨ k = 38 ∨ k = 42 ∨ (45 ≤ k ∧ k ≤ 51))) ∨ (333 ≤ a ∧ a ≤ 337)
theorem rwpr (a k : Nat) (h : rwS a k) : prS a k := by unfold rwS at h; unfold prS; omega
theorem cupr (a k : Nat) (h : cuS a k) : prS a k := rwpr a k (curw a k h)
theorem ML.fr {S : Nat → Nat → Prop} {I I' : HI} {ls : RfL} (h : ML I ls) (hf : Fr S I I') (h1 : ¬ S 312 42) (h2 : ∀ k, ¬ S 336 k ∧ ¬ S 337 k) : ML I' ls :=
  ⟨by rw [hf _ _ h1]; exact h.1, fun i r hr => by rw [hf _ _ (h2 i).1, hf _ _ (h2 i).2]; exact h.2 i r hr⟩
theorem KY.fr {g : Int → Int} {n vv : Int} {S : Nat → Nat → Prop} {I I' : HI} {o : Option (Int × Int × Int × Nat × Nat)} (h : KY g n vv I o) (hf : Fr S I I') (h1 : ∀ k, 45 ≤ k → k ≤ 51 → ¬ S 312 k) : KY g n vv I' o := by
  have e : ∀ k, 45 ≤ k → k ≤ 51 → I' 312 k = I 312 k := fun k a b => hf _ _ (h1 k a b)
  cases o with
  | none => show I' 312 45 = 0 ∧ I' 312 51 = vv; rw [e 45 (by omega) (by omega), e 51 (by omega) (by omega)]; exact h
  | some pr =>
    unfold KY at *
    rw [e 45 (by omega) (by omega), e 46 (by omega) (by omega), e 47 (by omega) (by omega), e 48 (by omega) (by omega), e 49 (by omega) (by omega), e 50 (by omega) (by omega), e 51 (by omega) (by omega)]
    exact h
theorem MoB.pr {g : Int → Int} {n s : Int} {I I' : HI} (h : MoB g n s I) (hf : Fr prS I I') : MoB g n s I' := h.fr hf (by simp [prS]) (by simp [prS])
theorem kyF_app {g : Int → Int} {n : Int} {l : List Nat} {ps : PrL} {pr : Int × Int × Int × Nat × Nat} : kyF g n l (ps ++ [pr]) = if askP g n l pr = true then some pr else kyF g n l ps := by simp [kyF]
section
variable {e : En} {D : HD} {g : Int → Int} {n s lim b vv : Int} {P : Int → Prop}
theorem m99 (he : HS e) (hB : Bd g n b P) (hb : HB g n lim b) {w m : Int} {l : List Nat} (hw : WOK w l) (hm : m = l.length) {p : Int} (hp : P p) (hlt : p < b) {ps : PrL} {rs : RfL} {I : HI} (hM : MoB g n s I) (hl : I 312 32 = lim) (ha : I 312 31 = eF g n p) (hg : I 312 33 = p) (ht : I 312 34 = eF g n p)
    (hD : MD g n l vv I ps rs) (h5 : 5 * (rs.length : Int) ≤ p) (h8 : (lnL g n ps).length < 700)
    (hcl : b = lim ∨ (nxF g n p < b ∧ (kF' g n (nxF g n p) ≠ 10 → skp g n (valF g n b (nxF g n p) rs).1 < b))) {Q : HI → HD → Prop}
    (hN : ¬ (kF' g n (nxF g n p) ≠ 10 ∧ nxF g n p < b) → ∀ I', Fr prS I I' → MD g n l vv I' ps rs → 0 ≤ I' 312 31 → I' 312 31 ≤ nxF g n p → skp g n (I' 312 31) = nxF g n p → Q I' D)
    (hY : kF' g n (nxF g n p) ≠ 10 ∧ nxF g n p < b → ∀ I', Fr prS I I' → MD g n l vv I' (ps ++ [(p, nxF g n p, (valF g n b (nxF g n p) rs).1, rs.length, (valF g n b (nxF g n p) rs).2.length)]) (valF g n b (nxF g n p) rs).2 → I' 312 31 = (valF g n b (nxF g n p) rs).1 → Q I' D) :
    CV 99 [vR (some 312), vL w, vI m] e I D Q := by
  have hn := hM.2.2.2.2.1
  have hb1 := hb.1
  have hb2 := hb.2.1
  have pb := (hB.2 p hp).1
  have hnx := hB.nx hp hlt
  have qb := (hB.2 _ hnx).1
  have nb := (nxF_bd (g := g) (show p ≤ n by omega)).2.2 (by omega)
  have eb := hB.eFle hp hlt
  have se : skp g n (eF g n p) = nxF g n p := rfl
  have el : eF g n p ≤ nxF g n p := (skp_bd (g := g) (show eF g n p ≤ n by omega)).1
  obtain ⟨hR, hLn, hK⟩ := hD
  refine S99 he ?_
  rw [hg, ht]
  refine m94 he hM hw hm pb.1 (by omega) (by omega) (by omega) ?_
  rw [hg, ht]
  refine m94 he hM wok_len rfl pb.1 (by omega) (by omega) (by omega) ?_
  rw [ha]
  refine mnx he hB hb hM hl ha (by omega) hnx el se (fun q => ?_) (fun q1 q2 I1 f1 a1 => ⟨fun q => absurd rfl q, fun _ => ?_⟩) (fun hq I1 f1 a1 g1 t1 => ⟨fun _ => ?_, fun q => absurd (by decide) q⟩)
  · rcases hcl with c | c
    · exact c
    · omega
  · exact hN (fun q => by omega) I1 (f1.mono cupr) ⟨hR.cu f1, hLn.fr f1 (by simp [cuS]) (by simp [cuS]), hK.fr f1 (fun k u v => by unfold cuS; omega)⟩ (by omega) (by omega) (by rw [a1, ← q2, ← q1]; exact qb.2.2)
  · have M1 := hM.cu f1
    have R1 := hR.cu f1
    have L1 : ML I1 (lnL g n ps) := hLn.fr f1 (by simp [cuS]) (by simp [cuS])
    have K1 : KY g n vv I1 (kyF g n l ps) := hK.fr f1 (fun k u v => by unfold cuS; omega)
    have l1 : I1 312 32 = lim := by rw [f1 _ _ (by simp [cuS])]; exact hl
    have tk := ((hB.2 _ hnx).2 hq).2.1
    have ebq := hB.eFle hnx hq
    have kc := k_close qb.1 (show nxF g n p < n by omega) tk
    have ko := k_open qb.1 (show nxF g n p < n by omega) tk
    have kr := k_row qb.1 (show nxF g n p < n by omega) tk
    have F1 := f1.mono cupr
    rw [g1, t1]
    refine m94 he M1 wok_cl rfl qb.1 (by omega) (by omega) (by omega) ⟨fun z => ?_, fun z => ?_⟩
    · have n10 : kF' g n (nxF g n p) ≠ 10 := fun u => by rw [kc.mpr u] at z; exact absurd z (by decide)
      have hY := hY ⟨n10, hq⟩
      have hcl2 : b = lim ∨ skp g n (valF g n b (nxF g n p) rs).1 < b := hcl.imp id fun c => c.2 n10
      have hv : valF g n b (nxF g n p) rs = if kF' g n (nxF g n p) = 9 then rowN g n b 9 10 4000 (nxF g n (nxF g n p)) 1 rs
        else if kF' g n (nxF g n p) = 11 then rowN g n b 11 12 4000 (nxF g n (nxF g n p)) 1 rs
        else if kF' g n (nxF g n p) = 4 then (e3F g n (nxF g n p), rs ++ [(nxF g n p, e3F g n (nxF g n p), mF g n (nxF g n p))])
        else (eF g n (nxF g n p), rs) := rfl
      have vo := valF_ok hB 0 hnx hq (rs := rs) (by omega)
      rw [g1, t1, R1.1]
      generalize hq' : nxF g n p = q at *
      generalize hV : valF g n b q rs = V at *
      -- the pair is kept
      have k284 : ∀ K, Fr prS I K → MR K V.2 → K 312 31 = V.1 → ML K (lnL g n ps) → KY g n vv K (kyF g n l (ps ++ [(p, q, V.1, rs.length, V.2.length)])) →
          RV 99 284 [vR (some 312), vJ, vJ, vJ, vI p, vJ, vI (b2i (isF g n p (eF g n p) (zstr 20))), vJ, vJ, vJ, vJ, vJ, vJ, vJ] [] e K D Q := by
        intro K fK RK aK LK KK
        refine S99_284 he ⟨fun u => hY K fK ⟨RK, ?_, KK⟩ aK, fun u => ?_⟩
        · have u : tx g n p 20 = false := b2i_0.mp u
          have : lnL g n [(p, q, V.1, rs.length, V.2.length)] = [] := by simp [lnL, u]
          rw [lnL_app, this, List.append_nil]; exact LK
        · have u : tx g n p 20 = true := b2i_n u
          have e1 : lnL g n [(p, q, V.1, rs.length, V.2.length)] = [(p, V.1, 0)] := by simp [lnL, u]
          rw [LK.1, aK]
          refine ⟨⟨by omega, by omega⟩, ⟨by omega, by omega⟩, ⟨by omega, by omega⟩, ?_⟩
          rw [Int.toNat_natCast]
          have f2 : Fr (fun a k => (a = 312 ∧ k = 42) ∨ a = 336 ∨ a = 337) K (uI (uI (uI K 336 (lnL g n ps).length p) 337 (lnL g n ps).length V.1) 312 42 (((lnL g n ps).length : Int) + 1)) :=
            ((Fr.u (S := fun a k => (a = 312 ∧ k = 42) ∨ a = 336 ∨ a = 337) (Or.inr (Or.inl rfl))).trans (Fr.u (S := fun a k => (a = 312 ∧ k = 42) ∨ a = 336 ∨ a = 337) (Or.inr (Or.inr rfl)))).trans (Fr.u (S := fun a k => (a = 312 ∧ k = 42) ∨ a = 336 ∨ a = 337) (Or.inl ⟨rfl, rfl⟩))
          refine hY _ (fK.trans (f2.mono fun a k q => by unfold prS; omega)) ⟨RK.fr f2 (by omega) (fun k => by omega), ⟨?_, fun i r hr => ?_⟩, KK.fr f2 (fun k a b => by omega)⟩ (by rw [f2 _ _ (by omega)]; exact aK)
          · rw [uI_eq, lnL_app, e1]; simp
          · rw [lnL_app, e1] at hr
            by_cases hi : i < (lnL g n ps).length
            · rw [List.getElem?_append_left hi] at hr
              have := LK.2 i r hr
              rw [uI_ne (by omega), uI_ne (by omega), uI_ne (by omega), uI_ne (by omega), uI_ne (by omega), uI_ne (by omega)]
              exact this
            · rw [List.getElem?_append_right (by omega)] at hr
              have hi2 : i = (lnL g n ps).length := by
                have := (List.getElem?_eq_some_iff.mp hr).1
                simp at this; omega
              subst hi2
              simp at hr
              subst hr
              simp [uI]
      have k185 : ∀ (J : HI) (ro al : Bool), Fr rwS I1 J → MR J V.2 → J 312 31 = V.1 → (ro || al) = raF g n q → al = (kF' g n q == 4) →
          RV 99 185 [vR (some 312), vJ, vJ, vJ, vI p, vI (b2i (isF g n p (eF g n p) l)), vI (b2i (isF g n p (eF g n p) (zstr 20))), vJ, vI q, vI (eF g n q), vI (rs.length : Int), vJ, vI (b2i ro), vI (b2i al)] [] e J D Q := by
        intro J ro al fJ RJ aJ hra hal
        have FJ : Fr prS I J := F1.trans (fJ.mono rwpr)
        have LJ : ML J (lnL g n ps) := L1.fr fJ (by simp [rwS]) (by simp [rwS])
        have KJ : KY g n vv J (kyF g n l ps) := K1.fr fJ (fun k u v => by unfold rwS; omega)
        refine S99_185 he ⟨fun u => k284 J FJ RJ aJ LJ ?_, fun u => ?_⟩
        · have u : askP g n l (p, q, V.1, rs.length, V.2.length) = false := b2i_0.mp u
          rw [kyF_app, u]; exact KJ
        · have u : askP g n l (p, q, V.1, rs.length, V.2.length) = true := b2i_n u
          have k258 : ∀ y y2 y3 : Int, y = (if raF g n q = true then -1 else mF g n q) → y2 = (if raF g n q = true then 0 else q) → y3 = (if raF g n q = true then 0 else eF g n q) →
              RV 99 258 [vR (some 312), vJ, vJ, vJ, vI p, vJ, vI (b2i (isF g n p (eF g n p) (zstr 20))), vJ, vJ, vJ, vI (rs.length : Int), vJ, vJ, vI (b2i al)] [vI y3, vR (some 312)] e (uI (uI (uI J 312 45 1) 312 46 y) 312 47 y2) D Q := by
            intro y y2 y3 e1 e2 e3
            have c38 : (uI (uI (uI J 312 45 1) 312 46 y) 312 47 y2) 312 38 = (V.2.length : Int) := by
              rw [uI_ne (by omega), uI_ne (by omega), uI_ne (by omega)]; exact RJ.1
            have vl : 5 * ((0 + V.2.length : Nat) : Int) ≤ V.1 := vo.2.2.2
            have vb : V.1 ≤ b := vo.2.1
            refine S99_258 he ?_
            rw [c38]
            refine ⟨b2i_01 al, ⟨by omega, by omega⟩, k284 _ ?_ ?_ ?_ ?_ ?_⟩
            · refine FJ.trans (Fr.trans (Fr.trans (Fr.trans (Fr.u ?_) (Fr.u ?_)) (Fr.u ?_)) (Fr.trans (Fr.trans (Fr.u ?_) (Fr.u ?_)) (Fr.trans (Fr.u ?_) (Fr.u ?_)))) <;> (unfold prS; omega)
            · refine ⟨?_, fun i r hr => ?_⟩
              · simp [uI]; exact RJ.1
              · have := RJ.2 i r hr
                simp [uI]; exact this
            · simp [uI]; exact aJ
            · refine ⟨?_, fun i r hr => ?_⟩
              · simp [uI]; exact LJ.1
              · have := LJ.2 i r hr
                simp [uI]; exact this
            · rw [kyF_app, u, if_pos rfl]
              refine ⟨?_, ?_, ?_, ?_, ?_, ?_, ?_⟩
              · simp [uI]
              · simp [uI]; exact e1
              · simp [uI]; exact e2
              · simp [uI]; exact e3
              · simp [uI]; rw [hal]
              · simp [uI]
              · simp [uI]
          cases hro : ro with
          | true =>
            have ra : raF g n q = true := by rw [← hra, hro]; rfl
            rw [ra] at k258
            exact ⟨fun _ => S99_206 he (S99_218 he ⟨fun _ => S99_232 he (S99_238 he ⟨fun _ => S99_252 he (k258 _ _ _ rfl rfl rfl), fun v => absurd (by decide) v⟩), fun v => absurd (by decide) v⟩), fun v => absurd (by decide) v⟩
          | false =>
            refine ⟨fun v => absurd rfl v, fun _ => ⟨fun v => ?_, fun v => ?_⟩⟩
            · have v := b2i_0.mp v
              have ra : raF g n q = false := by rw [← hra, hro, v]; rfl
              rw [ra] at k258
              have fx : Fr cuS J J := Fr.refl
              have MJ : MoB g n s (uI J 312 45 1) := (hM.pr FJ).fr (S := fun a k => a = 312 ∧ k = 45) (Fr.u ⟨rfl, rfl⟩) (by omega) (fun k => by omega)
              refine m95 he MJ qb.1 (by omega) (by omega) ?_
              rw [← mF_tok (show q < n by omega) tk]
              rw [v] at k258 ⊢
              exact S99_218 he ⟨fun v => absurd rfl v, fun _ => ⟨fun _ => S99_238 he ⟨fun v => absurd rfl v, fun _ => ⟨fun _ => k258 _ _ _ rfl rfl rfl, fun v => absurd rfl v⟩⟩, fun v => absurd rfl v⟩⟩
            · have v := b2i_n v
              have ra : raF g n q = true := by rw [← hra, hro, v]; rfl
              rw [ra] at k258
              rw [v] at k258 ⊢
              exact S99_206 he (S99_218 he ⟨fun v => absurd rfl v, fun _ => ⟨fun v => absurd v (by decide), fun _ => S99_232 he (S99_238 he ⟨fun v => absurd rfl v, fun _ => ⟨fun v => absurd v (by decide), fun _ => S99_252 he (k258 _ _ _ rfl rfl rfl)⟩⟩)⟩⟩)
      have nbq := (nxF_bd (g := g) (show q ≤ n by omega)).2.2 (by omega)
      have hnq := hB.nx hnx hq
      have elq : eF g n q ≤ nxF g n q := (skp_bd (g := g) (show eF g n q ≤ n by omega)).1
      have clr : ∀ x : Int × RfL, V = x → P (skp g n x.1) → b = lim ∨ x.1 < b := by
        intro x hx hPx
        rcases hcl2 with c | c
        · exact Or.inl c
        · rw [hx] at c
          have : x.1 ≤ skp g n x.1 := (skp_bd (g := g) (by have := vo.2.1; rw [hx] at this; omega)).1
          exact Or.inr (by omega)
      have rowc : ∀ sq : Bool, kF' g n q = opk sq → RV 99 133 [vR (some 312), vJ, vJ, vJ, vI p, vI (b2i (isF g n p (eF g n p) l)), vI (b2i (isF g n p (eF g n p) (zstr 20))), vJ, vI q, vI (eF g n q), vI (rs.length : Int), vI (b2i sq), vJ, vJ] [] e I1 D Q := by
        intro sq hsq
        have hVr : V = rowN g n b (opk sq) (clk sq) 4000 (nxF g n q) 1 rs := by
          rw [hv]
          cases sq with
          | true =>
            have hs2 : kF' g n q = 11 := hsq
            rw [if_neg (by omega), if_pos hs2]; rfl
          | false =>
            have hs2 : kF' g n q = 9 := hsq
            rw [if_pos hs2]; rfl
        refine S99_133 he (S99_138 he ⟨fun u => absurd u (by decide), fun _ => S100 he (m100_2 he hB hb (sq := sq) 4000 (nxF g n q) 1 (eF g n q) rs I1 (by omega) hnq (by omega) (by omega) M1 l1 a1 (by omega) elq rfl R1 (by omega) ?_ fun J fJ RJ aJ => ?_)⟩)
        · rw [← hVr]; exact clr V rfl vo.2.2.1
        · rw [← hVr] at RJ aJ
          refine k185 J true false fJ RJ aJ ?_ ?_
          · cases sq <;> (unfold opk at hsq; simp at hsq; simp [raF, hsq])
          · cases sq <;> (unfold opk at hsq; simp at hsq; simp [hsq])
      refine m94 he M1 wok_ro rfl qb.1 (by omega) (by omega) (by omega) ⟨fun u => ?_, fun u => ?_⟩
      · have u := b2i_n u
        rw [u]
        exact rowc true (kr.1.mp u)
      · have u := b2i_0.mp (Decidable.not_not.mp u)
        have n11 : kF' g n q ≠ 11 := fun x => by rw [kr.1.mpr x] at u; cases u
        refine m94 he M1 wok_op rfl qb.1 (by omega) (by omega) (by omega) ⟨fun x => ?_, fun x => ?_⟩
        · have x := b2i_0.mp x
          have n9 : kF' g n q ≠ 9 := fun y => by rw [ko.mpr y] at x; cases x
          have pf := prf hB hb hnx hq
          rw [if_neg n9, if_neg n11] at hv
          refine S99_138 he ⟨fun _ => m96 he M1 qb.1 (by omega) (by omega) l1 a1 (by omega) (by omega) hb2 fun I2 f2 a2 => ⟨fun y => ?_, fun y => ?_⟩, fun y => absurd rfl y⟩
          · have y := b2i_0.mp y
            have n4 : kF' g n q ≠ 4 := fun z => by rw [pf.1.mpr z] at y; cases y
            rw [if_neg n4] at hv
            rw [y] at a2
            exact k185 I2 false false (f2.mono curw) (by rw [hv]; exact R1.cu f2) (by rw [hv]; exact a2) (by simp [raF, n9, n11, n4]) (by simp [n4])
          · have h4 := pf.1.mp (b2i_n y)
            rw [if_pos h4] at hv
            rw [b2i_n y, if_pos rfl, pf.2 h4] at a2
            have M2 := M1.cu f2
            refine m95 he M2 qb.1 (by omega) (by omega) ?_
            rw [← mF_tok (show q < n by omega) tk]
            refine m97 he (R1.cu f2) (by omega) a2 fun I3 f3 R3 => ?_
            exact k185 I3 false true ((f2.mono curw).trans (f3.mono rfrw)) (by rw [hv]; exact R3) (by rw [hv, f3 _ _ (by simp [rfS])]; exact a2) (by simp [raF, h4]) (by simp [h4])
        · have x := b2i_n x
          have := rowc false (ko.mp x)
          rw [u]; exact this
    · have h10 := kc.mp (b2i_n z)
      have f2 : Fr cuS I (uI I1 312 31 (eF g n p)) := f1.trans (Fr.u ⟨rfl, Or.inl rfl⟩)
      exact hN (fun q => q.1 h10) _ (f2.mono cupr) ⟨hR.cu f2, hLn.fr f2 (by simp [cuS]) (by simp [cuS]), hK.fr f2 (fun k u v => by unfold cuS; omega)⟩ (by rw [uI_eq]; omega) (by rw [uI_eq]; exact el) (by rw [uI_eq]; rfl)
end
