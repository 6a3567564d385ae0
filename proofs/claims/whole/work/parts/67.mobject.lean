/-! the model reads an object's dictionary: readOf, kindOf, keyReference, pagesOf -/
section
variable {g : Int → Int} {n : Int}
theorem en_9 {p0 : Int} (h1 : p0 ≤ n) (k9 : kF' g n p0 = 9) : onW g n (enS g n) (enW g n p0) (nxF g n p0) → p0 < enW g n p0 := by
  intro hP
  have nb := (nxF_bd (g := g) h1)
  have := wW_bd (S := enS g n) hP.1.2 hP.2.1
  rw [hP.2.2] at this
  have := nb.2.2 (kF_9 k9).1
  omega
theorem on_9 {p0 : Int} (h0 : 0 ≤ p0) (h1 : p0 ≤ n) (k9 : kF' g n p0 = 9) : onW g n (enS g n) (enW g n p0) (nxF g n p0) := by
  have nb := nxF_bd (g := g) h1
  have k := kF_9 k9
  have ns : enS g n p0 = false := by unfold enS; rw [k9]; rfl
  exact ⟨⟨by omega, nb.2.1⟩, skp_skp (eF_bd (g := g) h1).2.1, (wW_go (fun w => by rcases w with w | w; rw [ns] at w; cases w; omega)).symm⟩
/-- behind the dictionary the walk goes on to the same end, on the same path -/
theorem dR_on {p0 : Int} (h0 : 0 ≤ p0) (h1 : p0 ≤ n) (hs : skp g n p0 = p0) : onW g n (enS g n) (enW g n p0) (skp g n (dR g n p0).1) ∧ Pth g n p0 (skp g n (dR g n p0).1) := by
  unfold dR
  split
  · rename_i k9
    have hB := (Bd_en (g := g) h1 hs).pth (p0 := p0)
    have hP := on_9 h0 h1 k9
    have nb := nxF_bd (g := g) h1
    exact (dic_le hB 4000 (nxF g n p0) [] [] ⟨hP, Pth.refl.nx⟩ (by simp; omega)).2.2.1
  · show onW g n (enS g n) (enW g n p0) (skp g n p0) ∧ Pth g n p0 (skp g n p0)
    rw [hs]
    exact ⟨⟨⟨h0, h1⟩, hs, rfl⟩, Pth.refl⟩
theorem obE_1 {h : Int} (h0 : 0 ≤ h) (h1 : h ≤ n) (hk : kF' g n h = 5) (hS : obS g n h = false) : obE g n h = enW g n (obP g n h) := by
  have b := ob_bd h0 h1 hk
  have o := dR_on (g := g) (n := n) (p0 := obP g n h) (by omega) b.1.2.2.1 b.1.2.2.2
  have e2 : ob2 g n h = ob1 g n h := if_neg (by rw [hS]; decide)
  unfold obE
  rw [e2]
  exact o.1.2.2
theorem tx_st {q : Int} (hq : q < n) (ht : tx g n q 23 = true) : tkc (g q) ∧ mF g n q < 0 ∧ tx g n q 10 = false ∧ kF' g n q = 2 := by
  have hz : zstr 23 = [115, 116, 114, 101, 97, 109] := by decide
  have gq : g q = 115 := by
    unfold tx isF stF at ht
    rw [hz] at ht
    simp only [Bool.and_eq_true, mat, beq_iff_eq] at ht
    exact ht.2.2.1
  have tk : tkc (g q) := by rw [gq]; exact ⟨by decide, by decide⟩
  have m : mF g n q < 0 := by
    rw [mF_tok hq tk]
    have e1 := tx_len ht
    have e2 : (zstr 23).length = 6 := by decide
    unfold nuF
    rw [e1, e2, if_neg (by omega), show (q + ((6 : Nat) : Int) - q).toNat = 5 + 1 by omega]
    unfold nuN
    rw [if_pos (by rw [gq]; omega)]
    omega
  refine ⟨tk, m, tx_no ht (by decide), ?_⟩
  have t1 := tk.1
  have t2 := tk.2
  unfold kF'
  rw [if_neg (by omega), if_neg (by omega)]
  unfold ksF
  rw [if_pos (by rw [gq]; decide), if_neg (by rw [tx_no ht (by decide)]; decide), if_neg (by rw [tx_no ht (by decide)]; decide)]
theorem obS_facts {h : Int} (hS : obS g n h = true) : (dR g n (obP g n h)).2.1 = true ∧ tx g n (ob1 g n h) 23 = true ∧ gb g n (eF g n (ob1 g n h)) = 10 ∧ kF' g n (obP g n h) = 9 := by
  unfold obS at hS
  simp only [Bool.and_eq_true, beq_iff_eq] at hS
  refine ⟨hS.1, hS.2.1, hS.2.2, ?_⟩
  have := hS.1
  unfold dR at this
  split at this
  · assumption
  · cases this
theorem mF_ge {p : Int} : -1 ≤ mF g n p := by
  have gen : ∀ (k : Nat) (q v : Int), 0 ≤ v → -1 ≤ nuN g k q v := by
    intro k
    induction k with
    | zero => intro q v hv; show -1 ≤ v; omega
    | succ k ih =>
      intro q v hv
      unfold nuN
      split
      · omega
      · exact ih _ _ (by omega)
  unfold mF
  split
  · omega
  · unfold nuF
    split
    · omega
    · exact gen _ _ _ (Int.le_refl _)
theorem mF_row {v : Int} (h : kF' g n v = 9 ∨ kF' g n v = 11) (hv : v ≤ n) : mF g n v = -1 := by
  have a := mF_ge (g := g) (n := n) (p := v)
  rcases Int.lt_or_le (mF g n v) 0 with q | q
  · omega
  · have r := mF_reg q hv
    have := kF_word r.1 r.2
    omega
theorem tx_name {v : Int} {k : Nat} (hk : k = 16 ∨ k = 17 ∨ k = 18) (h : tx g n v k = true) : kF' g n v = 8 := by
  have h0 : 0 ≤ v ∧ v < n ∧ g v = 47 := by
    unfold tx isF stF at h
    simp only [Bool.and_eq_true, decide_eq_true_eq] at h
    have e16 : zstr 16 = [47, 67, 97, 116, 97, 108, 111, 103] := by decide
    have e17 : zstr 17 = [47, 80, 97, 103, 101, 115] := by decide
    have e18 : zstr 18 = [47, 80, 97, 103, 101] := by decide
    rcases hk with rfl | rfl | rfl
    · rw [e16] at h; simp only [mat, Bool.and_eq_true, beq_iff_eq, List.length_cons, List.length_nil] at h; exact ⟨h.2.1.1, by omega, h.2.2.1⟩
    · rw [e17] at h; simp only [mat, Bool.and_eq_true, beq_iff_eq, List.length_cons, List.length_nil] at h; exact ⟨h.2.1.1, by omega, h.2.2.1⟩
    · rw [e18] at h; simp only [mat, Bool.and_eq_true, beq_iff_eq, List.length_cons, List.length_nil] at h; exact ⟨h.2.1.1, by omega, h.2.2.1⟩
  exact (k_name h0.2.1 (by rw [h0.2.2]; exact ⟨by decide, by decide⟩)).mp h0.2.2
theorem wok_typ : WOK 435678696495 (zstr 15) := ⟨by decide, by decide⟩
theorem wok_cat : WOK 7453295074141618991 (zstr 16) := ⟨by decide, by decide⟩
theorem wok_pgs : WOK 126879363321903 (zstr 17) := ⟨by decide, by decide⟩
theorem wok_pag : WOK 435526127663 (zstr 18) := ⟨by decide, by decide⟩
theorem wok_kid : WOK 495605861167 (zstr 19) := ⟨by decide, by decide⟩
theorem wok_roo : WOK 500085772847 (zstr 21) := ⟨by decide, by decide⟩
theorem wok_siz : WOK 435845419823 (zstr 22) := ⟨by decide, by decide⟩
theorem wok_0 : WOK 0 [] := ⟨by decide, by decide⟩
/-- the pairs of an object's dictionary -/
theorem dPr_ok {i : Nat} {f : FR} (ho : OK1 g n i f) : (∀ pr ∈ dPr g n f, (0 ≤ pr.2.1 ∧ pr.2.1 < n ∧ tkc (g pr.2.1)) ∧ (kF' g n pr.2.1 = 4 → (dRs g n f)[pr.2.2.2.1]? = some (pr.2.1, e3F g n pr.2.1, mF g n pr.2.1))) ∧ 5 * ((dRs g n f).length : Int) ≤ n := by
  have bd := ho.bd.2.2.2.2
  have dk := dR_ok (g := g) (n := n) bd.1 bd.2.1 bd.2.2 (r0 := 0) (l0 := 0) (by omega) (by omega)
  refine ⟨?_, by have : ((0 + (dR g n (skp g n f.2.1)).2.2.2.length : Nat) : Int) = ((dRs g n f).length : Int) := by rw [Nat.zero_add]; rfl
                 omega⟩
  unfold dPr dRs dR
  split
  · rename_i k9
    have hB := Bd_en (g := g) bd.2.1 bd.2.2
    have hP := on_9 bd.1 bd.2.1 k9
    have nb := nxF_bd (g := g) bd.2.1
    intro pr hpr
    have p := dic_pr hB 4000 (nxF g n (skp g n f.2.1)) [] [] hP (by simp; omega) (fun pr h => by cases h) pr hpr
    have pb := (hB.2 pr.2.1 p.1).1
    have := hB.1
    exact ⟨⟨pb.1, by have := p.2.1; omega, skp_tk (by have := p.2.1; omega) pb.2.2⟩, p.2.2⟩
  · intro pr hpr; cases hpr
end
section
variable {e : En} {g : Int → Int} {n : Int} {d : Nat} {I : HI} {D : HD}
theorem m104 (he : HS e) (hM : MoB g n (d : Int) I) {s : SC} (hS : MM d I s) {i : Nat} {f : FR} (hfi : s.1 i = some f) (ho : OK1 g n i f) {w m : Int} {l : List Nat} (hw : WOK w l) (hm : m = l.length) {Q : HI → HD → Prop}
    (hQ : ∀ I', Fr diS I I' → MD g n l (I 312 51) I' (dPr g n f) (dRs g n f) → (kF' g n (skp g n f.2.1) = 9 → I' 312 36 = eF g n (skp g n f.2.1)) → I' 312 37 = (if (dR g n (skp g n f.2.1)).2.1 = true then (dR g n (skp g n f.2.1)).1 else -1) → Q I' D) :
    CV 104 [vR (some 312), vI (i : Int), vL w, vI m] e I D Q := by
  have bi := ho.bd.1
  obtain ⟨m4, hd, -, h0n, h3n⟩ := hM.sd
  have mo := hS.1 i bi.1 (by omega)
  rw [hfi] at mo
  obtain ⟨-, -, z18, z19, -, z21, -⟩ := mo
  obtain ⟨h, h0, h1, hs, hk, hmF, rfl, hc⟩ := ho
  obtain ⟨⟨b1, b2, b3, b4⟩, ⟨b5, b6⟩, ⟨b7, b8, b9⟩, b10, ⟨b11, b12, b13⟩, ⟨b14, b15, b16⟩, b17, b18, b19⟩ := ob_bd h0 h1 hk
  have eP : skp g n (obF g n h).2.1 = obP g n h := rfl
  have eD : dPr g n (obF g n h) = (dR g n (obP g n h)).2.2.1 := rfl
  have eR : dRs g n (obF g n h) = (dR g n (obP g n h)).2.2.2 := rfl
  have hB := Bd_en (g := g) b3 b4
  have hP0 : onW g n (enS g n) (enW g n (obP g n h)) (obP g n h) := ⟨⟨by omega, b3⟩, b4, rfl⟩
  rw [eP, eD, eR] at hQ
  refine S104 he (m102 he m4 hd (by omega) (by omega) ?_)
  rw [Int.toNat_natCast, Int.toNat_natCast, z18, z19, z21]
  cases hS' : obS g n h with
  | true =>
    have sf := obS_facts hS'
    have dt : dtF (obF g n h) = obD g n h := by
      show (if obS g n h = true then (if obS g n h = true then obD g n h else 0) else -1) = _
      rw [if_pos hS', if_pos hS']
    rw [dt]
    have bS := b10 hS'
    have l6 : (zstr 23).length = 6 := by decide
    have el := tx_len sf.2.1
    have st := tx_st (by omega) sf.2.1
    have on := dR_on (g := g) (n := n) (p0 := obP g n h) (by omega) b3 b4
    have hB2 := Bd_st (g := g) (n := n) (p0 := obP g n h) b8 sf.2.1
    have hP2 := Bd_st0 (g := g) (n := n) (p0 := obP g n h) (by omega) b3 b4 on.2
    have nb := nxF_bd (g := g) b3
    have hP9 := on_9 (by omega) b3 sf.2.2.2
    have e9 : dR g n (obP g n h) = dicN g n (enW g n (obP g n h)) 4000 (nxF g n (obP g n h)) [] [] := if_pos sf.2.2.2
    have en3 : enW g n (obP g n h) ≤ 3000 := by have := hB.1; omega
    have pre := dic_pre (b2 := ob1 g n h) hB en3 4000 (nxF g n (obP g n h)) [] [] hP9 (by simp; omega) (by rw [← e9]; exact sf.1) (by rw [← e9]; exact b7)
    rw [← e9] at pre
    have k9b := kF_9 sf.2.2.2
    have plt : obP g n h < ob1 g n h := by
      have dl := dic_le hB 4000 (nxF g n (obP g n h)) [] [] hP9 (by simp; omega)
      rw [← e9] at dl
      have := nb.2.2 k9b.1
      omega
    refine ⟨⟨by omega, by omega⟩, ⟨by omega, by omega⟩, fun _ => ⟨⟨by omega, by omega⟩, S104_42 he ?_⟩, fun q => by omega⟩
    refine m98 he hB2 (lim := obD g n h) ⟨by omega, by omega, Or.inr ⟨by omega, st.1, by unfold obD; omega, st.2.1, st.2.2.1⟩⟩ hw hm hM (x := e3F g n h) (p := obP g n h) (by omega) b2 rfl hP2 (Or.inr ⟨plt, sf.2.2.2, by rw [pre]; exact sf.1⟩) (fun q => absurd ⟨plt, sf.2.2.2⟩ q) fun _ I' f' M' t1 t2 t3 => ?_
    rw [pre] at M' t3
    exact hQ I' f' M' (fun _ => t2) t3
  | false =>
    have dt : dtF (obF g n h) = -1 := by
      show (if obS g n h = true then (if obS g n h = true then obD g n h else 0) else -1) = _
      rw [if_neg (by rw [hS']; decide)]
    rw [dt]
    have eE : (obF g n h).2.2.1 = enW g n (obP g n h) := obE_1 h0 h1 hk hS'
    rw [eE]
    refine ⟨⟨by omega, by omega⟩, ⟨by omega, by omega⟩, fun q => by omega, fun _ => ⟨⟨by omega, by omega⟩, S104_42 he ?_⟩⟩
    refine m98 he hB (lim := enW g n (obP g n h)) ⟨Int.le_refl _, hB.1, Or.inl rfl⟩ hw hm hM (x := e3F g n h) (p := obP g n h) (by omega) b2 rfl hP0 (Or.inl rfl) (fun q I' f' M' t1 t2 => ?_) fun q I' f' M' t1 t2 t3 => ?_
    · have k9 : ¬ kF' g n (obP g n h) = 9 := fun w => q ⟨en_9 b3 w (on_9 (by omega) b3 w), w⟩
      have e9 : dR g n (obP g n h) = (obP g n h, false, [], []) := if_neg k9
      rw [e9] at hQ
      exact hQ I' f' M' (fun w => absurd w k9) t2
    · have e9 : dR g n (obP g n h) = dicN g n (enW g n (obP g n h)) 4000 (nxF g n (obP g n h)) [] [] := if_pos q.2
      rw [← e9] at M' t3
      exact hQ I' f' M' (fun _ => t2) t3
theorem isF_00 {l : List Nat} (h : l ≠ []) : isF g n 0 0 l = false := by
  unfold isF
  have : decide ((0 : Int) - 0 = (l.length : Int)) = false := decide_eq_false fun q => h (List.length_eq_zero_iff.mp (by omega))
  rw [this]; rfl
theorem m101 (he : HS e) {l : List Nat} {vv : Int} {ps : PrL} {rs : RfL} (hD : MD g n l vv I ps rs) (hps : ∀ pr ∈ ps, kF' g n pr.2.1 = 4 → rs[pr.2.2.2.1]? = some (pr.2.1, e3F g n pr.2.1, mF g n pr.2.1)) (hl : rs.length ≤ 700) {Q : Int → HI → HD → Prop} (hQ : Q (kyR g n l ps) I D) : CI 101 [vR (some 312)] e I D Q := by
  unfold kyR at hQ
  obtain ⟨hR, -, hK⟩ := hD
  refine S101 he ?_
  cases hk : kyF g n l ps with
  | none =>
    rw [hk] at hQ hK
    have hK : I 312 45 = 0 := hK.1
    exact ⟨fun _ => hQ, fun q => absurd hK q⟩
  | some pr =>
    rw [hk] at hQ hK
    obtain ⟨a1, a2, a3, a4, a5, a6, a7⟩ := hK
    have hQ : Q (fRf g n pr) I D := hQ
    unfold fRf at hQ
    rw [a1, a5, a6]
    refine ⟨fun q => by omega, fun _ => ⟨fun q => ?_, fun q => ?_⟩⟩
    · have : ¬ kF' g n pr.2.1 = 4 := by have := b2i_0.mp q; simpa using this
      rw [if_neg this] at hQ; exact hQ
    · have k4 : kF' g n pr.2.1 = 4 := by have := b2i_n q; simpa using this
      have hr := hps pr (ky_mem hk) k4
      have hlt := (List.getElem?_eq_some_iff.mp hr).1
      rw [if_pos k4] at hQ
      refine ⟨⟨by omega, by omega⟩, ?_⟩
      rw [Int.toNat_natCast, (hR.2 _ _ hr).2.2]; exact hQ
theorem m105b (he : HS e) (hM : MoB g n (d : Int) I) {s : SC} (hS : MM d I s) (hok : OKS g n s.1) {x : Int} {Q : Int → HI → HD → Prop} (hQ : ∀ I', Fr diS I I' → (kdO g n (obO s.1 x) ≠ 0 → 0 ≤ I' 312 51 ∧ I' 312 51 ≤ 1000) → Q (kdO g n (obO s.1 x)) I' D) : CI 105 [vR (some 312), vI x] e I D Q := by
  obtain ⟨m4, hd, -, h0n, h3n⟩ := hM.sd
  refine S105 he (m103 he m4 hd hS ⟨fun q => ?_, fun q => ?_⟩)
  · obtain ⟨f, hf⟩ : ∃ f, obO s.1 x = some f := by
      cases c : obO s.1 x with
      | none => rw [c] at q; exact absurd rfl q
      | some f => exact ⟨f, rfl⟩
    have hx : (1 ≤ x ∧ x < 61) ∧ s.1 x.toNat = some f := by
      unfold obO at hf
      split at hf
      · exact ⟨by assumption, hf⟩
      · cases hf
    have ex : x = (x.toNat : Int) := by omega
    have ho := hok x.toNat f hx.2
    have pk := dPr_ok ho
    rw [hf] at hQ
    have hQ : ∀ I', Fr diS I I' → (kdF g n f ≠ 0 → 0 ≤ I' 312 51 ∧ I' 312 51 ≤ 1000) → Q (kdF g n f) I' D := hQ
    unfold kdF at hQ
    rw [ky_3] at hQ
    rw [ex]
    refine m104 he hM hS hx.2 ho wok_typ rfl fun I1 f1 M1 _ _ => ?_
    have hM1 := hM.di f1
    obtain ⟨-, -, hK⟩ := M1
    cases hk : kyF g n (zstr 15) (dPr g n f) with
    | none =>
      rw [hk] at hQ hK
      have hK : I1 312 45 = 0 := hK.1
      exact ⟨fun w => absurd hK w, fun _ => hQ I1 f1 (fun w => absurd rfl w)⟩
    | some pr =>
      rw [hk] at hQ hK
      obtain ⟨a1, a2, a3, a4, a5, a6, a7⟩ := hK
      have ix := dR_ix (g := g) (n := n) pr (ky_mem hk)
      have ix1 : pr.2.2.2.1 ≤ pr.2.2.2.2 := ix.1
      have ix2 : pr.2.2.2.2 ≤ (dRs g n f).length := ix.2
      have r5 := pk.2
      have hQ : Q (fKd g n pr) I1 D := hQ I1 f1 (fun _ => by rw [a7]; omega)
      have pp := (pk.1 pr (ky_mem hk)).1
      have eb := eF_bd (g := g) (show pr.2.1 ≤ n by omega)
      refine ⟨fun _ => ?_, fun w => absurd a1 (fun v => by have := Decidable.not_not.mp w; omega)⟩
      have e1 : ∀ k, (k = 16 ∨ k = 17 ∨ k = 18) → isF g n (I1 312 47) (I1 312 48) (zstr k) = tx g n pr.2.1 k := by
        intro k hk3
        rw [a3, a4]
        cases hra : raF g n pr.2.1 with
        | true =>
          have nz : zstr k ≠ [] := by rcases hk3 with rfl | rfl | rfl <;> decide
          rw [if_pos rfl, if_pos rfl, isF_00 nz]
          cases ht : tx g n pr.2.1 k with
          | false => rfl
          | true =>
            have k8 := tx_name hk3 ht
            unfold raF at hra
            rw [k8] at hra
            revert hra; decide
        | false => rfl
      have r47 : (0 ≤ I1 312 47 ∧ I1 312 47 ≤ 3000) ∧ (0 ≤ I1 312 48 ∧ I1 312 48 ≤ 3000) := by
        rw [a3, a4]
        split <;> omega
      refine m94 he hM1 wok_cat (by decide) r47.1.1 r47.1.2 r47.2.1 r47.2.2 ?_
      rw [e1 16 (by omega)]
      unfold fKd at hQ
      refine ⟨fun q1 => m94 he hM1 wok_pgs (by decide) r47.1.1 r47.1.2 r47.2.1 r47.2.2 ?_, fun q1 => ?_⟩
      · rw [e1 17 (by omega)]
        rw [if_neg (by rw [b2i_0.mp q1]; decide)] at hQ
        refine ⟨fun q2 => m94 he hM1 wok_pag (by decide) r47.1.1 r47.1.2 r47.2.1 r47.2.2 ?_, fun q2 => ?_⟩
        · rw [e1 18 (by omega)]
          rw [if_neg (by rw [b2i_0.mp q2]; decide)] at hQ
          refine ⟨fun q3 => ?_, fun q3 => ?_⟩
          · rw [if_neg (by rw [b2i_0.mp q3]; decide)] at hQ; exact hQ
          · rw [if_pos (b2i_n q3)] at hQ; exact hQ
        · rw [if_pos (b2i_n q2)] at hQ; exact hQ
      · rw [if_pos (b2i_n q1)] at hQ; exact hQ
  · have q' := Decidable.not_not.mp q
    have : obO s.1 x = none := by
      cases c : obO s.1 x with
      | none => rfl
      | some f => rw [c] at q'; cases q'
    rw [this] at hQ
    exact hQ I Fr.refl (fun w => absurd rfl w)
theorem m105 (he : HS e) (hM : MoB g n (d : Int) I) {s : SC} (hS : MM d I s) (hok : OKS g n s.1) {x : Int} {Q : Int → HI → HD → Prop} (hQ : ∀ I', Fr diS I I' → Q (kdO g n (obO s.1 x)) I' D) : CI 105 [vR (some 312), vI x] e I D Q :=
  m105b he hM hS hok fun I' f' _ => hQ I' f'
theorem m113 (he : HS e) (hM : MoB g n (d : Int) I) {s : SC} (hS : MM d I s) (hok : OKS g n s.1) {i : Nat} {f : FR} (hfi : s.1 i = some f) {Q : Int → HI → HD → Prop} (hQ : ∀ I', Fr diS I I' → Q (pgR g n f) I' D) : CI 113 [vR (some 312), vI (i : Int)] e I D Q := by
  obtain ⟨m4, hd, -, h0n, h3n⟩ := hM.sd
  have ho := hok i f hfi
  have pk := dPr_ok ho
  refine S113 he (m104 he hM hS hfi ho wok_pgs rfl fun I1 f1 M1 _ _ => m101 he M1 (fun pr h => (pk.1 pr h).2) (by have := pk.2; omega) ?_)
  have := hQ I1 f1
  unfold pgR at this
  rw [ky_4] at this
  exact this
end
