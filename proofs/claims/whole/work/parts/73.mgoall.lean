/-! RepairScanModel.go, all -/
section
variable {e : En} {g : Int → Int} {n : Int} {d : Nat} {D : HD}
theorem mph1 (he : HS e) {h : Int} (h0 : 0 ≤ h) (h1 : h ≤ n) (hk5 : kF' g n h = 5) {s : SC} (hcap : s.2.1.length + 3 < 2000) (hcap2 : s.2.2.1.length < 800) {Q : HI → HD → Prop} (k : Nat) : ∀ (q a f ft l lt : Int) (I : HI), GS g n d I a q f ft l lt → onW g n (enS g n) (enW g n (obP g n h)) q → Pth g n (obP g n h) q → lbE g n h q lt → JV g n f l q → MM d I s → OPN I (mF g n h) h (e3F g n h) (-1) 0 true → (obS g n h = true → q ≤ ob1 g n h) → (n - q).toNat ≤ k →
    (obS g n h = false → ∀ I' a f ft l lt, Fr (mgS d) I I' → GS g n d I' a (enW g n (obP g n h)) f ft l lt → JV g n f l (enW g n (obP g n h)) → MM d I' s → OPN I' (mF g n h) h (e3F g n h) (-1) 0 true → RV 111 27 [vR (some 312), vI f, vI ft, vI l, vI lt, vJ, vJ, vJ] [] e I' D Q) →
    (obS g n h = true → 0 ≤ obY g n h → ∀ I' a f ft l lt, Fr (mgS d) I I' → GS g n d I' a (ob2 g n h) f ft l lt → JV g n f l (ob2 g n h) → MM d I' (s.1, s.2.1 ++ obM g n h, s.2.2) → OPE g n I' h → RV 111 27 [vR (some 312), vI f, vI ft, vI l, vI lt, vJ, vJ, vJ] [] e I' D Q) →
    (obS g n h = true → ¬ 0 ≤ obY g n h → ∀ I' a f ft l lt, Fr (mgS d) I I' → GS g n d I' a n f ft l lt → JV g n f l n → MM d I' (obX g n h s) → I' 312 25 = 0 → RV 111 27 [vR (some 312), vI f, vI ft, vI l, vI lt, vJ, vJ, vJ] [] e I' D Q) →
    RV 111 27 [vR (some 312), vI f, vI ft, vI l, vI lt, vJ, vJ, vJ] [] e I D Q := by
  obtain ⟨⟨b1, b2, b3, b4⟩, ⟨b5, b6⟩, ⟨b7, b8, b9⟩, b10, ⟨b11, b12, b13⟩, -⟩ := ob_bd h0 h1 hk5
  have hd5 := hd_5 h1 hk5
  have on1 := dR_on (g := g) (n := n) (p0 := obP g n h) (by omega) b3 b4
  -- with a stream the walk comes to its word first
  have o1E : obS g n h = true → ob1 g n h < enW g n (obP g n h) := by
    intro w
    have st := tx_st (show ob1 g n h < n by have := b10 w; omega) (obS_facts w).2.1
    have : enS g n (ob1 g n h) = false := by unfold enS; rw [st.2.2.2]; rfl
    exact (on_nx on1.1 this).2.1
  have e1 : ∀ (q a f ft l lt : Int) (I : HI), q = enW g n (obP g n h) → GS g n d I a q f ft l lt → JV g n f l q → MM d I s → OPN I (mF g n h) h (e3F g n h) (-1) 0 true → (obS g n h = true → q ≤ ob1 g n h) →
      (obS g n h = false → ∀ I' a f ft l lt, Fr (mgS d) I I' → GS g n d I' a (enW g n (obP g n h)) f ft l lt → JV g n f l (enW g n (obP g n h)) → MM d I' s → OPN I' (mF g n h) h (e3F g n h) (-1) 0 true → RV 111 27 [vR (some 312), vI f, vI ft, vI l, vI lt, vJ, vJ, vJ] [] e I' D Q) → RV 111 27 [vR (some 312), vI f, vI ft, vI l, vI lt, vJ, vJ, vJ] [] e I D Q := by
    intro q a f ft l lt I hq hG hJ hS hO h1' hE
    cases w : obS g n h with
    | true => have := o1E w; have := h1' w; omega
    | false => subst hq; exact hE w I a f ft l lt Fr.refl hG hJ hS hO
  induction k with
  | zero =>
    intro q a f ft l lt I hG hon hP hlt hJ hS hO h1' hk hE hB1 hB2
    have pl := hG.pl
    exact e1 q a f ft l lt I (on_st hon (enS_n (by omega))) hG hJ hS hO h1' hE
  | succ k ih =>
    intro q a f ft l lt I hG hon hP hlt hJ hS hO h1' hk hE hB1 hB2
    have pl := hG.pl
    cases hs : enS g n q with
    | true => exact e1 q a f ft l lt I (on_st hon hs) hG hJ hS hO h1' hE
    | false =>
      have nx := on_nx hon hs
      have nk := en_no hs
      have tk := pl.2.2.2.1 nx.1
      have ke := k_end nx.1 tk
      obtain ⟨hM, ⟨g1, g2, g3, g4, g5⟩, hF, hL, hFL⟩ := id hG
      have nb := (nxF_bd (g := g) pl.2.1).2.2 nx.1
      refine m111_tok he hM g1 g2 g3 g4 g5 hF (fun q => by omega) fun _ I1 f1 a31 a33 => ?_
      have i32 : I1 312 32 = n := by rw [f1 _ _ (fun q => by unfold cuS at q; omega)]; exact g1
      have hM1 := hM.cu f1
      have S1 := hS.cu f1
      have O1 := hO.fr f1 (fun k q1 q2 q => by unfold cuS at q; omega)
      have F1 : Fr (mgS d) I I1 := f1.mono cumg
      -- one token further
      have go : ¬ (obS g n h = true ∧ q = ob1 g n h) → ∀ I2, Fr (mgS d) I I2 → MoB g n (d : Int) I2 → I2 312 31 = eF g n q → I2 312 32 = n → MM d I2 s → OPN I2 (mF g n h) h (e3F g n h) (-1) 0 true → RV 111 27 [vR (some 312), vI l, vI lt, vI q, vI (eF g n q), vJ, vJ, vJ] [] e I2 D Q := by
        intro hno I2 f2 hM2 b31 b32 S2 O2
        exact ih (nxF g n q) (eF g n q) l lt q (eF g n q) I2 (hG.nxt nx.1 hM2 b32 b31) nx.2.2 hP.nx (Or.inr ⟨q, hP, nb, rfl, rfl⟩) (JV_step hJ pl.1 nx.1 tk nk.2.1) S2 O2 (fun w => path_le b3 hP on1.2 (by have := h1' w; have : q ≠ ob1 g n h := fun v => hno ⟨w, v⟩; show q < ob1 g n h; omega)) (by omega)
          (fun w I' a f ft l lt f' => hE w I' a f ft l lt (f2.trans f')) (fun w v I' a f ft l lt f' => hB1 w v I' a f ft l lt (f2.trans f')) (fun w v I' a f ft l lt f' => hB2 w v I' a f ft l lt (f2.trans f'))
      refine m111_60 he hM1 hL hFL pl.1 nx.1 (fun q => absurd q hJ.1) (fun _ q _ => absurd (ke.1.mp q) nk.2.2.1) (fun _ q => absurd (ke.2.mp q) nk.2.2.2) (fun _ t23 _ => ?_) fun _ _ _ n23 => go (fun w => n23 ⟨by rw [w.2]; exact (obS_facts w.1).2.1, by rw [O1.1]; omega⟩) I1 F1 hM1 a31 i32 S1 O1
      have st := tx_st nx.1 t23
      have lq : lbM g n q < 0 := by rw [lbM_0 pl.1]; exact st.2.1
      have LBq : LB g n q (eF g n q) := Or.inr ⟨pl.1, nx.1, tk, rfl⟩
      refine m110 he hM1 h0 h1 hk5 S1 O1 i32 a31 hP nx.1 t23 (by omega) hlt hcap hcap2 (fun hno I2 f2 b31 b32 => S111_229 he (go hno I2 (F1.trans (f2.mono dimg)) (hM1.di f2) b31 b32 (S1.di f2) (O1.fr f2 (fun k q1 q2 q => by unfold diS at q; omega)))) (fun yes y0 I2 f2 O2 M2 b31 b32 => S111_229 he ?_) (fun yes y0 I2 f2 z2 M2 b31 b32 => S111_229 he ?_)
      · have Yb := stE_bd (g := g) (n := n) (d := obD g n h) (l := obL g n h) (by have := b10 yes.1; omega) (by have := b10 yes.1; omega) y0
        have Yb : obD g n h ≤ obY g n h ∧ obY g n h + 9 ≤ n := Yb
        have e2 : ob2 g n h = skp g n (obY g n h + 9) := by unfold ob2; rw [if_pos yes.1, if_pos y0]
        exact hB1 yes.1 y0 I2 (obY g n h + 9) l lt q (eF g n q) (F1.trans f2) ⟨hM1.mg f2, ⟨b32, b31, by have := b10 yes.1; omega, Yb.2, e2.symm⟩, hL, LBq, fun w => by omega⟩ (JV_no lq) M2 O2
      · exact hB2 yes.1 y0 I2 n l lt q (eF g n q) (F1.trans f2) ⟨hM1.mg f2, ⟨b32, b31, by omega, Int.le_refl _, skp_ge (Int.le_refl _)⟩, hL, LBq, fun w => by omega⟩ (JV_no lq) M2 z2
theorem mobj (he : HS e) {h : Int} (h0 : 0 ≤ h) (h1 : h ≤ n) (hk5 : kF' g n h = 5) {s : SC} (hcap : s.2.1.length + 5 < 2000) (hcap2 : s.2.2.1.length < 800) {I : HI} {f ft l : Int} (hG : GS g n d I (e3F g n h) (obP g n h) f ft l (e3F g n h)) (hJ : JV g n f l (obP g n h)) (hS : MM d I s) (hO : OPN I (mF g n h) h (e3F g n h) (-1) 0 true) {Q : HI → HD → Prop}
    (hC : ∀ I' a f ft l lt, Fr (mgS d) I I' → GS g n d I' a (obN g n h) f ft l lt → JV g n f l (obN g n h) → Sim g n d I' (obX g n h s) (obN g n h) → RV 111 27 [vR (some 312), vI f, vI ft, vI l, vI lt, vJ, vJ, vJ] [] e I' D Q) : RV 111 27 [vR (some 312), vI f, vI ft, vI l, vI (e3F g n h), vJ, vJ, vJ] [] e I D Q := by
  obtain ⟨⟨b1, b2, b3, b4⟩, ⟨b5, b6⟩, ⟨b7, b8, b9⟩, b10, ⟨b11, b12, b13⟩, ⟨b14, b15, b16⟩, b17, b18, b19⟩ := ob_bd h0 h1 hk5
  have om := obM_le (g := g) (n := n) (h := h)
  have hd5 := hd_5 h1 hk5
  refine mph1 he h0 h1 hk5 (by omega) hcap2 _ (obP g n h) (e3F g n h) f ft l (e3F g n h) I hG ⟨⟨by omega, b3⟩, b4, rfl⟩ Pth.refl (Or.inl ⟨rfl, rfl⟩) hJ hS hO (fun _ => by omega) (Nat.le_refl _) ?_ ?_ ?_
  · intro eS I1 a1 f1 ft1 l1 lt1 F1 G1 J1 S1 O1
    have eE := obE_1 h0 h1 hk5 eS
    rw [← eE] at G1 J1
    have eM : obM g n h = [] := if_neg (by rw [eS]; decide)
    refine mobE he h0 h1 hk5 G1 J1 ?_ (by rw [eM, List.append_nil]; exact S1) (fun w => by rw [eS] at w; cases w) (by rw [eM, List.append_nil]; omega) hcap2 fun I2 a f ft l lt f2 => hC I2 a f ft l lt (F1.trans f2)
    have e1 : dtF (obF g n h) = -1 := by
      show (if obS g n h = true then _ else -1) = _
      rw [if_neg (by rw [eS]; decide)]
    have e2 : deF (obF g n h) = 0 := by
      show (if obS g n h = true then _ else 0) = _
      rw [if_neg (by rw [eS]; decide)]
    have e3 : obO1 g n h = true := by unfold obO1; rw [eS]; rfl
    unfold OPE
    rw [e1, e2, e3]; exact O1
  · intro eS y0 I1 a1 f1 ft1 l1 lt1 F1 G1 J1 S1 O1
    have e1 : dtF (obF g n h) = obD g n h := by
      show (if obS g n h = true then (if obS g n h = true then obD g n h else 0) else -1) = _
      rw [if_pos eS, if_pos eS]
    have bS := b10 eS
    refine mph2 he (E := obE g n h) _ (ob2 g n h) a1 f1 ft1 l1 lt1 I1 G1 ⟨⟨by omega, b12⟩, b13, rfl⟩ J1 (by rw [O1.1]; omega) (by rw [O1.2.2.2.1, e1]; omega) (Nat.le_refl _) fun I2 a2 f2 ft2 l2 lt2 F2 G2 J2 => ?_
    exact mobE he h0 h1 hk5 G2 J2 (OPN.fr O1 F2 (fun k q1 q2 q => by unfold cuS at q; omega)) (S1.cu F2) (fun _ => y0) (by rw [List.length_append]; omega) hcap2 fun I3 a f ft l lt f3 => hC I3 a f ft l lt (F1.trans ((F2.mono cumg).trans f3))
  · intro eS y0 I1 a1 f1 ft1 l1 lt1 F1 G1 J1 S1 z1
    have e2 : ob2 g n h = n := by
      unfold ob2; rw [if_pos eS, if_neg y0, skp_ge (Int.le_refl _)]
    have eE : obE g n h = n := by
      unfold obE; rw [e2]; exact wW_stop (Or.inr (Int.le_refl _))
    have eN : obN g n h = n := by unfold obN; rw [eE, if_neg (by rw [kF_end (Int.le_refl _)]; decide)]
    rw [eN] at hC
    exact hC I1 a1 f1 ft1 l1 lt1 F1 G1 J1 (Or.inl ⟨z1, S1⟩)
theorem WT.cap {p : Int} {s : SC} (h : WT g n p s) (hp : p ≤ 3000) : s.2.1.length + 5 < 2000 ∧ s.2.2.1.length < 800 := by
  have := h.len hp
  omega
theorem mgo (he : HS e) {Q : HI → HD → Prop} (k : Nat) : ∀ (p a f ft l lt : Int) (s : SC) (I : HI), GS g n d I a p f ft l lt → JV g n f l p → Sim g n d I s p → WT g n p s → (n - p).toNat < k →
    (∀ I', Fr (mgS d) I I' → Sim g n d I' (scN g n k p s) n → WT g n n (scN g n k p s) → Q I' D) → RV 111 27 [vR (some 312), vI f, vI ft, vI l, vI lt, vJ, vJ, vJ] [] e I D Q := by
  induction k with
  | zero => intro p a f ft l lt s I hG hJ hS hW hk; omega
  | succ k ih =>
    intro p a f ft l lt s I hG hJ hS hW hk hQ
    have pl := hG.pl
    obtain ⟨hM, ⟨g1, g2, g3, g4, g5⟩, hF, hL, hFL⟩ := id hG
    rcases Int.lt_or_le p n with hp | hp
    · have tk := pl.2.2.2.1 hp
      have ke := k_end hp tk
      have kp := kF_pos hp tk
      have nb := (nxF_bd (g := g) pl.2.1)
      have nbp := nb.2.2 hp
      have scn : scN g n (k + 1) p s = (if kF' g n p = 5 then scN g n k (obN g n p) (obX g n p s) else if kF' g n p = 7 then scN g n k (nxF g n p) (trX g n p s) else scN g n k (nxF g n p) s) := by
        show (if kF' g n p = 0 then s else if kF' g n p = 5 then scN g n k (obN g n p) (obX g n p s) else if kF' g n p = 7 then scN g n k (nxF g n p) (trX g n p s) else scN g n k (nxF g n p) s) = _
        rw [if_neg (by omega)]
      by_cases k5 : kF' g n p = 5
      · -- a head: its number, the second number, the word
        rw [if_pos k5] at scn
        rw [scn] at hQ
        have hd5 := hd_5 pl.2.1 k5
        have rb := nb
        have hr : nxF g n p < n := (mF_reg hd5.2.2.1 nb.2.1).1
        have rs : skp g n (nxF g n p) = nxF g n p := skp_skp (eF_bd (g := g) pl.2.1).2.1
        have tr := skp_tk hr rs
        have nb2 := nxF_bd (g := g) nb.2.1
        have mp : 0 ≤ mF g n p := by omega
        have ob : nxF g n (nxF g n p) < n := by
          have e1 := tx_len hd5.2.2.2.1
          have e2 : (zstr 11).length = 3 := by decide
          have := (eF_bd (g := g) nb2.2.1).2.1
          omega
        have os : skp g n (nxF g n (nxF g n p)) = nxF g n (nxF g n p) := skp_skp (eF_bd (g := g) nb.2.1).2.1
        have to := skp_tk ob os
        have mo : mF g n (nxF g n (nxF g n p)) < 0 := by
          rcases Int.lt_or_le (mF g n (nxF g n (nxF g n p))) 0 with q | q
          · exact q
          · have := num_no ob to q (k := 11) (by omega)
            rw [hd5.2.2.2.1] at this; cases this
        have p11 := num_no hp tk mp (k := 11) (by omega)
        have p23 := num_no hp tk mp (k := 23) (by omega)
        have r11 := num_no hr tr hd5.2.2.1 (k := 11) (by omega)
        have r12 := num_no hr tr hd5.2.2.1 (k := 12) (by omega)
        have r13 := num_no hr tr hd5.2.2.1 (k := 13) (by omega)
        have r23 := num_no hr tr hd5.2.2.1 (k := 23) (by omega)
        have ker := k_end hr tr
        refine mquiet he hG hp (fun q => by rw [p11] at q; cases q.1) (fun q => by omega) (by omega) (fun q => by rw [p23] at q; cases q.1) fun I1 f1 G1 => ?_
        refine mquiet he G1 hr (fun q => by rw [r11] at q; cases q.1) (fun q => by rw [ker.1.mpr q.1] at r12; cases r12) (fun q => by rw [ker.2.mpr q] at r13; cases r13) (fun q => by rw [r23] at q; cases q.1) fun I2 f2 G2 => ?_
        obtain ⟨hM2, ⟨h1, h2, h3, h4, h5⟩, hF2, hL2, hFL2⟩ := id G2
        refine m111_tok he hM2 h1 h2 h3 h4 h5 hF2 (fun q => by omega) fun _ I3 f3 a31 a33 => ?_
        have hM3 := hM2.cu f3
        have Fc : Fr cuS I I3 := f1.trans (f2.trans f3)
        have S3 : Sim g n d I3 s p := hS.fr Fc (fun a k q => by unfold cuS at q; omega)
        have i32 : I3 312 32 = n := by rw [Fc _ _ (fun q => by unfold cuS at q; omega)]; exact g1
        have lp : lbM g n p = mF g n p := lbM_0 pl.1
        have lr : lbM g n (nxF g n p) = mF g n (nxF g n p) := lbM_0 (by omega)
        have hh : tx g n (nxF g n (nxF g n p)) 11 = true ∧ (1 ≤ lbM g n p ∧ lbM g n p ≤ 60) ∧ 0 ≤ lbM g n (nxF g n p) := ⟨hd5.2.2.2.1, by rw [lp]; exact hd5.2.2.2.2.1, by rw [lr]; exact hd5.2.2.1⟩
        refine m111_60 he hM3 hL2 (fun q => by omega) (by omega) ob (fun _ => ?_) (fun q => absurd hh q) (fun q => absurd hh q) (fun q => absurd hh q) (fun q => absurd hh q)
        refine m108 he hM3 S3 (hW.le pl.2.1) (Or.inl (by omega)) fun I4 f4 k4 z4 M4 => S111_229 he ?_
        have hM4 := hM3.mg f4
        rw [lp]
        have F5 : Fr (fun a k => a = 312 ∧ 25 ≤ k ∧ k ≤ 30) I4 (uI (uI (uI (uI (uI (uI I4 312 25 (mF g n p)) 312 26 p) 312 27 (eF g n (nxF g n (nxF g n p)))) 312 28 (-1)) 312 29 0) 312 30 1) := by
          intro a k q
          rw [uI_ne (by omega), uI_ne (by omega), uI_ne (by omega), uI_ne (by omega), uI_ne (by omega), uI_ne (by omega)]
        have O5 : OPN (uI (uI (uI (uI (uI (uI I4 312 25 (mF g n p)) 312 26 p) 312 27 (eF g n (nxF g n (nxF g n p)))) 312 28 (-1)) 312 29 0) 312 30 1) (mF g n p) p (e3F g n p) (-1) 0 true := by
          refine ⟨?_, ?_, ?_, ?_, ?_, uI_eq⟩
          · rw [uI_ne (by omega), uI_ne (by omega), uI_ne (by omega), uI_ne (by omega), uI_ne (by omega), uI_eq]
          · rw [uI_ne (by omega), uI_ne (by omega), uI_ne (by omega), uI_ne (by omega), uI_eq]
          · rw [uI_ne (by omega), uI_ne (by omega), uI_ne (by omega), uI_eq]; rfl
          · rw [uI_ne (by omega), uI_ne (by omega), uI_eq]
          · rw [uI_ne (by omega), uI_eq]
        generalize (uI (uI (uI (uI (uI (uI I4 312 25 (mF g n p)) 312 26 p) 312 27 (eF g n (nxF g n (nxF g n p)))) 312 28 (-1)) 312 29 0) 312 30 1) = I5 at F5 O5
        have F5' : Fr (mgS d) I4 I5 := F5.mono fun a k q => by unfold mgS; omega
        have M5 := M4.fr F5 (fun a k q => by omega)
        have hM5 := hM4.mg F5'
        have F05 : Fr (mgS d) I I5 := (Fc.mono cumg).trans (f4.trans F5')
        have G5 : GS g n d I5 (e3F g n p) (obP g n p) (nxF g n p) (eF g n (nxF g n p)) (nxF g n (nxF g n p)) (e3F g n p) := by
          refine ⟨hM5, ⟨?_, ?_, by omega, hd5.2.2.2.2.2.2, rfl⟩, hL2, Or.inr ⟨by omega, ob, to, rfl⟩, fun q => by omega⟩
          · rw [F5 _ _ (by omega), k4 32 (by omega)]; exact i32
          · rw [F5 _ _ (by omega), k4 31 (by omega)]; exact a31
        have wc := hW.cap (by omega)
        have obd := ob_bd pl.1 pl.2.1 k5
        have := mobj he pl.1 pl.2.1 k5 (by omega) wc.2 G5 (JV_no (by rw [lbM_0 (by omega)]; exact mo)) M5 O5 (Q := Q) fun I6 a6 f6 ft6 l6 lt6 F6 G6 J6 S6 => ih (obN g n p) a6 f6 ft6 l6 lt6 (obX g n p s) I6 G6 J6 S6 (WT_ob pl.1 pl.2.1 k5 hW) (by omega) fun I7 f7 => hQ I7 (F05.trans (F6.trans f7))
        exact this
      · rw [if_neg k5] at scn
        by_cases k7 : kF' g n p = 7
        · -- a trailer
          rw [if_pos k7] at scn
          rw [scn] at hQ
          have t13 := ke.2.mpr k7
          have e11 : tx g n p 11 = false := tx_no t13 (by decide)
          have e12 : tx g n p 12 = false := tx_no t13 (by decide)
          have m0 : mF g n p < 0 := by
            rcases Int.lt_or_le (mF g n p) 0 with q | q
            · exact q
            · have := num_no hp tk q (k := 13) (by omega)
              rw [t13] at this; cases this
          refine m111_tok he hM g1 g2 g3 g4 g5 hF (fun q => by omega) fun _ I1 f1 a31 a33 => ?_
          have hM1 := hM.cu f1
          have S1 : Sim g n d I1 s p := hS.fr f1 (fun a k q => by unfold cuS at q; omega)
          have i32 : I1 312 32 = n := by rw [f1 _ _ (fun q => by unfold cuS at q; omega)]; exact g1
          refine m111_60 he hM1 hL hFL pl.1 hp (fun q => by rw [e11] at q; cases q.1) (fun _ q _ => by rw [e12] at q; cases q) (fun _ _ => ?_) (fun _ q => by rw [tx_no t13 (by decide)] at q; cases q) (fun _ _ q _ => by rw [t13] at q; cases q)
          refine m109 he hM1 pl.1 pl.2.1 k7 S1 (hW.le pl.2.1) a31 i32 a33 fun I2 f2 b31 b32 z2 M2 => S111_229 he ?_
          have F02 : Fr (mgS d) I I2 := (f1.mono cumg).trans f2
          exact ih (nxF g n p) (eF g n p) l lt p (eF g n p) (trX g n p s) I2 (hG.nxt hp (hM1.mg f2) b32 b31) (JV_no (by rw [lbM_0 pl.1]; exact m0)) (Or.inl ⟨z2, M2⟩) ((show WT g n p (trX g n p s) from hW).le (by omega)) (by omega) fun I7 f7 => hQ I7 (F02.trans f7)
        · -- nothing is meant by it
          rw [if_neg k7] at scn
          rw [scn] at hQ
          have hA : I 312 25 = 0 ∧ MM d I s := by
            rcases hS with hS | ⟨h, s0, ⟨h0, h1, hk⟩, a2, a3, -⟩
            · exact hS
            · exfalso
              obtain ⟨-, -, -, -, ⟨b11, b12, b13⟩, -⟩ := ob_bd h0 h1 hk
              have en := enW_end (g := g) b12 b13
              have en : enS g n p = true := by rw [a2]; exact en
              unfold enS isEk at en
              simp only [Bool.or_eq_true, Bool.and_eq_true, beq_iff_eq] at en
              omega
          refine mquiet he hG hp hJ.1 (fun q => by omega) k7 (fun q => by omega) fun I1 f1 G1 => ?_
          exact ih (nxF g n p) (eF g n p) l lt p (eF g n p) s I1 G1 (JV_step hJ pl.1 hp tk k5) (Or.inl ⟨by rw [f1 _ _ (fun q => by unfold cuS at q; omega)]; exact hA.1, hA.2.cu f1⟩) (hW.le (by omega)) (by omega) fun I7 f7 => hQ I7 ((f1.mono cumg).trans f7)
    · have e0 : p = n := by omega
      have scn : scN g n (k + 1) p s = s := by
        show (if kF' g n p = 0 then s else _) = s
        rw [if_pos (kF_end hp)]
      rw [scn] at hQ
      refine m111_tok he hM g1 g2 g3 g4 g5 hF (fun _ I1 f1 => hQ I1 (f1.mono cumg) ?_ (hW.le pl.2.1)) (fun q => by omega)
      have S1 : Sim g n d I1 s p := hS.fr f1 (fun a k q => by unfold cuS at q; omega)
      rw [e0] at S1
      exact S1
theorem m111 (he : HS e) {I : HI} (hM : MoB g n (d : Int) I) (h25 : I 312 25 = 0) (hS : MM d I (sc0 g n)) {Q : HI → HD → Prop} (hQ : ∀ I', Fr (mgS d) I I' → Sim g n d I' (scF g n) n → WT g n n (scF g n) → Q I' D) : CV 111 [vR (some 312)] e I D Q := by
  obtain ⟨m4, hd, m14, h0n, h3n⟩ := hM.sd
  refine S111 he ?_
  rw [m4, Int.toNat_natCast, m14]
  have F : Fr (fun a k => a = 312 ∧ (k = 31 ∨ k = 32)) I (uI (uI I 312 31 0) 312 32 n) := (Fr.u (S := fun a k => a = 312 ∧ (k = 31 ∨ k = 32)) ⟨rfl, Or.inl rfl⟩).trans (Fr.u ⟨rfl, Or.inr rfl⟩)
  have F' : Fr (mgS d) I (uI (uI I 312 31 0) 312 32 n) := F.mono fun a k q => by unfold mgS; omega
  have sb := skp_bd (g := g) h0n
  refine ⟨⟨by omega, by omega⟩, mgo he 4000 (skp g n 0) 0 (-1) (-1) (-1) (-1) (sc0 g n) _ ⟨hM.mg F', ⟨uI_eq, by rw [uI_ne (by omega), uI_eq], Int.le_refl _, h0n, rfl⟩, Or.inl ⟨rfl, rfl⟩, Or.inl ⟨rfl, rfl⟩, fun _ => rfl⟩ (JV_no (by unfold lbM; rw [if_pos (by decide)]; decide)) (Or.inl ⟨by rw [uI_ne (by omega), uI_ne (by omega)]; exact h25, hS.fr F (fun a k q => by omega)⟩) (WT_0.le sb.1) (by omega) fun I' f' => hQ I' (F'.trans f')⟩
end
