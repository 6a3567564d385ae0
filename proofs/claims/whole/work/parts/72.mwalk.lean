/-! RepairScanModel.go goes along an object's tokens -/
def GS (g : Int → Int) (n : Int) (d : Nat) (I : HI) (a p f ft l lt : Int) : Prop := MoB g n (d : Int) I ∧ (I 312 32 = n ∧ I 312 31 = a ∧ 0 ≤ a ∧ a ≤ n ∧ skp g n a = p) ∧ LB g n f ft ∧ LB g n l lt ∧ (l = -1 → f = -1)
section
variable {e : En} {g : Int → Int} {n : Int} {d : Nat} {D : HD}
theorem GS.pl {I : HI} {a p f ft l lt : Int} (h : GS g n d I a p f ft l lt) : 0 ≤ p ∧ p ≤ n ∧ skp g n p = p ∧ (p < n → tkc (g p)) ∧ 0 ≤ n ∧ n ≤ 3000 := by
  obtain ⟨hM, ⟨h1, h2, h3, h4, h5⟩, -⟩ := h
  have sb := skp_bd (g := g) h4
  have ss := skp_skp (g := g) h4
  rw [h5] at sb ss
  exact ⟨by omega, sb.2, ss, fun q => skp_tk q ss, hM.2.2.2.1, hM.2.2.2.2.1⟩
/-- behind a token that was gone through -/
theorem GS.nxt {I I' : HI} {a p f ft l lt : Int} (h : GS g n d I a p f ft l lt) (hp : p < n) (hM' : MoB g n (d : Int) I') (hl : I' 312 32 = n) (ha : I' 312 31 = eF g n p) : GS g n d I' (eF g n p) (nxF g n p) l lt p (eF g n p) := by
  have pl := h.pl
  have eb := eF_bd (g := g) pl.2.1
  exact ⟨hM', ⟨hl, ha, by omega, eb.2.1, rfl⟩, h.2.2.2.1, Or.inr ⟨pl.1, hp, pl.2.2.2.1 hp, rfl⟩, fun q => by omega⟩
theorem mquiet (he : HS e) {I : HI} {a p f ft l lt : Int} (hG : GS g n d I a p f ft l lt) (hp : p < n) (hJ : ¬ (tx g n p 11 = true ∧ (1 ≤ lbM g n f ∧ lbM g n f ≤ 60) ∧ 0 ≤ lbM g n l)) (h6 : ¬ (kF' g n p = 6 ∧ 0 < I 312 25)) (h7 : kF' g n p ≠ 7) (h23 : ¬ (tx g n p 23 = true ∧ 0 < I 312 25)) {Q : HI → HD → Prop}
    (hQ : ∀ I', Fr cuS I I' → GS g n d I' (eF g n p) (nxF g n p) l lt p (eF g n p) → RV 111 27 [vR (some 312), vI l, vI lt, vI p, vI (eF g n p), vJ, vJ, vJ] [] e I' D Q) : RV 111 27 [vR (some 312), vI f, vI ft, vI l, vI lt, vJ, vJ, vJ] [] e I D Q := by
  have pl := hG.pl
  obtain ⟨hM, ⟨g1, g2, g3, g4, g5⟩, hF, hL, hFL⟩ := id hG
  have ke := k_end hp (pl.2.2.2.1 hp)
  refine m111_tok he hM g1 g2 g3 g4 g5 hF (fun q => by omega) fun _ I1 f1 a31 a33 => ?_
  have i25 : I1 312 25 = I 312 25 := f1 _ _ (fun q => by unfold cuS at q; omega)
  have hM1 := hM.cu f1
  refine m111_60 he hM1 hL hFL pl.1 hp (fun q => absurd q hJ) (fun _ q w => absurd ⟨ke.1.mp q, by rw [i25] at w; exact w⟩ h6) (fun _ q => absurd (ke.2.mp q) h7) (fun _ q w => absurd ⟨q, by rw [i25] at w; exact w⟩ h23) fun _ _ _ _ => hQ I1 f1 (hG.nxt hp hM1 ?_ a31)
  rw [f1 _ _ (fun q => by unfold cuS at q; omega)]; exact g1
theorem en_no {q : Int} (h : enS g n q = false) : kF' g n q ≠ 0 ∧ kF' g n q ≠ 5 ∧ kF' g n q ≠ 6 ∧ kF' g n q ≠ 7 := by
  unfold enS isEk at h
  simp only [Bool.or_eq_false_iff, Bool.and_eq_false_iff, beq_eq_false_iff_ne] at h
  refine ⟨h.1, ?_, ?_, ?_⟩
  all_goals
    rcases h.2 with w | w
    · cases w
    · omega
theorem on_nx {E q : Int} (h : onW g n (enS g n) E q) (hs : enS g n q = false) : q < n ∧ q < E ∧ onW g n (enS g n) E (nxF g n q) := by
  obtain ⟨⟨h0, h1⟩, h2, h3⟩ := h
  have hqn : q < n := by
    rcases Int.lt_or_le q n with w | w
    · exact w
    · rw [enS_n w] at hs; cases hs
  have nb := nxF_bd (g := g) h1
  have ss := skp_skp (g := g) (eF_bd (g := g) h1).2.1
  rw [wW_go (fun w => by rcases w with w | w; rw [hs] at w; cases w; omega)] at h3
  have wb := wW_bd (S := enS g n) nb.2.1 ss
  have := nb.2.2 hqn
  refine ⟨hqn, ?_, ⟨by omega, nb.2.1⟩, ss, h3⟩
  have w1 := wb.1
  rw [h3] at w1
  omega
theorem on_st {E q : Int} (h : onW g n (enS g n) E q) (hs : enS g n q = true) : q = E := by
  have := h.2.2
  rw [wW_stop (Or.inl hs)] at this
  exact this
/-- behind the stream: nothing but the object's end is looked for -/
theorem mph2 (he : HS e) {E : Int} {Q : HI → HD → Prop} (k : Nat) : ∀ (q a f ft l lt : Int) (I : HI), GS g n d I a q f ft l lt → onW g n (enS g n) E q → JV g n f l q → 0 < I 312 25 → 0 ≤ I 312 28 → (n - q).toNat ≤ k →
    (∀ I' a f ft l lt, Fr cuS I I' → GS g n d I' a E f ft l lt → JV g n f l E → RV 111 27 [vR (some 312), vI f, vI ft, vI l, vI lt, vJ, vJ, vJ] [] e I' D Q) → RV 111 27 [vR (some 312), vI f, vI ft, vI l, vI lt, vJ, vJ, vJ] [] e I D Q := by
  induction k with
  | zero =>
    intro q a f ft l lt I hG hon hJ h25 h28 hk hQ
    have pl := hG.pl
    have : enS g n q = true := enS_n (by omega)
    have := on_st hon this
    subst this
    exact hQ I a f ft l lt Fr.refl hG hJ
  | succ k ih =>
    intro q a f ft l lt I hG hon hJ h25 h28 hk hQ
    have pl := hG.pl
    cases hs : enS g n q with
    | true =>
      have := on_st hon hs
      subst this
      exact hQ I a f ft l lt Fr.refl hG hJ
    | false =>
      have nx := on_nx hon hs
      have nk := en_no hs
      have tk := pl.2.2.2.1 nx.1
      have ke := k_end nx.1 tk
      obtain ⟨hM, ⟨g1, g2, g3, g4, g5⟩, hF, hL, hFL⟩ := id hG
      have nb := (nxF_bd (g := g) pl.2.1).2.2 nx.1
      refine m111_tok he hM g1 g2 g3 g4 g5 hF (fun q => by omega) fun _ I1 f1 a31 a33 => ?_
      have i25 : I1 312 25 = I 312 25 := f1 _ _ (fun q => by unfold cuS at q; omega)
      have i28 : I1 312 28 = I 312 28 := f1 _ _ (fun q => by unfold cuS at q; omega)
      have i32 : I1 312 32 = n := by rw [f1 _ _ (fun q => by unfold cuS at q; omega)]; exact g1
      have hM1 := hM.cu f1
      have go : RV 111 27 [vR (some 312), vI l, vI lt, vI q, vI (eF g n q), vJ, vJ, vJ] [] e I1 D Q := ih (nxF g n q) (eF g n q) l lt q (eF g n q) I1 (hG.nxt nx.1 hM1 i32 a31) nx.2.2 (JV_step hJ pl.1 nx.1 tk nk.2.1) (by rw [i25]; exact h25) (by rw [i28]; exact h28) (by omega) fun I' a f ft l lt f' G' J' => hQ I' a f ft l lt (f1.trans f') G' J'
      exact m111_60 he hM1 hL hFL pl.1 nx.1 (fun q => absurd q hJ.1) (fun _ q _ => absurd (ke.1.mp q) nk.2.2.1) (fun _ q => absurd (ke.2.mp q) nk.2.2.2) (fun _ _ _ => S110 he ⟨fun _ => S111_229 he go, fun w => absurd (by rw [i28]; exact h28) w⟩) fun _ _ _ _ => go
/-- at the object's end -/
theorem mobE (he : HS e) {h : Int} (h0 : 0 ≤ h) (h1 : h ≤ n) (hk : kF' g n h = 5) {s : SC} {I : HI} {a f ft l lt : Int} (hG : GS g n d I a (obE g n h) f ft l lt) (hJ : JV g n f l (obE g n h)) (hO : OPE g n I h) (hS : MM d I (s.1, s.2.1 ++ obM g n h, s.2.2)) (hY : obS g n h = true → 0 ≤ obY g n h) (hcap : (s.2.1 ++ obM g n h).length < 2000) (hcap2 : s.2.2.1.length < 800) {Q : HI → HD → Prop}
    (hC : ∀ I' a f ft l lt, Fr (mgS d) I I' → GS g n d I' a (obN g n h) f ft l lt → JV g n f l (obN g n h) → Sim g n d I' (obX g n h s) (obN g n h) → RV 111 27 [vR (some 312), vI f, vI ft, vI l, vI lt, vJ, vJ, vJ] [] e I' D Q) : RV 111 27 [vR (some 312), vI f, vI ft, vI l, vI lt, vJ, vJ, vJ] [] e I D Q := by
  have pl := hG.pl
  have hd5 := hd_5 h1 hk
  by_cases k6 : kF' g n (obE g n h) = 6
  · have hp : obE g n h < n := by
      rcases Int.lt_or_le (obE g n h) n with w | w
      · exact w
      · rw [kF_end w] at k6; omega
    have tk := pl.2.2.2.1 hp
    have ke := k_end hp tk
    have eN : obN g n h = nxF g n (obE g n h) := if_pos k6
    obtain ⟨hM, ⟨g1, g2, g3, g4, g5⟩, hF, hL, hFL⟩ := id hG
    obtain ⟨m4, hd, m14, h0n, h3n⟩ := hM.sd
    have e11 : tx g n (obE g n h) 11 = false := tx_no (ke.1.mpr k6) (by decide)
    have e13 : tx g n (obE g n h) 13 = false := tx_no (ke.1.mpr k6) (by decide)
    have m0 : mF g n (obE g n h) < 0 := by
      rcases Int.lt_or_le (mF g n (obE g n h)) 0 with q | q
      · exact q
      · have := num_no hp tk q (k := 12) (by omega)
        rw [ke.1.mpr k6] at this; cases this
    refine m111_tok he hM g1 g2 g3 g4 g5 hF (fun q => by omega) fun _ I1 f1 a31 a33 => ?_
    have hM1 := hM.cu f1
    have S1 := hS.cu f1
    obtain ⟨o1, o2, o3, o4, o5, o6⟩ := hO.fr f1 (fun k q1 q2 q => by unfold cuS at q; omega)
    have i32 : I1 312 32 = n := by rw [f1 _ _ (fun q => by unfold cuS at q; omega)]; exact g1
    have hc : obC g n h = false := by unfold obC; rw [k6]; rfl
    have hm2 : obM2 g n h = [] := by unfold obM2; rw [if_neg (fun u => u.1 k6)]
    refine m111_60 he hM1 hL hFL pl.1 hp (fun q => by rw [e11] at q; cases q.1) (fun _ _ _ => ?_) (fun _ q => by rw [e13] at q; cases q) (fun _ q => by rw [tx_no (ke.1.mpr k6) (by decide)] at q; cases q) fun _ n2 _ _ => absurd ⟨ke.1.mpr k6, by rw [o1]; omega⟩ n2
    have ei : mF g n h = ((mF g n h).toNat : Int) := by omega
    refine m107 he hM1.1 hd S1 (i := (mF g n h).toNat) (by omega) (by omega) (gd := true) (by rw [o1]; exact ei) o2 o3 o4 o5 o6 (f := obF g n h) ⟨rfl, rfl, rfl, ?_, rfl, rfl⟩ hcap hcap2 fun I2 f2 z2 M2 => S111_229 he ?_
    · rw [whF_ob, k6]; rfl
    · have ek := keS_ob (g := g) (n := n) (h := h) (s := s) hc (by omega)
      rw [hm2, List.append_nil] at ek
      have M2 : MM d I2 (keS (mF g n h).toNat (obF g n h) (s.1, s.2.1 ++ obM g n h, s.2.2)) := M2
      rw [ek] at M2
      have F2 : Fr (mgS d) I1 I2 := f2.mono (clmg (by omega))
      have G2 := hG.nxt hp (hM1.mg F2) (by rw [f2 _ _ (fun q => by unfold clS mnS at q; omega)]; exact i32) (by rw [f2 _ _ (fun q => by unfold clS mnS at q; omega)]; exact a31)
      rw [← eN] at G2
      exact hC I2 _ _ _ _ _ ((f1.mono cumg).trans F2) G2 (JV_no (by rw [lbM_0 pl.1]; exact m0)) (Or.inl ⟨z2, M2⟩)
  · have eN : obN g n h = obE g n h := if_neg k6
    rw [eN] at hC
    exact hC I a f ft l lt Fr.refl hG hJ (Or.inr ⟨h, s, ⟨h0, h1, hk⟩, rfl, k6, hY, hO, hS, rfl⟩)
end
