/-! RepairScanModel.readStream; a token's step in go -/
section
variable {g : Int → Int} {n : Int}
theorem ob_lt {h : Int} (h0 : 0 ≤ h) (h1 : h ≤ n) (hk : kF' g n h = 5) (eS : obS g n h = true) : obP g n h < ob1 g n h := by
  obtain ⟨⟨b1, b2, b3, b4⟩, ⟨b5, b6⟩, ⟨b7, b8, b9⟩, b10, -⟩ := ob_bd h0 h1 hk
  have sf := obS_facts eS
  have hB := Bd_en (g := g) b3 b4
  have hP9 := on_9 (show 0 ≤ obP g n h by omega) b3 sf.2.2.2
  have e9 : dR g n (obP g n h) = dicN g n (enW g n (obP g n h)) 4000 (nxF g n (obP g n h)) [] [] := if_pos sf.2.2.2
  have nb := nxF_bd (g := g) b3
  have dl := dic_le hB 4000 (nxF g n (obP g n h)) [] [] hP9 (by simp; omega)
  rw [← e9] at dl
  have := nb.2.2 (kF_9 sf.2.2.2).1
  omega
def lbE (g : Int → Int) (n h q lt : Int) : Prop := (q = obP g n h ∧ lt = e3F g n h) ∨ ∃ l, Pth g n (obP g n h) l ∧ l < q ∧ nxF g n l = q ∧ lt = eF g n l
/-- a dictionary that ends right ahead of the word stream -/
theorem rd_st {h q lt : Int} (h0 : 0 ≤ h) (h1 : h ≤ n) (hn3 : n ≤ 3000) (hk : kF' g n h = 5) (hq : Pth g n (obP g n h) q) (hqn : q < n) (ht : tx g n q 23 = true) (hqe : q ≤ enW g n (obP g n h)) (hlt : lbE g n h q lt) (hp : obP g n h < q ∧ kF' g n (obP g n h) = 9) (hg : g (eF g n q) = 10) (hg2 : eF g n q < n) :
    ((dicN g n q 4000 (nxF g n (obP g n h)) [] []).2.1 = true ∧ (dicN g n q 4000 (nxF g n (obP g n h)) [] []).1 = lt → (obS g n h = true ∧ q = ob1 g n h) ∧ (dicN g n q 4000 (nxF g n (obP g n h)) [] []) = dR g n (obP g n h)) ∧
    (obS g n h = true ∧ q = ob1 g n h → (dicN g n q 4000 (nxF g n (obP g n h)) [] []).2.1 = true ∧ (dicN g n q 4000 (nxF g n (obP g n h)) [] []).1 = lt) := by
  obtain ⟨⟨b1, b2, b3, b4⟩, ⟨b5, b6⟩, ⟨b7, b8, b9⟩, b10, -⟩ := ob_bd h0 h1 hk
  have hB := Bd_en (g := g) b3 b4
  have hB2 := Bd_st (g := g) (n := n) (p0 := obP g n h) (show q ≤ n by omega) ht
  have hP2 := Bd_st0 (g := g) (n := n) (p0 := obP g n h) (by omega) b3 b4 hq
  have hP2n := hB2.nx hP2 hp.1
  have hP9 := on_9 (show 0 ≤ obP g n h by omega) b3 hp.2
  have e9 : dR g n (obP g n h) = dicN g n (enW g n (obP g n h)) 4000 (nxF g n (obP g n h)) [] [] := if_pos hp.2
  have nb := nxF_bd (g := g) b3
  have en3 : enW g n (obP g n h) ≤ 3000 := by have := hB.1; omega
  have hl2 : ∃ l, Pth g n (obP g n h) l ∧ l < q ∧ nxF g n l = q ∧ lt = eF g n l := by
    rcases hlt with w | w
    · omega
    · exact w
  obtain ⟨l, l1, l2, l3, l4⟩ := hl2
  refine ⟨fun c => ?_, fun c => ?_⟩
  · have dl := dic_le hB2 4000 (nxF g n (obP g n h)) [] [] hP2n (by simp; omega)
    have pre := dic_pre (b2 := enW g n (obP g n h)) hB2 (by omega) 4000 (nxF g n (obP g n h)) [] [] hP2n (by simp; omega) c.1 (by omega)
    rw [← e9] at pre
    have e1 : ob1 g n h = q := by
      unfold ob1
      rw [pre, c.2, l4]; exact l3
    refine ⟨⟨?_, e1.symm⟩, pre.symm⟩
    unfold obS
    rw [e1, ht, pre, c.1]
    have : gb g n (eF g n q) = 10 := by
      have := eF_bd (g := g) (show q ≤ n by omega)
      have := Pth.bd b3 hq
      unfold gb; rw [if_pos (by omega)]; exact hg
    rw [this]; rfl
  · have sf := obS_facts c.1
    have pre := dic_pre (b2 := q) hB en3 4000 (nxF g n (obP g n h)) [] [] hP9 (by simp; omega) (by rw [← e9]; exact sf.1) (by rw [← e9, c.2]; exact b7)
    rw [← e9] at pre
    rw [pre]
    refine ⟨sf.1, ?_⟩
    obtain ⟨cc, c1, c2, c3⟩ := dic_cl hB2 4000 (nxF g n (obP g n h)) [] [] hP2n (by simp; omega) (by rw [pre]; exact sf.1)
    rw [pre] at c3
    have nc : nxF g n cc = q := by
      unfold nxF; rw [← c3, c.2]; rfl
    have := path_inj b3 c1.2 l1 nc l3 c2 l2
    rw [c3, this, l4]
end
section
variable {e : En} {g : Int → Int} {n : Int} {d : Nat} {I : HI} {D : HD}
theorem m110 (he : HS e) (hM : MoB g n (d : Int) I) {s : SC} {h q lt : Int} (h0 : 0 ≤ h) (h1 : h ≤ n) (hk : kF' g n h = 5) (hS : MM d I s) (hO : OPN I (mF g n h) h (e3F g n h) (-1) 0 true) (hl : I 312 32 = n) (ha : I 312 31 = eF g n q)
    (hq : Pth g n (obP g n h) q) (hqn : q < n) (ht : tx g n q 23 = true) (hqe : q ≤ enW g n (obP g n h)) (hlt : lbE g n h q lt) (hcap : s.2.1.length + 3 < 2000) (hcap2 : s.2.2.1.length < 800) {Q : HI → HD → Prop}
    (hA : ¬ (obS g n h = true ∧ q = ob1 g n h) → ∀ I', Fr diS I I' → I' 312 31 = eF g n q → I' 312 32 = n → Q I' D)
    (hB1 : obS g n h = true ∧ q = ob1 g n h → 0 ≤ obY g n h → ∀ I', Fr (mgS d) I I' → OPE g n I' h → MM d I' (s.1, s.2.1 ++ obM g n h, s.2.2) → I' 312 31 = obY g n h + 9 → I' 312 32 = n → Q I' D)
    (hB2 : obS g n h = true ∧ q = ob1 g n h → ¬ 0 ≤ obY g n h → ∀ I', Fr (mgS d) I I' → I' 312 25 = 0 → MM d I' (obX g n h s) → I' 312 31 = n → I' 312 32 = n → Q I' D) :
    CV 110 [vR (some 312), vI q, vI (eF g n q), vI lt] e I D Q := by
  obtain ⟨m4, hd, m14, h0n, h3n⟩ := hM.sd
  obtain ⟨⟨b1, b2, b3, b4⟩, ⟨b5, b6⟩, ⟨b7, b8, b9⟩, b10, -⟩ := ob_bd h0 h1 hk
  obtain ⟨o1, o2, o3, o4, o5, o6⟩ := id hO
  have eb := eF_bd (g := g) (show q ≤ n by omega)
  have qb := Pth.bd b3 hq
  refine S110 he ?_
  rw [o4, m4, Int.toNat_natCast, m14]
  refine ⟨fun q => by omega, fun _ => ⟨⟨by omega, by omega⟩, fun q1 => hA (fun w => ?_) I Fr.refl ha hl, fun q1 => m88 he hM (by omega) (by omega) ⟨fun g10 => ?_, fun g10 => hA (fun w => ?_) I Fr.refl ha hl⟩⟩⟩
  · have sf := (obS_facts w.1).2.2.1
    rw [← w.2] at sf
    unfold gb at sf
    rw [if_neg (by omega)] at sf; omega
  · rw [o3, hl]
    have hB2' := Bd_st (g := g) (n := n) (p0 := obP g n h) (show q ≤ n by omega) ht
    have hP2 := Bd_st0 (g := g) (n := n) (p0 := obP g n h) (by omega) b3 b4 hq
    -- the way back, when it is no stream
    have back : ∀ (I6 : HI) (y : Int), Fr diS I I6 → ¬ (obS g n h = true ∧ q = ob1 g n h) → RV 110 87 [vR (some 312), vJ, vI (eF g n q), vJ, vI n, vI y, vJ, vJ, vJ, vJ, vJ] [] e I6 D Q := by
      intro I6 y f6 hno
      refine S110_87 he (S110_88 he ⟨fun w => absurd rfl w, fun _ => hA hno _ (f6.trans ((Fr.u (S := diS) (by unfold diS; omega)).trans (Fr.u (S := diS) (by unfold diS; omega)))) (by rw [uI_ne (by omega), uI_eq]) uI_eq⟩)
    refine m98 he hB2' (lim := q) ⟨Int.le_refl _, by omega, Or.inl rfl⟩ wok_len (by decide) hM (x := e3F g n h) (p := obP g n h) (by omega) b2 rfl hP2 (Or.inl rfl) (fun hno I6 f6 M6 _ t37 => ?_) fun hyes I6 f6 M6 _ _ t37 => ?_
    · have nS : ¬ (obS g n h = true ∧ q = ob1 g n h) := fun w => hno ⟨by rw [w.2]; exact ob_lt h0 h1 hk w.1, (obS_facts w.1).2.2.2⟩
      have s66 : ∀ y : Int, RV 110 66 [vR (some 312), vJ, vI (eF g n q), vI lt, vI n, vJ, vJ, vJ, vJ, vJ, vJ] [vI y] e I6 D Q := by
        intro y
        refine S110_66 he ?_
        rw [t37]
        exact ⟨fun _ => back I6 y f6 nS, fun w => absurd (by decide) w⟩
      exact ⟨fun _ => s66 _, fun _ => s66 _⟩
    · have rs := rd_st h0 h1 h3n hk hq hqn ht hqe hlt hyes g10 (by omega)
      have ltb : 0 ≤ lt := by
        rcases hlt with w | ⟨l, w1, w2, w3, w4⟩
        · omega
        · have := Pth.bd b3 w1
          have := eF_bd (g := g) (show l ≤ n by omega)
          omega
      have dlb := dic_le hB2' 4000 (nxF g n (obP g n h)) [] [] (hB2'.nx hP2 hyes.1) (by have := nxF_bd (g := g) b3; simp; omega)
      have nbp := nxF_bd (g := g) b3
      have s66 : ∀ y : Int, ((obS g n h = true ∧ q = ob1 g n h) → y = obL g n h) → RV 110 66 [vR (some 312), vJ, vI (eF g n q), vI lt, vI n, vJ, vJ, vJ, vJ, vJ, vJ] [vI y] e I6 D Q := by
        intro y hy
        refine S110_66 he ?_
        rw [t37]
        refine ⟨fun w => back I6 y f6 (fun v => ?_), fun w => ⟨fun v => back I6 y f6 (fun z => ?_), fun v => ?_⟩⟩
        · rw [if_pos (rs.2 v).1] at w; omega
        · rw [if_pos (rs.2 z).1] at v; exact v (rs.2 z).2
        · have v := Decidable.not_not.mp v
          have cl : (dicN g n q 4000 (nxF g n (obP g n h)) [] []).2.1 = true := by
            cases c : (dicN g n q 4000 (nxF g n (obP g n h)) [] []).2.1 with
            | true => rfl
            | false => rw [c, if_neg (by decide)] at w; exact absurd (by decide) w
          rw [if_pos cl] at v
          have yes := (rs.1 ⟨cl, v⟩).1
          have hy := hy yes
          subst hy
          have eD : eF g n q + 1 = obD g n h := by unfold obD; rw [← yes.2]
          have bS := b10 yes.1
          have M6' := hS.di f6
          have hM6 := hM.di f6
          have i6 : I6 312 4 = (d : Int) := hM6.1
          have i14 : I6 314 d = n := hM6.sd.2.2.1
          refine S110_88 he ⟨fun _ => ?_, fun w => absurd (by decide) w⟩
          rw [eD, i6, Int.toNat_natCast, i14]
          have F7 : Fr (fun a k => a = 312 ∧ (k = 31 ∨ k = 32 ∨ k = 28)) I6 (uI (uI (uI I6 312 31 (eF g n q)) 312 32 n) 312 28 (obD g n h)) := (Fr.u (S := fun a k => a = 312 ∧ (k = 31 ∨ k = 32 ∨ k = 28)) ⟨rfl, by omega⟩).trans ((Fr.u (S := fun a k => a = 312 ∧ (k = 31 ∨ k = 32 ∨ k = 28)) ⟨rfl, by omega⟩).trans (Fr.u ⟨rfl, by omega⟩))
          have o28 : (uI (uI (uI I6 312 31 (eF g n q)) 312 32 n) 312 28 (obD g n h)) 312 28 = obD g n h := uI_eq
          have o32 : (uI (uI (uI I6 312 31 (eF g n q)) 312 32 n) 312 28 (obD g n h)) 312 32 = n := by rw [uI_ne (by omega), uI_eq]
          generalize (uI (uI (uI I6 312 31 (eF g n q)) 312 32 n) 312 28 (obD g n h)) = J at F7 o28 o32
          have F7' : Fr (mgS d) I6 J := F7.mono fun a k q => by unfold mgS; omega
          have hMJ := hM6.mg F7'
          have MJ := M6'.fr F7 (fun a k q => by omega)
          have gk : ∀ k, k = 25 ∨ k = 26 ∨ k = 27 ∨ k = 29 ∨ k = 30 → J 312 k = I 312 k := fun k hk => by rw [F7 _ _ (by omega), f6 _ _ (fun q => by unfold diS at q; omega)]
          have OJ : OPN J (mF g n h) h (e3F g n h) (obD g n h) 0 true := ⟨by rw [gk 25 (by omega)]; exact o1, by rw [gk 26 (by omega)]; exact o2, by rw [gk 27 (by omega)]; exact o3, o28, by rw [gk 29 (by omega)]; exact o5, by rw [gk 30 (by omega)]; exact o6⟩
          have FJ : Fr (mgS d) I J := (f6.mono dimg).trans F7'
          have Lb : obL g n h < 2000000 ∧ -1 ≤ obL g n h := by
            have e5 : obL g n h = (match kyF g n (zstr 20) (dR g n (obP g n h)).2.2.1 with | some pr => fNu g n pr | none => -1) := ky_5 _
            have gen : ∀ v : Int, mF g n v < 2000000 := by
              intro v
              have g2 : ∀ (k : Nat) (q w : Int), 0 ≤ w → nuN g k q w < (w + 1) * 10 ^ k := by
                intro k
                induction k with
                | zero => intro q w hw; show w < (w + 1) * 1; omega
                | succ k ih =>
                  intro q w hw
                  unfold nuN
                  split
                  · have : (0 : Int) < 10 ^ (k + 1) := Int.pow_pos (by decide)
                    have := Int.mul_nonneg (show 0 ≤ w + 1 by omega) (Int.le_of_lt this)
                    omega
                  · rename_i c
                    have a := ih (q + 1) (w * 10 + (g q - 48)) (by omega)
                    have p10 : (0 : Int) < 10 ^ k := Int.pow_pos (by decide)
                    have b : (w * 10 + (g q - 48) + 1) * 10 ^ k ≤ ((w + 1) * 10) * 10 ^ k := Int.mul_le_mul_of_nonneg_right (by omega) (Int.le_of_lt p10)
                    have c2 : ((w + 1) * 10) * 10 ^ k = (w + 1) * 10 ^ (k + 1) := by rw [Int.pow_succ, Int.mul_assoc, Int.mul_comm 10]
                    omega
              unfold mF
              split
              · omega
              · unfold nuF
                split
                · omega
                · rename_i c
                  have a := g2 (eF g n v - v).toNat v 0 (Int.le_refl _)
                  have : (10 : Int) ^ (eF g n v - v).toNat ≤ 10 ^ 6 := by
                    have : (10 : Nat) ^ (eF g n v - v).toNat ≤ 10 ^ 6 := Nat.pow_le_pow_right (by decide) (by omega)
                    exact_mod_cast this
                  have c6 : (10 : Int) ^ 6 = 1000000 := by decide
                  omega
            rw [e5]
            split
            · unfold fNu
              split
              · omega
              · exact ⟨gen _, mF_ge⟩
            · omega
          have fin := fun (dir beh : Bool) hdir hbeh => m110_tail he hMJ h0 h1 hk yes.1 MJ OJ o32 hcap hcap2 (Q := Q) (fun w I' f' a b c1 c2 => hB1 yes w I' (FJ.trans f') a b c1 c2) (fun w I' f' a b c1 c2 => hB2 yes w I' (FJ.trans f') a b c1 c2) (dir := dir) (beh := beh) hdir hbeh
          have j4 : J 312 4 = (d : Int) := hMJ.1
          have j14 : J 314 d = n := hMJ.sd.2.2.1
          have s156 : ∀ dir : Bool, (dir = true ↔ (0 ≤ obL g n h ∧ obD g n h + obL g n h ≤ n ∧ esP g n (obD g n h + obL g n h) = true)) → RV 110 156 [vR (some 312), vJ, vJ, vJ, vJ, vI (obL g n h), vJ, vI (obD g n h + obL g n h), vJ, vJ, vJ] [vI (b2i dir)] e J D Q := by
            intro dir hdir
            have no : ¬ (0 ≤ obL g n h ∧ obD g n h + obL g n h < n ∧ g (obD g n h + obL g n h) = 10 ∧ esP g n (obD g n h + obL g n h + 1) = true) → RV 110 203 [vR (some 312), vJ, vJ, vJ, vJ, vJ, vJ, vI (obD g n h + obL g n h), vI (b2i dir), vJ, vJ] [] e J D Q := fun hb =>
              S110_203 he (fin dir false hdir ⟨(fun w => by cases w), fun w => absurd w hb⟩)
            refine S110_156 he ?_
            rw [j4, Int.toNat_natCast, j14]
            refine ⟨fun w => no (by omega), fun w => ⟨⟨by omega, by omega⟩, fun v => no (by omega), fun v => m88 he hMJ (by omega) (by omega) ⟨fun z => no (fun u => z u.2.2.1), fun z => ⟨⟨by omega, by omega⟩, m93 he hMJ (by omega) (by omega) ⟨fun u => no (fun t => ?_), fun u => ?_⟩⟩⟩⟩⟩
            · have t1 : stF g n (obD g n h + obL g n h + 1) (zstr 24) = true := t.2.2.2
              rw [t1] at u; cases u
            · exact fin dir true hdir ⟨fun _ => ⟨by omega, by omega, Decidable.not_not.mp z, b2i_n u⟩, fun _ => rfl⟩
          have nod : ¬ (0 ≤ obL g n h ∧ obD g n h + obL g n h ≤ n ∧ esP g n (obD g n h + obL g n h) = true) → RV 110 155 [vR (some 312), vJ, vJ, vJ, vJ, vI (obL g n h), vJ, vI (obD g n h + obL g n h), vJ, vJ, vJ] [] e J D Q := fun hd =>
            S110_155 he (s156 false ⟨(fun w => by cases w), fun w => absurd w hd⟩)
          refine ⟨⟨by omega, by omega⟩, ⟨by omega, by omega⟩, fun w => nod (by omega), fun w => ⟨⟨by omega, by omega⟩, fun v => nod (by omega), fun v => m93 he hMJ (by omega) (by omega) ⟨fun u => nod (fun t => ?_), fun u => s156 true ⟨fun _ => ⟨by omega, by omega, b2i_n u⟩, fun _ => rfl⟩⟩⟩⟩
          have t1 : stF g n (obD g n h + obL g n h) (zstr 24) = true := t.2.2
          rw [t1] at u; cases u
      obtain ⟨-, -, hK⟩ := M6
      have k5 : obL g n h = (match kyF g n (zstr 20) (dR g n (obP g n h)).2.2.1 with | some pr => fNu g n pr | none => -1) := ky_5 _
      cases hk4 : kyF g n (zstr 20) (dicN g n q 4000 (nxF g n (obP g n h)) [] []).2.2.1 with
      | none =>
        rw [hk4] at hK
        have hK : I6 312 45 = 0 := hK.1
        refine ⟨fun _ => s66 (-1) (fun yes => ?_), fun w => absurd hK w⟩
        have e1 := (rs.1 (rs.2 yes)).2
        rw [e1] at hk4
        rw [k5, hk4]
      | some pr =>
        rw [hk4] at hK
        obtain ⟨a1, a2, -⟩ := hK
        refine ⟨fun w => by omega, fun _ => s66 _ (fun yes => ?_)⟩
        have e1 := (rs.1 (rs.2 yes)).2
        rw [e1] at hk4
        have pp := dic_pr hB2' 4000 (nxF g n (obP g n h)) [] [] (hB2'.nx hP2 hyes.1) (by simp; omega) (fun pr h => by cases h) pr (by rw [e1]; exact ky_mem hk4)
        rw [ky_num (by have := pp.2.1; omega)] at a2
        rw [k5, hk4, a2]; rfl
  · have sf := (obS_facts w.1).2.2.1
    rw [← w.2] at sf
    unfold gb at sf
    rw [if_pos (by omega)] at sf
    exact g10 sf
end
