/-! RepairScanModel.readStream -/
section
variable {e : En} {g : Int → Int} {n : Int} {d : Nat} {D : HD}
theorem m110_265 (he : HS e) {I : HI} (hM : MoB g n (d : Int) I) {Q : HI → HD → Prop} (k : Nat) : ∀ x : Int, 0 ≤ x → x ≤ n → (n - x).toNat = k →
    RV 110 294 [vR (some 312), vJ, vJ, vJ, vJ, vJ, vJ, vJ, vJ, vJ, vI (ff (esP g n) n x)] [] e I D Q → RV 110 265 [vR (some 312), vJ, vJ, vJ, vJ, vJ, vJ, vJ, vJ, vJ, vI x] [] e I D Q := by
  obtain ⟨m4, hd, m14, h0n, h3n⟩ := hM.sd
  induction k with
  | zero =>
    intro x h0 h1 hk hQ
    rw [ff_ge (by omega)] at hQ
    refine S110_265 he ?_
    rw [m4, Int.toNat_natCast, m14]
    exact ⟨⟨by omega, by omega⟩, fun _ => hQ, fun q => by omega⟩
  | succ k ih =>
    intro x h0 h1 hk hQ
    refine S110_265 he ?_
    rw [m4, Int.toNat_natCast, m14]
    refine ⟨⟨by omega, by omega⟩, fun q => by omega, fun _ => m93 he hM h0 (by omega) ⟨fun q => ?_, fun q => ⟨⟨by omega, by omega⟩, ih (x + 1) (by omega) (by omega) (by omega) ?_⟩⟩⟩
    · rw [ff_hit (b2i_n q)] at hQ; exact hQ
    · rw [ff_go (by omega) (b2i_0.mp (Decidable.not_not.mp q))] at hQ; exact hQ
theorem m110_tail (he : HS e) {I : HI} (hM : MoB g n (d : Int) I) {s : SC} {h : Int} (h0 : 0 ≤ h) (h1 : h ≤ n) (hk : kF' g n h = 5) (eS : obS g n h = true) (hS : MM d I s) (hO : OPN I (mF g n h) h (e3F g n h) (obD g n h) 0 true) (hl : I 312 32 = n) (hcap : s.2.1.length + 3 < 2000) (hcap2 : s.2.2.1.length < 800) {Q : HI → HD → Prop}
    (hB1 : 0 ≤ obY g n h → ∀ I', Fr (mgS d) I I' → OPE g n I' h → MM d I' (s.1, s.2.1 ++ obM g n h, s.2.2) → I' 312 31 = obY g n h + 9 → I' 312 32 = n → Q I' D)
    (hB2 : ¬ 0 ≤ obY g n h → ∀ I', Fr (mgS d) I I' → I' 312 25 = 0 → MM d I' (obX g n h s) → I' 312 31 = n → I' 312 32 = n → Q I' D)
    {dir beh : Bool} (hdir : dir = true ↔ (0 ≤ obL g n h ∧ obD g n h + obL g n h ≤ n ∧ esP g n (obD g n h + obL g n h) = true)) (hbeh : beh = true ↔ (0 ≤ obL g n h ∧ obD g n h + obL g n h < n ∧ g (obD g n h + obL g n h) = 10 ∧ esP g n (obD g n h + obL g n h + 1) = true)) :
    RV 110 204 [vR (some 312), vJ, vJ, vJ, vJ, vJ, vJ, vI (obD g n h + obL g n h), vI (b2i dir), vJ, vJ] [vI (b2i beh)] e I D Q := by
  obtain ⟨m4, hd, m14, h0n, h3n⟩ := hM.sd
  obtain ⟨⟨b1, b2, b3, b4⟩, ⟨b5, b6⟩, ⟨b7, b8, b9⟩, b10, -⟩ := ob_bd h0 h1 hk
  have bS := b10 eS
  have hd5 := hd_5 h1 hk
  obtain ⟨o1, o2, o3, o4, o5, o6⟩ := id hO
  have eY : obY g n h = stE g n (obD g n h) (obL g n h) := rfl
  have eM : obM g n h = stM g n (obD g n h) (obL g n h) := if_pos eS
  have eO1 : obO1 g n h = decide (0 ≤ ebL g n (obD g n h) (obL g n h)) := by unfold obO1; rw [eS]; rfl
  have edt : dtF (obF g n h) = obD g n h := by
    show (if obS g n h = true then (if obS g n h = true then obD g n h else 0) else -1) = _
    rw [if_pos eS, if_pos eS]
  have ede : deF (obF g n h) = stT g n (obD g n h) (obL g n h) := by
    show (if obS g n h = true then (if obS g n h = true then stT g n (obD g n h) (obL g n h) else 0) else 0) = _
    rw [if_pos eS, if_pos eS]
  have good : ∀ Y : Int, ebL g n (obD g n h) (obL g n h) = Y → 0 ≤ Y → ∀ at' : Int, at' = Y + 9 → Q (uI (uI I 312 29 (obD g n h + obL g n h)) 312 31 at') D := by
    intro Y hY hY0 at' hat
    have c : 0 ≤ ebL g n (obD g n h) (obL g n h) := by omega
    have e1 : stE g n (obD g n h) (obL g n h) = Y := by unfold stE; rw [if_pos c]; exact hY
    have F : Fr (fun a k => a = 312 ∧ (k = 29 ∨ k = 31)) I (uI (uI I 312 29 (obD g n h + obL g n h)) 312 31 at') := (Fr.u (S := fun a k => a = 312 ∧ (k = 29 ∨ k = 31)) ⟨rfl, Or.inl rfl⟩).trans (Fr.u ⟨rfl, Or.inr rfl⟩)
    refine hB1 (by rw [eY, e1]; exact hY0) _ (F.mono fun a k q => by unfold mgS; omega) ⟨by rw [F _ _ (by omega)]; exact o1, by rw [F _ _ (by omega)]; exact o2, by rw [F _ _ (by omega)]; exact o3, by rw [F _ _ (by omega), edt]; exact o4, ?_, ?_⟩ ?_ (by rw [uI_eq, eY, e1]; exact hat) (by rw [F _ _ (by omega)]; exact hl)
    · rw [uI_ne (by omega), uI_eq, ede]; unfold stT; rw [if_pos c]
    · rw [F _ _ (by omega), o6, eO1, decide_eq_true c]
    · have : obM g n h = [] := by rw [eM]; unfold stM; rw [e1, if_pos c, if_pos hY0]; rfl
      rw [this, List.append_nil]
      exact hS.fr F (fun a k q => by omega)
  refine S110_204 he ⟨fun q => S110_216 he ⟨fun w => absurd w q, fun _ => ?_⟩, fun q => ⟨fun w => ?_, fun w => S110_216 he ⟨fun _ => ?_, fun v => absurd (Decidable.not_not.mp q) v⟩⟩⟩
  · have c := hdir.mp (b2i_n q)
    refine ⟨⟨by omega, by omega⟩, good (obD g n h + obL g n h) ?_ (by omega) _ rfl⟩
    unfold ebL; rw [if_neg (by omega), if_pos c.2.2]
  · -- by the word
    have nd : ¬ dir = true := by rw [b2i_0.mp (Decidable.not_not.mp q)]; decide
    have nb : ¬ beh = true := by rw [b2i_0.mp w]; decide
    have c : ¬ 0 ≤ ebL g n (obD g n h) (obL g n h) := by
      unfold ebL
      split
      · omega
      · rename_i c1
        split
        · rename_i c2
          exact absurd (hdir.mpr ⟨by omega, by omega, c2⟩) nd
        · split
          · rename_i c3
            have c4 := c3.1
            unfold gb at c4
            split at c4
            · rename_i c5
              exact absurd (hbeh.mpr ⟨by omega, by omega, c4, c3.2⟩) nb
            · omega
          · omega
    have e1 : stE g n (obD g n h) (obL g n h) = ebW g n (obD g n h) := if_neg c
    have fb := ff_bd (P := esP g n) bS.2.1
    rw [o4]
    refine m106 he m4 hd hS (by omega) fun I1 f1 M1 => ?_
    have g1 : ∀ k, I1 312 k = I 312 k := fun k => f1 _ _ (fun q => by unfold mnS at q; omega)
    have F2 : Fr (fun a k => a = 312 ∧ k = 30) I1 (uI I1 312 30 0) := Fr.u ⟨rfl, rfl⟩
    have G2 : ∀ k, k ≠ 30 → uI I1 312 30 0 312 k = I 312 k := fun k hk => by rw [uI_ne (by omega)]; exact g1 k
    have M2 := M1.fr F2 (fun a k q => by omega)
    have hM2 : MoB g n (d : Int) (uI I1 312 30 0) := (hM.mg (f1.mono mnmg)).mg (F2.mono fun a k q => by unfold mgS; omega)
    have FF : Fr (mgS d) I (uI I1 312 30 0) := (f1.mono mnmg).trans (F2.mono fun a k q => by unfold mgS; omega)
    have v30 : uI I1 312 30 0 312 30 = 0 := uI_eq
    have e28 : I1 312 28 = obD g n h := by rw [g1]; exact o4
    rw [e28]
    generalize uI I1 312 30 0 = J at F2 G2 M2 hM2 FF v30
    refine m110_265 he hM2 _ (obD g n h) (by omega) bS.2.1 rfl (S110_294 he ?_)
    have j4 : J 312 4 = (d : Int) := by rw [G2 4 (by omega)]; exact m4
    have j14 := hM2.sd.2.2.1
    have j28 : J 312 28 = obD g n h := by rw [G2 28 (by omega)]; exact o4
    rw [j4, Int.toNat_natCast, j14, j28]
    refine ⟨⟨by omega, by omega⟩, fun v => ⟨⟨by omega, by omega⟩, ?_⟩, fun v => ?_⟩
    · -- no such word
      have eW : ebW g n (obD g n h) = -1 := if_neg (by omega)
      have F3 : Fr (fun a k => a = 312 ∧ k = 29) J (uI J 312 29 n) := Fr.u ⟨rfl, rfl⟩
      have M3 := M2.fr F3 (fun a k q => by omega)
      refine m106 he (by rw [uI_ne (by omega)]; exact j4) hd M3 (by show (s.2.1 ++ [(obD g n h, obD g n h, 3)]).length < 2000; rw [List.length_append, List.length_singleton]; omega) fun I4 f4 M4 => ?_
      have g4 : ∀ k, k ≠ 29 → k ≠ 30 → I4 312 k = I 312 k := fun k q1 q2 => by rw [f4 _ _ (fun q => by unfold mnS at q; omega), uI_ne (by omega)]; exact G2 k q2
      have e44 : I4 312 4 = (d : Int) := by rw [g4 4 (by omega) (by omega)]; exact m4
      have e414 : I4 314 d = n := by rw [f4 _ _ (fun q => by unfold mnS at q; omega), uI_ne (by omega)]; exact j14
      rw [e44, Int.toNat_natCast, e414]
      refine ⟨⟨by omega, by omega⟩, ⟨by omega, by omega⟩, ?_⟩
      have F5 : Fr (fun a k => a = 312 ∧ k = 31) I4 (uI I4 312 31 n) := Fr.u ⟨rfl, rfl⟩
      have M5 := M4.fr F5 (fun a k q => by omega)
      have ei : mF g n h = ((mF g n h).toNat : Int) := by omega
      have e2 : ob2 g n h = n := by
        have : ob2 g n h = skp g n (if 0 ≤ obY g n h then obY g n h + 9 else n) := if_pos eS
        rw [this, eY, e1, eW, if_neg (by decide), skp_ge (Int.le_refl _)]
      have eE : obE g n h = n := by
        unfold obE; rw [e2]; exact wW_stop (Or.inr (Int.le_refl _))
      have k0 : kF' g n (obE g n h) = 0 := by rw [eE]; exact kF_end (Int.le_refl _)
      have hc : obC g n h = false := by unfold obC; rw [eS]; simp
      have hm2 : obM2 g n h = [] := by
        unfold obM2
        rw [if_neg (fun u => by rcases u.2 with u | u; rw [eS] at u; cases u; rw [eY, e1, eW] at u; omega)]
      have hmM : obM g n h = [(obD g n h, obD g n h, 3)] ++ [(obD g n h, obD g n h, 2)] := by
        rw [eM]; unfold stM; rw [if_neg c, e1, eW, if_neg (by decide)]
      have M5 : MM d (uI I4 312 31 n) (s.1, s.2.1 ++ obM g n h ++ obM2 g n h, s.2.2) := by
        rw [hm2, List.append_nil, hmM, ← List.append_assoc]; exact M5
      refine m107 he (by rw [uI_ne (by omega)]; exact e44) hd M5 (i := (mF g n h).toNat) (by omega) (by omega) (gd := false) (ow := false) (by rw [uI_ne (by omega), g4 25 (by omega) (by omega), o1]; exact ei) (by rw [uI_ne (by omega), g4 26 (by omega) (by omega)]; exact o2) (by rw [uI_ne (by omega), g4 27 (by omega) (by omega)]; exact o3) (by rw [uI_ne (by omega), g4 28 (by omega) (by omega)]; exact o4) (eE := n) ?_ ?_ (f := obF g n h) ⟨rfl, rfl, eE, ?_, edt, ?_⟩ ?_ hcap2 fun I6 f6 z6 M6 => ?_
      · rw [uI_ne (by omega), f4 _ _ (fun q => by unfold mnS at q; omega), uI_eq]
      · rw [uI_ne (by omega), f4 _ _ (fun q => by unfold mnS at q; omega), uI_ne (by omega)]; exact v30
      · rw [whF_ob, k0]; simp
      · rw [ede]; unfold stT; rw [if_neg c, eW, if_neg (by decide)]
      · show (s.2.1 ++ obM g n h ++ obM2 g n h).length < 2000
        rw [hm2, hmM]; simp only [List.length_append, List.length_singleton, List.length_nil]; omega
      · have ek := keS_ob (g := g) (n := n) (h := h) (s := s) hc (by omega)
        have M6 : MM d I6 (keS (mF g n h).toNat (obF g n h) (s.1, s.2.1 ++ obM g n h ++ obM2 g n h, s.2.2)) := M6
        rw [ek] at M6
        refine hB2 (by rw [eY, e1, eW]; decide) I6 (FF.trans ((F3.mono fun a k q => by unfold mgS; omega).trans ((f4.mono mnmg).trans ((F5.mono fun a k q => by unfold mgS; omega).trans (f6.mono (clmg (by omega))))))) z6 M6 ?_ ?_
        · rw [f6 _ _ (fun q => by unfold clS mnS at q; omega), uI_eq]
        · rw [f6 _ _ (fun q => by unfold clS mnS at q; omega), uI_ne (by omega), g4 32 (by omega) (by omega)]; exact hl
    · have v' : ff (esP g n) n (obD g n h) < n := by omega
      have eW : ebW g n (obD g n h) = ff (esP g n) n (obD g n h) := if_pos v'
      have W0 : 0 ≤ ebW g n (obD g n h) := by rw [eW]; omega
      have hmM : obM g n h = [(obD g n h, obD g n h, 3)] := by
        rw [eM]; unfold stM; rw [if_neg c, e1, if_pos W0]; rfl
      have fin : ∀ y : Int, y = stT g n (obD g n h) (obL g n h) → RV 110 340 [vR (some 312), vJ, vJ, vJ, vJ, vJ, vJ, vJ, vJ, vJ, vI (ff (esP g n) n (obD g n h))] [vI y, vR (some 312)] e J D Q := by
        intro y hy
        refine S110_340 he ⟨⟨by omega, by omega⟩, ?_⟩
        have F : Fr (fun a k => a = 312 ∧ (k = 29 ∨ k = 31)) J (uI (uI J 312 29 y) 312 31 (ff (esP g n) n (obD g n h) + 9)) := (Fr.u (S := fun a k => a = 312 ∧ (k = 29 ∨ k = 31)) ⟨rfl, Or.inl rfl⟩).trans (Fr.u ⟨rfl, Or.inr rfl⟩)
        refine hB1 (by rw [eY, e1]; exact W0) _ (FF.trans (F.mono fun a k q => by unfold mgS; omega)) ⟨by rw [F _ _ (by omega), G2 25 (by omega)]; exact o1, by rw [F _ _ (by omega), G2 26 (by omega)]; exact o2, by rw [F _ _ (by omega), G2 27 (by omega)]; exact o3, by rw [F _ _ (by omega), G2 28 (by omega), edt]; exact o4, ?_, ?_⟩ ?_ (by rw [uI_eq, eY, e1, eW]) (by rw [F _ _ (by omega), G2 32 (by omega)]; exact hl)
        · rw [uI_ne (by omega), uI_eq, ede]; exact hy
        · rw [F _ _ (by omega), v30, eO1, decide_eq_false c]; rfl
        · rw [hmM]; exact M2.fr F (fun a k q => by omega)
      have eT : stT g n (obD g n h) (obL g n h) = (if obD g n h < ff (esP g n) n (obD g n h) ∧ gb g n (ff (esP g n) n (obD g n h) - 1) = 10 then ff (esP g n) n (obD g n h) - 1 else ff (esP g n) n (obD g n h)) := by
        unfold stT; rw [if_neg c, if_pos W0, eW]
      refine ⟨fun u => S110_338 he (fin _ ?_), fun u => ⟨⟨by omega, by omega⟩, m88 he hM2 (by omega) (by omega) ⟨fun t => S110_338 he (fin _ ?_), fun t => ⟨⟨by omega, by omega⟩, fin _ ?_⟩⟩⟩⟩
      · rw [eT, if_neg (by omega)]
      · have : gb g n (ff (esP g n) n (obD g n h) - 1) = g (ff (esP g n) n (obD g n h) - 1) := if_pos (by omega)
        rw [eT, this, if_neg (fun z => t z.2)]
      · have : gb g n (ff (esP g n) n (obD g n h) - 1) = g (ff (esP g n) n (obD g n h) - 1) := if_pos (by omega)
        rw [eT, this, if_pos ⟨by omega, Decidable.not_not.mp t⟩]
  · have nd : ¬ dir = true := by rw [b2i_0.mp (Decidable.not_not.mp q)]; decide
    have c := hbeh.mp (b2i_n w)
    refine ⟨⟨by omega, by omega⟩, good (obD g n h + obL g n h + 1) ?_ (by omega) _ (by omega)⟩
    have n2 : ¬ esP g n (obD g n h + obL g n h) = true := fun z => nd (hdir.mpr ⟨by omega, by omega, z⟩)
    have n3 : gb g n (obD g n h + obL g n h) = 10 := by unfold gb; rw [if_pos (by omega)]; exact c.2.2.1
    unfold ebL; rw [if_neg (by omega), if_neg n2, if_pos ⟨n3, c.2.2.2⟩]
end
