/-! RepairScanModel.go -/
def lbM (g : Int → Int) (n f : Int) : Int := if f < 0 then -1 else mF g n f
def LB (g : Int → Int) (n f ft : Int) : Prop := (f = -1 ∧ ft = -1) ∨ (0 ≤ f ∧ f < n ∧ tkc (g f) ∧ ft = eF g n f)
def JV (g : Int → Int) (n f l p : Int) : Prop := ¬ (tx g n p 11 = true ∧ (1 ≤ lbM g n f ∧ lbM g n f ≤ 60) ∧ 0 ≤ lbM g n l) ∧ ¬ ((1 ≤ lbM g n l ∧ lbM g n l ≤ 60) ∧ 0 ≤ mF g n p ∧ tx g n (nxF g n p) 11 = true)
section
variable {g : Int → Int} {n : Int}
theorem lbM_0 {f : Int} (h : 0 ≤ f) : lbM g n f = mF g n f := if_neg (by omega)
theorem JV_no {f l p : Int} (h : lbM g n l < 0) : JV g n f l p := ⟨fun q => by omega, fun q => by omega⟩
theorem k_end {p : Int} (hp : p < n) (tk : tkc (g p)) : (tx g n p 12 = true ↔ kF' g n p = 6) ∧ (tx g n p 13 = true ↔ kF' g n p = 7) := by
  have t1 := tk.1
  have t2 := tk.2
  have nr : ¬ (n ≤ p ∨ g p ≤ 32 ∨ g p = 37) := by omega
  have l12 : zstr 12 = [101, 110, 100, 111, 98, 106] := by decide
  have l13 : zstr 13 = [116, 114, 97, 105, 108, 101, 114] := by decide
  have first : ∀ k c, (k = 12 ∧ c = 101) ∨ (k = 13 ∧ c = 116) → tx g n p k = true → g p = c ∧ mF g n p < 0 := by
    intro k c hkc h
    have gp : g p = c := by
      unfold tx isF stF at h
      simp only [Bool.and_eq_true] at h
      rcases hkc with ⟨rfl, rfl⟩ | ⟨rfl, rfl⟩
      · rw [l12] at h; simp only [mat, Bool.and_eq_true, beq_iff_eq] at h; exact h.2.2.1
      · rw [l13] at h; simp only [mat, Bool.and_eq_true, beq_iff_eq] at h; exact h.2.2.1
    refine ⟨gp, ?_⟩
    rcases Int.lt_or_le (mF g n p) 0 with q | q
    · exact q
    · exfalso
      rw [mF_tok hp tk] at q
      have el := tx_len h
      unfold nuF at q
      split at q
      · omega
      · have : ∃ k', (eF g n p - p).toNat = k' + 1 := ⟨(eF g n p - p).toNat - 1, by have := (eF_bd (g := g) (show p ≤ n by omega)).2.2 hp; omega⟩
        obtain ⟨k', hk'⟩ := this
        rw [hk'] at q
        unfold nuN at q
        rw [if_pos (by rcases hkc with ⟨-, rfl⟩ | ⟨-, rfl⟩ <;> omega)] at q
        omega
  refine ⟨⟨fun h => ?_, fun h => ?_⟩, ⟨fun h => ?_, fun h => ?_⟩⟩
  · have a := first 12 101 (Or.inl ⟨rfl, rfl⟩) h
    unfold kF'
    rw [if_neg nr, if_neg (by omega)]
    unfold ksF
    rw [if_pos (by rw [a.1]; decide), if_pos h]
  · unfold kF' at h
    rw [if_neg nr] at h
    split at h
    · unfold knF at h
      repeat (first | omega | split at h)
    · unfold ksF at h
      repeat (first | omega | assumption | split at h)
  · have a := first 13 116 (Or.inr ⟨rfl, rfl⟩) h
    unfold kF'
    rw [if_neg nr, if_neg (by omega)]
    unfold ksF
    rw [if_pos (by rw [a.1]; decide), if_neg (by rw [tx_no h (by decide)]; decide), if_pos h]
  · unfold kF' at h
    rw [if_neg nr] at h
    split at h
    · unfold knF at h
      repeat (first | omega | split at h)
    · unfold ksF at h
      repeat (first | omega | assumption | split at h)
theorem JV_step {f l p : Int} (h : JV g n f l p) (h0 : 0 ≤ p) (hp : p < n) (tk : tkc (g p)) (h5 : kF' g n p ≠ 5) : JV g n l p (nxF g n p) := by
  refine ⟨fun q => h.2 ⟨q.2.1, ?_, q.1⟩, fun q => h5 ?_⟩
  · rw [lbM_0 h0] at q; exact q.2.2
  · rw [lbM_0 h0] at q
    have t1 := tk.1
    have t2 := tk.2
    unfold kF'
    rw [if_neg (by omega), if_pos (by omega)]
    unfold knF
    rw [if_neg (by omega), if_neg (by rw [tx_no q.2.2 (by decide)]; decide), if_pos ⟨q.1, q.2.2⟩]
/-- a number is none of the words -/
theorem num_no {p : Int} (hp : p < n) (tk : tkc (g p)) (hm : 0 ≤ mF g n p) {k : Nat} (hk : k = 11 ∨ k = 12 ∨ k = 13 ∨ k = 23) : tx g n p k = false := by
  cases h : tx g n p k with
  | false => rfl
  | true =>
    exfalso
    have gp : 57 < g p := by
      unfold tx isF stF at h
      simp only [Bool.and_eq_true] at h
      have l11 : zstr 11 = [111, 98, 106] := by decide
      have l12 : zstr 12 = [101, 110, 100, 111, 98, 106] := by decide
      have l13 : zstr 13 = [116, 114, 97, 105, 108, 101, 114] := by decide
      have l23 : zstr 23 = [115, 116, 114, 101, 97, 109] := by decide
      rcases hk with rfl | rfl | rfl | rfl
      · rw [l11] at h; simp only [mat, Bool.and_eq_true, beq_iff_eq] at h; rw [h.2.2.1]; decide
      · rw [l12] at h; simp only [mat, Bool.and_eq_true, beq_iff_eq] at h; rw [h.2.2.1]; decide
      · rw [l13] at h; simp only [mat, Bool.and_eq_true, beq_iff_eq] at h; rw [h.2.2.1]; decide
      · rw [l23] at h; simp only [mat, Bool.and_eq_true, beq_iff_eq] at h; rw [h.2.2.1]; decide
    rw [mF_tok hp tk] at hm
    unfold nuF at hm
    split at hm
    · omega
    · obtain ⟨k', hk'⟩ : ∃ k', (eF g n p - p).toNat = k' + 1 := ⟨(eF g n p - p).toNat - 1, by have := (eF_bd (g := g) (show p ≤ n by omega)).2.2 hp; omega⟩
      rw [hk'] at hm
      unfold nuN at hm
      rw [if_pos (by omega)] at hm
      omega
end
theorem wok_obj : WOK 6972015 (zstr 11) := ⟨by decide, by decide⟩
theorem wok_eob : WOK 116971008192101 (zstr 12) := ⟨by decide, by decide⟩
theorem wok_tra : WOK 32199663643882100 (zstr 13) := ⟨by decide, by decide⟩
theorem wok_str : WOK 120265081255027 (zstr 23) := ⟨by decide, by decide⟩
section
variable {e : En} {g : Int → Int} {n : Int} {d : Nat} {I : HI} {D : HD}
theorem m111_tok (he : HS e) (hM : MoB g n (d : Int) I) (hl : I 312 32 = n) {a p : Int} (ha : I 312 31 = a) (h0 : 0 ≤ a) (h1 : a ≤ n) (hp : skp g n a = p) {f ft l lt : Int} (hF : LB g n f ft) {Q : HI → HD → Prop}
    (hN : p = n → ∀ I', Fr cuS I I' → Q I' D)
    (hY : p < n → ∀ I', Fr cuS I I' → I' 312 31 = eF g n p → I' 312 33 = p → RV 111 60 [vR (some 312), vI f, vJ, vI l, vI lt, vI p, vI (eF g n p), vJ] [vI (lbM g n f)] e I' D Q) :
    RV 111 27 [vR (some 312), vI f, vI ft, vI l, vI lt, vJ, vJ, vJ] [] e I D Q := by
  obtain ⟨m4, hd, m14, h0n, h3n⟩ := hM.sd
  have sb := skp_bd (g := g) h1
  refine S111_27 he (m91 he hM hl ha h0 h1 (Int.le_refl _) (fun q I' f' _ => ⟨fun _ => hN (by omega) I' f', fun w => absurd rfl w⟩) fun q I' f' a31 a33 a34 => ⟨fun w => absurd w (by decide), fun _ => ?_⟩)
  rw [hp] at q a31 a33 a34
  have tk := skp_at (g := g) h1 (by rw [hp]; exact q)
  rw [hp] at tk
  have e1 : tE g n p = eF g n p := (eF_tok q tk).symm
  rw [e1] at a31 a34
  rw [a33, a34]
  have hM' := hM.cu f'
  have nx := hY q I' f' a31 a33
  refine ⟨fun w => ?_, fun w => ?_⟩
  · rcases hF with hF | hF
    · omega
    · have eb := eF_bd (g := g) (show f ≤ n by omega)
      rw [hF.2.2.2]
      refine m95 he hM' hF.1 eb.1 eb.2.1 ?_
      rw [← mF_tok hF.2.1 hF.2.2.1, ← lbM_0 (g := g) (n := n) hF.1]; exact nx
  · have : lbM g n f = -1 := if_pos (by omega)
    rw [this] at nx; exact nx
theorem m111_60 (he : HS e) (hM : MoB g n (d : Int) I) {f l lt p : Int} (hL : LB g n l lt) (hFL : l = -1 → f = -1) (h0 : 0 ≤ p) (hp : p < n) {Q : HI → HD → Prop}
    (hH : tx g n p 11 = true ∧ (1 ≤ lbM g n f ∧ lbM g n f ≤ 60) ∧ 0 ≤ lbM g n l → CV 108 [vR (some 312), vI f] e I D (fun I8 D9 => RV 111 229 [vR (some 312), vJ, vJ, vI l, vI lt, vI p, vI (eF g n p), vJ] [] e (uI (uI (uI (uI (uI (uI I8 312 25 (lbM g n f)) 312 26 f) 312 27 (eF g n p)) 312 28 (-1)) 312 29 0) 312 30 1) D9 Q))
    (hE : ¬ (tx g n p 11 = true ∧ (1 ≤ lbM g n f ∧ lbM g n f ≤ 60) ∧ 0 ≤ lbM g n l) → tx g n p 12 = true → 0 < I 312 25 → CV 107 [vR (some 312), vI p, vI 1] e I D (fun I5 D6 => RV 111 229 [vR (some 312), vJ, vJ, vI l, vI lt, vI p, vI (eF g n p), vJ] [] e I5 D6 Q))
    (hT : ¬ (tx g n p 11 = true ∧ (1 ≤ lbM g n f ∧ lbM g n f ≤ 60) ∧ 0 ≤ lbM g n l) → tx g n p 13 = true → CV 109 [vR (some 312)] e I D (fun I11 D12 => RV 111 229 [vR (some 312), vJ, vJ, vI l, vI lt, vI p, vI (eF g n p), vJ] [] e I11 D12 Q))
    (hS : ¬ (tx g n p 11 = true ∧ (1 ≤ lbM g n f ∧ lbM g n f ≤ 60) ∧ 0 ≤ lbM g n l) → tx g n p 23 = true → 0 < I 312 25 → CV 110 [vR (some 312), vI p, vI (eF g n p), vI lt] e I D (fun I8 D9 => RV 111 229 [vR (some 312), vJ, vJ, vI l, vI lt, vI p, vI (eF g n p), vJ] [] e I8 D9 Q))
    (hO : ¬ (tx g n p 11 = true ∧ (1 ≤ lbM g n f ∧ lbM g n f ≤ 60) ∧ 0 ≤ lbM g n l) → ¬ (tx g n p 12 = true ∧ 0 < I 312 25) → tx g n p 13 = false → ¬ (tx g n p 23 = true ∧ 0 < I 312 25) → RV 111 27 [vR (some 312), vI l, vI lt, vI p, vI (eF g n p), vJ, vJ, vJ] [] e I D Q) :
    RV 111 60 [vR (some 312), vI f, vJ, vI l, vI lt, vI p, vI (eF g n p), vJ] [vI (lbM g n f)] e I D Q := by
  obtain ⟨m4, hd, m14, h0n, h3n⟩ := hM.sd
  have eb := eF_bd (g := g) (show p ≤ n by omega)
  have s173 : ¬ (tx g n p 11 = true ∧ (1 ≤ lbM g n f ∧ lbM g n f ≤ 60) ∧ 0 ≤ lbM g n l) → ¬ (tx g n p 12 = true ∧ 0 < I 312 25) → RV 111 173 [vR (some 312), vJ, vJ, vI l, vI lt, vI p, vI (eF g n p), vJ] [] e I D Q := by
    intro n1 n2
    refine S111_173 he (m94 he hM wok_tra (by decide) h0 (by omega) (by omega) (by omega) ⟨fun q => m94 he hM wok_str (by decide) h0 (by omega) (by omega) (by omega) ⟨fun w => ?_, fun w => ⟨fun v => ?_, fun v => hS n1 (b2i_n w) (by omega)⟩⟩, fun q => hT n1 (b2i_n q)⟩)
    · have w' : tx g n p 23 = false := b2i_0.mp w
      exact S111_229 he (hO n1 n2 (b2i_0.mp q) (fun u => by rw [w'] at u; cases u.1))
    · exact S111_229 he (hO n1 n2 (b2i_0.mp q) (fun u => by omega))
  have s140 : ¬ (tx g n p 11 = true ∧ (1 ≤ lbM g n f ∧ lbM g n f ≤ 60) ∧ 0 ≤ lbM g n l) → RV 111 140 [vR (some 312), vJ, vJ, vI l, vI lt, vI p, vI (eF g n p), vJ] [] e I D Q := by
    intro n1
    refine S111_140 he (m94 he hM wok_eob (by decide) h0 (by omega) (by omega) (by omega) ⟨fun q => s173 n1 (fun u => ?_), fun q => ⟨fun w => s173 n1 (fun u => by omega), fun w => hE n1 (b2i_n q) (by omega)⟩⟩)
    have q' : tx g n p 12 = false := b2i_0.mp q
    rw [q'] at u; cases u.1
  refine S111_60 he (m94 he hM wok_obj (by decide) h0 (by omega) (by omega) (by omega) ⟨fun q => s140 (fun u => ?_), fun q => ⟨fun w => s140 (fun u => by omega), fun w => ⟨fun v => s140 (fun u => by omega), fun v => ?_⟩⟩⟩)
  · have q' : tx g n p 11 = false := b2i_0.mp q
    rw [q'] at u; cases u.1
  · rcases hL with hL | hL
    · -- no token ahead of it
      have hf1 := hFL hL.1
      have : lbM g n f = -1 := if_pos (by omega)
      omega
    · have ebl := eF_bd (g := g) (show l ≤ n by omega)
      rw [hL.2.2.2]
      refine m95 he hM hL.1 ebl.1 ebl.2.1 ?_
      rw [← mF_tok hL.2.1 hL.2.2.1, ← lbM_0 (g := g) (n := n) hL.1, ← hL.2.2.2]
      exact ⟨fun u => s140 (fun t => by omega), fun u => hH ⟨b2i_n q, ⟨by omega, by omega⟩, by omega⟩⟩
end
