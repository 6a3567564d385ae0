/-! the scan as a pure function -/
/-- head, text, end, ended by its word, has a stream, its length holds, data from, data to -/
abbrev FR : Type := Int × Int × Int × Bool × Bool × Bool × Int × Int
/-- objects, mends (place, place, number), repeats (head, end, number), root, size, cut -/
abbrev SC : Type := (Nat → Option FR) × RfL × RfL × Int × Int × Int
def dR (g : Int → Int) (n p0 : Int) : Int × Bool × PrL × RfL := if kF' g n p0 = 9 then dicN g n (enW g n p0) 4000 (nxF g n p0) [] [] else (p0, false, [], [])
def obP (g : Int → Int) (n h : Int) : Int := skp g n (e3F g n h)
def ob1 (g : Int → Int) (n h : Int) : Int := skp g n (dR g n (obP g n h)).1
def obS (g : Int → Int) (n h : Int) : Bool := (dR g n (obP g n h)).2.1 && (tx g n (ob1 g n h) 23 && gb g n (eF g n (ob1 g n h)) == 10)
def obD (g : Int → Int) (n h : Int) : Int := eF g n (ob1 g n h) + 1
def obL (g : Int → Int) (n h : Int) : Int := dfF g n 0 (dR g n (obP g n h)).2.2.1 5
def obY (g : Int → Int) (n h : Int) : Int := stE g n (obD g n h) (obL g n h)
def ob2 (g : Int → Int) (n h : Int) : Int := if obS g n h = true then skp g n (if 0 ≤ obY g n h then obY g n h + 9 else n) else ob1 g n h
def obE (g : Int → Int) (n h : Int) : Int := enW g n (ob2 g n h)
def obF (g : Int → Int) (n h : Int) : FR :=
  (h, e3F g n h, obE g n h, kF' g n (obE g n h) == 6, obS g n h, obS g n h && decide (0 ≤ ebL g n (obD g n h) (obL g n h)), if obS g n h = true then obD g n h else 0, if obS g n h = true then stT g n (obD g n h) (obL g n h) else 0)
def obM (g : Int → Int) (n h : Int) : RfL := if obS g n h = true then stM g n (obD g n h) (obL g n h) else []
/-- the object that begins at h is not finished -/
def obC (g : Int → Int) (n h : Int) : Bool := kF' g n (obE g n h) == 0 && !obS g n h
def obM2 (g : Int → Int) (n h : Int) : RfL := if kF' g n (obE g n h) ≠ 6 ∧ (obS g n h = false ∨ 0 ≤ obY g n h) then [(obE g n h, obE g n h, 1)] else []
def obX (g : Int → Int) (n h : Int) (s : SC) : SC :=
  if obC g n h = true then (s.1, s.2.1 ++ obM g n h ++ [(h, h, 10)], s.2.2.1, s.2.2.2.1, s.2.2.2.2.1, mF g n h)
  else (fun i => if i = (mF g n h).toNat then some (obF g n h) else s.1 i,
    s.2.1 ++ obM g n h ++ obM2 g n h ++ (match s.1 (mF g n h).toNat with | some f => [(f.1, f.1, 4)] | none => []),
    s.2.2.1 ++ (match s.1 (mF g n h).toNat with | some _ => [(h, obE g n h, mF g n h)] | none => []), s.2.2.2)
def obN (g : Int → Int) (n h : Int) : Int := if kF' g n (obE g n h) = 6 then nxF g n (obE g n h) else obE g n h
def trP (g : Int → Int) (n w : Int) : PrL := if kF' g n (nxF g n w) = 9 then (dicN g n n 4000 (nxF g n (nxF g n w)) [] []).2.2.1 else []
def trX (g : Int → Int) (n w : Int) (s : SC) : SC :=
  (s.1, s.2.1, s.2.2.1, if 0 < dfF g n 0 (trP g n w) 6 then dfF g n 0 (trP g n w) 6 else s.2.2.2.1, if 0 ≤ dfF g n 0 (trP g n w) 7 then dfF g n 0 (trP g n w) 7 else s.2.2.2.2.1, s.2.2.2.2.2)
def scN (g : Int → Int) (n : Int) : Nat → Int → SC → SC
  | 0, _, s => s
  | k + 1, p, s => if kF' g n p = 0 then s else if kF' g n p = 5 then scN g n k (obN g n p) (obX g n p s) else if kF' g n p = 7 then scN g n k (nxF g n p) (trX g n p s) else scN g n k (nxF g n p) s
section
variable {e : En} {g : Int → Int} {n : Int} {A : Nat} {D : HD} {I : HI}
theorem c27_161 (he : HS e) (hA : isA A) (hT : Tk g n A I D) {h : Int} {Q : Int → HI → HD → Prop} (k : Nat) : ∀ p x4 : Int, 0 ≤ p → p ≤ n → (n - p).toNat = k → 0 ≤ x4 → x4 ≤ p → RI 27 198 [vR (some A), vI h, vJ, vI (enW g n p), vJ] [] e I D Q → RI 27 161 [vR (some A), vI h, vJ, vI p, vI x4] [] e I D Q := by
  have hn := hT.1.2.2.1
  induction k using Nat.strongRecOn with
  | ind k ih =>
    intro p x4 h0 h1 hk hx0 hx1 hQ
    refine S27_161 he hA ⟨fun q => by omega, fun _ => c53 he hT.1 hT.2.1 h0 h0 h1 (c28 he ⟨fun q => ?_, fun q => ?_⟩)⟩
    · have q : enS g n p = true := b2i_n q
      have : enW g n p = p := wW_stop (Or.inl q)
      rw [this] at hQ; exact hQ
    · have q : enS g n p = false := b2i_0.mp (Decidable.not_not.mp q)
      have hp : p < n := by
        rcases Int.lt_or_le p n with w | w
        · exact w
        · rw [enS_n w] at q; cases q
      have nb := nxF_bd (g := g) h1
      have nb3 := nb.2.2 hp
      have e1 : enW g n p = enW g n (nxF g n p) := wW_go (fun w => by rcases w with w | w; rw [q] at w; cases w; omega)
      rw [e1] at hQ
      exact c55 he hT.1 hT.2.1 h0 h0 h1 ⟨⟨by omega, by omega⟩, ih _ (by omega) (nxF g n p) (x4 + 1) (by omega) nb.2.1 rfl (by omega) (by omega) hQ⟩
end
