/-! The class: what it tells; small calls. -/
def pb (x : sG) (l : sPs) : sG := (x.1, x.2.1, x.2.2.1, l, x.2.2.2.2)
def pf (x : sG) (l : sPs) : sG := (x.1, x.2.1, x.2.2.1, x.2.2.2.1, l, x.2.2.2.2.2)
def aTold (g : sG) (v w : Int32) : Int32 :=
  if v < 0 ∨ nI (gn g) ≤ v then -1 else if w = 0 then (gq g (hN v)).1 0 else if w = 1 then (gq g (hN v)).1 14 else if w = 2 then (gq g (hN v)).1 15 else if w = 3 then nI (gq g (hN v)).2.2.2.1.length else if w = 4 then sJsize (gq g (hN v)).1 (gq g (hN v)).2.1 (gq g (hN v)).2.2.2.1 else if w = 5 then (gq g (hN v)).1 11 else if w = 6 then (gq g (hN v)).1 13 else if w = 7 then nI (gq g (hN v)).2.2.1.length else -1
def aRow (g : sG) (v i w : Int32) : Int32 :=
  if v < 0 ∨ nI (gn g) ≤ v then -1 else if w < 0 ∨ 1 < w then -1 else if i < 0 ∨ nI (gq g (hN v)).2.2.2.1.length ≤ i then -2 else if w = 0 then ((gq g (hN v)).2.2.2.1.getD (hN i) (0, 0)).1 else ((gq g (hN v)).2.2.2.1.getD (hN i) (0, 0)).2
def aJoin (g : sG) (v i w : Int32) : Int32 :=
  if v < 0 ∨ nI (gn g) ≤ v then -1 else if w < 0 ∨ 1 < w then -1 else if i < 0 ∨ ¬ (gq g (hN v)).1 14 = 1 then -2 else sJpart (gq g (hN v)).1 (gq g (hN v)).2.1 (gq g (hN v)).2.2.2.1 (hN i) (if w = 0 then 1 else 0)
def aEst (g : sG) (v : Int32) : Int32 := if v < 0 ∨ nI 4 ≤ v then -1 else ge g (hN v)
def aCount (g : sG) (w : Int32) : Int32 := if w = 0 then nI (gn g) else if w = 1 then nI (gf g).length else if w = 2 then nI (gb g).length else if w = 3 then gc g 3 else if w = 4 then gc g 4 else if w = 5 then gc g 5 else if w = 6 then gc g 6 else if w = 7 then nI (gm g).length else -1
def aLine (g : sG) (v w : Int32) : Int32 := if v < 0 ∨ nI 5 ≤ v then -1 else if w = 0 then (if (gl g (hN v)).1 = 0 then 0 else 1) else if w = 1 then nI (gl g (hN v)).2.1.length else if w = 2 then nI (gl g (hN v)).2.2.length else -1
def sDown (g : sG) (v : Int32) : Int32 × sG := if v < 0 ∨ nI 4 ≤ v then (-1, g) else if (gl g (hN v)).1 = 0 then (-2, g) else (1, sWrong g (hN v))
def sSet (g : sG) (v w : Int32) : Int32 × sG := if v = 0 ∧ 1 ≤ w ∧ w ≤ 8 then (gc g 0, pc g 0 w) else if v = 1 ∧ 1 ≤ w ∧ w ≤ 100 then (gc g 1, pc g 1 w) else if v = 2 ∧ 0 ≤ w ∧ w ≤ 5 then (gc g 2, pc g 2 w) else (-1, g)
def sBind (g : sG) (k t : Int32) : Int32 × sG := if k < 0 ∨ 255 < k then (-1, g) else if (gb g).length = 20 then (-3, g) else (nI ((gb g).length + 1), pb g (gb g ++ [(k, t)]))
def sFact (g : sG) (k t : Int32) : Int32 × sG := if k < 0 ∨ 255 < k then (-1, g) else if t < 0 ∨ 255 < t then (-1, g) else if (gf g).length = 60 then (-3, g) else (nI ((gf g).length + 1), pf g (gf g ++ [(k, t)]))
noncomputable def sOctet (g : sG) (v b : Int32) : Int32 × sG := if v < 0 ∨ nI 5 ≤ v then (-1, g) else if (gl g (hN v)).1 = 0 then (-2, g) else sCome g (hN v) (b &&& 255)
def sOutQ (g : sG) (i : Nat) : Int32 × sG := match (gl g i).2.1 with
  | [] => (-2, g)
  | b :: t => (b, pl g i ((gl g i).1, t, (gl g i).2.2))
def sOut (g : sG) (v : Int32) : Int32 × sG := if v < 0 ∨ nI 5 ≤ v then (-1, g) else sOutQ g (hN v)
theorem rng {v : Int32} {n : Nat} (hn : n < 2 ^ 31) (h : ¬ (v < 0 ∨ nI n ≤ v)) : ∃ i, i < n ∧ v = nI i ∧ hN v = i := by
  rcases pk_ix v hn with q | q | ⟨j, h1, h2⟩
  · exact absurd (Or.inl q) h
  · exact absurd (Or.inr q) h
  · exact ⟨j, h1, h2, by rw [h2]; exact nI_clamp (by omega)⟩
section XR
variable {S0 S S' : fw_S} {x : Nat} {q p p' : Nat → Nat} {g : sG}
theorem RX.told (h : RX S0 S x q p g) (v w : Int32) : F_FW_told x v w S = some (aTold g v w) := by
  unfold F_FW_told aTold
  have h24 := h.2.2.2.2.1.2.1
  by_cases hv : v < 0 ∨ nI (gn g) ≤ v
  · rw [if_pos hv, h.reqNo hv]; rfl
  · rw [if_neg hv]
    obtain ⟨r, hr, rfl, hh⟩ := rng (by omega) hv
    obtain ⟨c1, c2, c3, c4⟩ := h.2.2.2.2.1.2.2.1 r hr
    rw [h.reqAt hr, Option.bind_some, hh]
    simp only [fw_om]
    rw [c4.2.1 0 (by decide), c4.2.1 14 (by decide), c4.2.1 15 (by decide), c4.1.2.2.1, c4.2.1 11 (by decide), c4.2.1 13 (by decide), c4.2.2.2.1, c4.size]
    simp only [Option.bind_some]
    rw [c4.2.2.2.2.2.2.2.2.1.2.2.2.2.2.1]
    repeat' split
    all_goals rfl
theorem RX.rowA (h : RX S0 S x q p g) (v i w : Int32) : F_FW_row x v i w S = some (aRow g v i w) := by
  unfold F_FW_row aRow
  have h24 := h.2.2.2.2.1.2.1
  by_cases hv : v < 0 ∨ nI (gn g) ≤ v
  · rw [if_pos hv, h.reqNo hv]; rfl
  · rw [if_neg hv]
    obtain ⟨r, hr, rfl, hh⟩ := rng (by omega) hv
    obtain ⟨c1, c2, c3, c4⟩ := h.2.2.2.2.1.2.2.1 r hr
    have hP := c4.2.2.2.2.2.2.2.2.1
    have hl := hP.2.2.2.2.2.2.1
    rw [h.reqAt hr, Option.bind_some, hh]
    simp only [fw_om]
    by_cases w0 : w < 0
    · rw [if_pos w0, if_pos (Or.inl w0)]
    · rw [if_neg w0]
      by_cases w1 : w ≤ 1
      · have hw : ¬ (w < 0 ∨ 1 < w) := fun z => z.elim w0 (fun z => absurd w1 (Int32.not_le.mpr z))
        rw [if_pos w1, if_neg hw]
        by_cases hi : i < 0 ∨ nI (gq g r).2.2.2.1.length ≤ i
        · rw [if_pos hi]
          by_cases i0 : i < 0
          · rw [if_pos i0]
          · rw [if_neg i0, c4.1.2.2.1]
            simp only
            rw [hP.2.2.2.2.2.1, if_neg (Int32.not_lt.mpr (hi.resolve_left i0))]
        · obtain ⟨j, hj, rfl, hhj⟩ := rng (by omega) hi
          have hg := List.getElem?_eq_getElem hj
          have i0 : ¬ nI j < 0 := fun z => hi (Or.inl z)
          rw [if_neg hi, if_neg i0, c4.1.2.2.1]
          simp only
          rw [hP.2.2.2.2.2.1, if_pos (nI_lt hj (by omega)), hP.key hg, hP.val hg, hhj]
          have e : (gq g r).2.2.2.1.getD j (0, 0) = (gq g r).2.2.2.1[j] := by simp [hj]
          rw [e]
          by_cases wz : w = 0
          · rw [if_pos wz, if_pos wz]; rfl
          · rw [if_neg wz, if_neg wz]; rfl
      · rw [if_neg w1, if_pos (Or.inr (Int32.not_le.mp w1))]
theorem RX.joinA (h : RX S0 S x q p g) (v i w : Int32) : F_FW_joined x v i w S = some (aJoin g v i w) := by
  unfold F_FW_joined aJoin
  have h24 := h.2.2.2.2.1.2.1
  by_cases hv : v < 0 ∨ nI (gn g) ≤ v
  · rw [if_pos hv, h.reqNo hv]; rfl
  · rw [if_neg hv]
    obtain ⟨r, hr, rfl, hh⟩ := rng (by omega) hv
    obtain ⟨c1, c2, c3, c4⟩ := h.2.2.2.2.1.2.2.1 r hr
    rw [h.reqAt hr, Option.bind_some, hh]
    simp only [fw_om]
    rw [c4.2.1 14 (by decide)]
    by_cases w0 : w < 0
    · rw [if_pos w0, if_pos (Or.inl w0)]
    · rw [if_neg w0]
      by_cases w1 : w ≤ 1
      · have hw : ¬ (w < 0 ∨ 1 < w) := fun z => z.elim w0 (fun z => absurd w1 (Int32.not_le.mpr z))
        rw [if_pos w1, if_neg hw]
        by_cases i0 : i < 0
        · rw [if_pos i0, if_pos (Or.inl i0)]
        · rw [if_neg i0]
          by_cases hs : (gq g r).1 14 = 1
          · have hz : ¬ (i < 0 ∨ ¬ (gq g r).1 14 = 1) := fun z => z.elim i0 (fun z => z hs)
            rw [if_pos hs, if_neg hz]
            obtain ⟨j, hj, rfl⟩ := nI_of i0
            have hhj : hN (nI j) = j := nI_clamp hj
            rw [hhj]
            by_cases wz : w = 0
            · rw [if_pos wz, if_pos wz, c4.part hj 1]; rfl
            · rw [if_neg wz, if_neg wz, c4.part hj 0]; rfl
          · rw [if_neg hs, if_pos (Or.inr hs)]
      · rw [if_neg w1, if_pos (Or.inr (Int32.not_le.mp w1))]
theorem RX.estA (h : RX S0 S x q p g) (v : Int32) : F_FW_estimate x v S = some (aEst g v) := by
  obtain ⟨a, b, c, d, e, f, l1, l2, l3, l4, w⟩ := h.2.1
  unfold F_FW_estimate aEst
  by_cases hv : v < 0 ∨ nI 4 ≤ v
  · rw [if_pos hv]
    by_cases v0 : v < 0
    · rw [if_pos v0]
    · rw [if_neg v0, e]
      simp only [fw_om]
      rw [l3, if_neg (Int32.not_lt.mpr (hv.resolve_left v0))]
  · obtain ⟨i, hi, rfl, hh⟩ := rng (by decide) hv
    have i0 : ¬ nI i < 0 := fun z => hv (Or.inl z)
    have e4 : (nI i).toNatClampNeg = i := nI_clamp (by omega)
    have e5 : ¬ 4 ≤ i := by omega
    have e6 : nI i < nI 4 := nI_lt hi (by omega)
    rw [if_neg hv, hh]
    simp only [fw_om, e, l3, i0, e4, e5, e6, if_false, if_true, or_self, (h.2.2.2.2.2.2.2 i hi).1]
theorem RX.countA (h : RX S0 S x q p g) (w : Int32) : F_FW_count x w S = some (aCount g w) := by
  obtain ⟨a, b, c, d, e, f, -⟩ := h.2.1
  obtain ⟨s0, s1, s2, s3, s4, s5⟩ := h.2.2.1
  have hsv := h.2.2.2.2.2.2.1
  have hnx := h.2.2.2.2.2.1
  unfold F_FW_count aCount
  rw [h.2.2.2.2.1.1, d, c, s3, s4, s5]
  simp only [fw_om]
  rw [hsv.1.1.1, hsv.2, hsv.1.2.2.2.2.2.1, hnx.2.2.2.2.2.1]
  simp only
  rw [hsv.1.2.1.2.2.2.2.2.1]
  repeat' split
  all_goals rfl
theorem RX.lineA (h : RX S0 S x q p g) (v w : Int32) : F_FW_line x v w S = some (aLine g v w) := by
  unfold F_FW_line aLine
  by_cases hv : v < 0 ∨ nI 5 ≤ v
  · rw [if_pos hv, h.wireNo hv]; rfl
  · obtain ⟨i, hi, rfl, hh⟩ := rng (by decide) hv
    obtain ⟨hup, hQ, hO⟩ := h.2.2.2.1 i hi
    rw [if_neg hv, h.wire hi, Option.bind_some, hh]
    simp only [fw_om]
    rw [hup, hQ.2.2.2.1, hO.2.2.2.1]
    repeat' split
    all_goals rfl
theorem RX.downA (h : RX S0 S x q p g) (v : Int32) : ∃ S', F_FW_down x v S = some ((sDown g v).1, S') ∧ RX S0 S' x q p (sDown g v).2 := by
  unfold F_FW_down sDown
  by_cases hv : v < 0 ∨ nI 4 ≤ v
  · rw [if_pos hv, h.houseNo hv]
    exact ⟨S, rfl, h⟩
  · obtain ⟨i, hi, rfl, hh⟩ := rng (by decide) hv
    obtain ⟨hup, hQ, hO⟩ := h.2.2.2.1 i (by omega)
    rw [if_neg hv, h.house hi, Option.bind_some, hh]
    simp only [fw_om]
    rw [hup]
    by_cases hz : (gl g i).1 = 0
    · rw [if_pos hz, if_pos hz]
      exact ⟨S, rfl, h⟩
    · rw [if_neg hz, if_neg hz]
      obtain ⟨S1, e1, v1⟩ := h.wrong (i := i) (by omega)
      rw [if_neg (show ¬ nI i = 4 from nI_ne (b := 4) (by omega) (by omega) (by decide))] at e1
      rw [e1]
      exact ⟨S1, rfl, v1⟩
theorem RX.octA (h : RX S0 S x q p g) (hok : okG g) (v b : Int32) : ∃ S' p', F_FW_octet x v b S = some ((sOctet g v b).1, S') ∧ RX S0 S' x q p' (sOctet g v b).2 := by
  unfold F_FW_octet sOctet
  by_cases hv : v < 0 ∨ nI 5 ≤ v
  · rw [if_pos hv, h.wireNo hv]
    exact ⟨S, p, rfl, h⟩
  · obtain ⟨i, hi, rfl, hh⟩ := rng (by decide) hv
    obtain ⟨hup, hQ, hO⟩ := h.2.2.2.1 i hi
    rw [if_neg hv, h.wire hi, Option.bind_some, hh]
    simp only [fw_om]
    rw [hup]
    by_cases hz : (gl g i).1 = 0
    · rw [if_pos hz, if_pos hz]
      exact ⟨S, p, rfl, h⟩
    · rw [if_neg hz, if_neg hz]
      obtain ⟨S1, p1, e1, v1⟩ := h.take hok hi (b8_and b)
      rw [e1]
      exact ⟨S1, p1, rfl, v1⟩
/-- the first byte of a line's out row goes -/
theorem RX.outQ (h : RX S0 S x q p g) {i : Nat} (hi : i < 5) : ∃ S', F_Wire_takeFirst (x + 47 + 4 * i) S = some ((sOutQ g i).1, S') ∧ RX S0 S' x q p (sOutQ g i).2 := by
  obtain ⟨hup, hQ, hO⟩ := h.2.2.2.1 i hi
  unfold sOutQ
  cases hc : (gl g i).2.1 with
  | nil =>
    rw [hc] at hQ
    exact ⟨S, hQ.none, h⟩
  | cons b t =>
    rw [hc] at hQ
    obtain ⟨S1, p1, q1, s1, g1, k1⟩ := hQ.take
    exact ⟨S1, p1, h.line hi (ot.of s1 (fun a ha => g1 a (by omega))) ⟨by rw [k1 0 (by decide) (by decide)]; exact hup, q1, hO.keep s1 (k1 5 (by decide) (by decide)) (k1 6 (by decide) (by decide)) (g1 _ (by omega)) (g1 _ (by omega))⟩⟩
theorem RX.outA (h : RX S0 S x q p g) (v : Int32) : ∃ S', F_FW_out x v S = some ((sOut g v).1, S') ∧ RX S0 S' x q p (sOut g v).2 := by
  unfold F_FW_out sOut
  by_cases hv : v < 0 ∨ nI 5 ≤ v
  · rw [if_pos hv, h.wireNo hv]
    exact ⟨S, rfl, h⟩
  · obtain ⟨i, hi, rfl, hh⟩ := rng (by decide) hv
    rw [if_neg hv, h.wire hi, Option.bind_some, hh]
    simp only [fw_om]
    obtain ⟨S1, e1, v1⟩ := h.outQ hi
    rw [e1]
    exact ⟨S1, rfl, v1⟩
end XR
