/-! The reference: what it tells. -/
theorem isIn_sz (v : Int32) {n : Nat} (hn : n < 2 ^ 31) (S : fw_S) : F_Mo_isIn v 0 (nI n - 1) S = some (if v < 0 ∨ nI n ≤ v then 0 else 1) := by
  cases n with
  | succ k =>
    have e : nI (k + 1) - 1 = nI k := nI_sub (a := k + 1) (b := 1) (by omega)
    rw [e]
    exact isIn_0 v (by omega) S
  | zero =>
    have e : nI 0 - 1 = (-1 : Int32) := by decide
    rw [e, isIn_or]
    by_cases h0 : v < 0
    · rw [if_pos (Or.inl h0), if_pos (Or.inl h0)]
    · obtain ⟨j, hj, rfl⟩ := nI_of h0
      have h1 : (-1 : Int32) < nI j := Int32.lt_of_lt_of_le (show (-1 : Int32) < 0 by decide) (Int32.not_lt.mp h0)
      rw [if_pos (Or.inr h1), if_pos (Or.inr (nI_le (by omega) hj))]
section MJ
variable {S0 S : fw_S} {m r : Nat} {g : sG} {f : Nat → Int32} {B R : sPs} {K LB : List Int32} {w v : Int32} {t : Nat}
theorem jI {k6 : Nat → Int32 → Int32 → Int32 → Int32 → Int32 → Option Int32} (hS : ShM S m) (h : RqM S m r (f, B, K, R, LB)) (hr : r < 24) (hw : ∀ c, c ≤ 1300 → (nI c = w ↔ c = t)) {j : Nat} (hj : j < B.length) : ∀ (n c' i c : Nat), i + n = R.length → n < c' → c ≤ t → c + n ≤ 1300 →
    F_Mo_joinedOnes_l58 S k6 c' m (nI r) w v (nI c) (nI j) (nI i) = match (sHit B[j].1 (R.drop i))[t - c]? with
      | some x => some (if v = 0 then B[j].2 else x.2)
      | none => k6 m (nI r) w v (nI (c + (sHit B[j].1 (R.drop i)).length)) (nI (j + 1)) := by
  obtain ⟨-, ⟨a1, a2, a3, a4⟩, ⟨b1, b2, b3, b4, b5, b6⟩, l1, l2, l3, l4⟩ := h
  simp only at a1 a3 b1 b2 b4 b5 l1 l3
  intro n
  induction n with
  | zero =>
    intro c' i c hi hc h1 h2
    obtain ⟨c', rfl⟩ : ∃ c'', c' = c'' + 1 := ⟨c' - 1, by omega⟩
    rw [F_Mo_joinedOnes_l58, hS.o26, hS.l19, if_neg (nI_in (by omega) (by omega)), nI_clamp (n := r) (by omega), a3, if_pos (nI_le (by omega) (by omega)), List.drop_eq_nil_of_le (by omega), nI_1]
    simp [sHit]
  | succ n ih =>
    intro c' i c hi hc h1 h2
    obtain ⟨c', rfl⟩ : ∃ c'', c' = c'' + 1 := ⟨c' - 1, by omega⟩
    have hil : i < R.length := by omega
    have e20 : fw_g S (m + 20) (60 * r + i) = R[i].1 := by
      rw [b4.get (j := i) (by rw [List.length_map]; exact hil), List.getElem_map]
    have e21 : fw_g S (m + 21) (60 * r + i) = R[i].2 := by
      rw [b5.get (j := i) (by rw [List.length_map]; exact hil), List.getElem_map]
    have e13 : fw_g S (m + 13) (20 * r + j) = B[j].1 := by
      rw [b1.get (j := j) (by rw [List.length_map]; exact hj), List.getElem_map]
    have e14 : fw_g S (m + 14) (20 * r + j) = B[j].2 := by
      rw [b2.get (j := j) (by rw [List.length_map]; exact hj), List.getElem_map]
    rw [F_Mo_joinedOnes_l58, hS.o26, hS.l19, if_neg (nI_in (by omega) (by omega)), nI_clamp (n := r) (by omega), a3, if_neg (nI_ge (by omega) (by omega)), hS.o27, m60, nI_add, hS.l20, if_neg (nI_in (by omega) (by omega)), nI_clamp (n := 60 * r + i) (by omega), e20, hS.o20, m20, nI_add, hS.l13, if_neg (nI_in (by omega) (by omega)), nI_clamp (n := 20 * r + j) (by omega), e13, List.drop_eq_getElem_cons hil, sHit_cons]
    by_cases he : R[i].1 = B[j].1
    · rw [if_pos he, if_pos he]
      by_cases hct : c = t
      · rw [if_pos ((hw c (by omega)).mpr hct), hct, Nat.sub_self]
        simp only [List.getElem?_cons_zero]
        unfold F_Mo_joinedOnes_j102
        by_cases hv : v = 0
        · rw [if_pos hv, if_pos hv, hS.o21, m20, nI_add, hS.l14, if_neg (nI_in (by omega) (by omega)), nI_clamp (n := 20 * r + j) (by omega), e14]
        · rw [if_neg hv, if_neg hv, hS.o28, m60, nI_add, hS.l21, if_neg (nI_in (by omega) (by omega)), nI_clamp (n := 60 * r + i) (by omega), e21]
      · rw [if_neg (fun z => hct ((hw c (by omega)).mp z)), nI_1, nI_1, ih c' (i + 1) (c + 1) (by omega) (by omega) (by omega) (by omega), List.length_cons]
        rw [show t - c = (t - (c + 1)) + 1 by omega, List.getElem?_cons_succ]
        rw [show c + 1 + (sHit B[j].fst (List.drop (i + 1) R)).length = c + ((sHit B[j].fst (List.drop (i + 1) R)).length + 1) by omega]
    · rw [if_neg he, if_neg he, nI_1, ih c' (i + 1) c (by omega) (by omega) (by omega) (by omega)]
theorem jF (hS : ShM S m) (h : RqM S m r (f, B, K, R, LB)) (hr : r < 24) (h1 : f 14 = 1) (h15 : f 15 = 0 ∨ f 15 = 1 ∨ f 15 = 3) : F_Mo_isFailedSilently m (nI r) S = some (if f 15 = 0 then 0 else 1) := by
  have e10 : fw_g S (m + 10) r = f 14 := h.a10
  have e11 : fw_g S (m + 11) r = f 15 := h.a11
  unfold F_Mo_isFailedSilently
  rw [hS.o17, hS.l10, if_neg (nI_in (by omega) (by omega)), nI_clamp (n := r) (by omega), e10, if_pos h1, hS.o18, hS.l11, if_neg (fun z => z.elim (fun z => nI_pos (n := r) (by omega) z) (fun z => by omega)), e11]
  rcases h15 with e | e | e
  · rw [e, if_pos (by decide), if_pos rfl]
  · rw [e, if_neg (by decide), if_neg (by decide)]
  · rw [e, if_neg (by decide), if_neg (by decide)]
theorem jO (hS : ShM S m) (h : RqM S m r (f, B, K, R, LB)) (hr : r < 24) (h1 : f 14 = 1) (h15 : f 15 = 0) (hw : ∀ c, c ≤ 1300 → (nI c = w ↔ c = t)) : ∀ (n c' j c : Nat), j + n = B.length → n < c' → c ≤ t → c ≤ j * 60 →
    F_Mo_joinedOnes_l6 S c' m (nI r) w v (nI c) (nI j) = some (match (sJo (B.drop j) R)[t - c]? with
      | some x => if v = 0 then x.1 else x.2
      | none => nI (c + (sJo (B.drop j) R).length)) := by
  have a1 : fw_g S (m + 12) r = nI B.length := h.2.1.1
  have l1 : B.length ≤ 20 := h.2.2.2.1
  have l3 : R.length ≤ 60 := h.2.2.2.2.2.1
  have hf := jF hS h hr h1 (Or.inl h15)
  rw [if_pos h15] at hf
  intro n
  induction n with
  | zero =>
    intro c' j c hj hc h2 h3
    obtain ⟨c', rfl⟩ : ∃ c'', c' = c'' + 1 := ⟨c' - 1, by omega⟩
    rw [F_Mo_joinedOnes_l6, hS.o19, hS.l12, if_neg (nI_in (by omega) (by omega)), nI_clamp (n := r) (by omega), a1, if_pos (nI_le (by omega) (by omega)), List.drop_eq_nil_of_le (by omega)]
    simp [sJo]
  | succ n ih =>
    intro c' j c hj hc h2 h3
    obtain ⟨c', rfl⟩ : ∃ c'', c' = c'' + 1 := ⟨c' - 1, by omega⟩
    have hlt : j < B.length := by omega
    have hI := jI (k6 := F_Mo_joinedOnes_l6 S c') (v := v) hS h hr hw hlt R.length 4096 0 c (by omega) (by omega) h2 (by omega)
    rw [F_Mo_joinedOnes_l6, hS.o19, hS.l12, if_neg (nI_in (by omega) (by omega)), nI_clamp (n := r) (by omega), a1, if_neg (nI_ge (by omega) (by omega)), hf, Option.bind_some, if_pos rfl, show (0 : Int32) = nI 0 from rfl, hI, List.drop_zero, List.drop_eq_getElem_cons hlt, sJo_cons]
    have hle := sHit_le B[j].1 R
    by_cases hc : t - c < (sHit B[j].1 R).length
    · rw [List.getElem?_append_left (by simpa using hc), List.getElem?_map, List.getElem?_eq_getElem hc]
      rfl
    · rw [List.getElem?_append_right (by simpa using hc), List.getElem?_eq_none (by omega)]
      simp only [List.length_map, List.length_append]
      rw [ih c' (j + 1) _ (by omega) (by omega) (by omega) (by omega)]
      rw [show t - (c + (sHit B[j].1 R).length) = t - c - (sHit B[j].1 R).length by omega, Nat.add_assoc]
      rfl
theorem jS (hS : ShM S m) (h : RqM S m r (f, B, K, [], LB)) (hr : r < 24) (h1 : f 14 = 1) (h15 : f 15 = 1 ∨ f 15 = 3) (hw : ∀ c, c ≤ 1300 → (nI c = w ↔ c = t)) : ∀ (n c' j : Nat), j + n = B.length → n < c' → j ≤ t →
    F_Mo_joinedOnes_l6 S c' m (nI r) w v (nI j) (nI j) = some (match (B.drop j)[t - j]? with
      | some x => if v = 0 then x.2 else -1
      | none => nI B.length) := by
  have a1 : fw_g S (m + 12) r = nI B.length := h.2.1.1
  have l1 : B.length ≤ 20 := h.2.2.2.1
  have hf := jF hS h hr h1 (Or.inr h15)
  rw [if_neg (fun z => by rcases h15 with e | e <;> rw [e] at z <;> exact absurd z (by decide))] at hf
  intro n
  induction n with
  | zero =>
    intro c' j hj hc h2
    obtain ⟨c', rfl⟩ : ∃ c'', c' = c'' + 1 := ⟨c' - 1, by omega⟩
    rw [F_Mo_joinedOnes_l6, hS.o19, hS.l12, if_neg (nI_in (by omega) (by omega)), nI_clamp (n := r) (by omega), a1, if_pos (nI_le (by omega) (by omega)), List.drop_eq_nil_of_le (by omega)]
    simp
    rw [← hj, Nat.add_zero]
  | succ n ih =>
    intro c' j hj hc h2
    obtain ⟨c', rfl⟩ : ∃ c'', c' = c'' + 1 := ⟨c' - 1, by omega⟩
    have hlt : j < B.length := by omega
    have e14 : fw_g S (m + 14) (20 * r + j) = B[j].2 := by
      rw [h.2.2.1.2.1.get (j := j) (by rw [List.length_map]; exact hlt), List.getElem_map]
    rw [F_Mo_joinedOnes_l6, hS.o19, hS.l12, if_neg (nI_in (by omega) (by omega)), nI_clamp (n := r) (by omega), a1, if_neg (nI_ge (by omega) (by omega)), hf, Option.bind_some, if_neg (by decide), List.drop_eq_getElem_cons hlt]
    by_cases hjt : j = t
    · rw [if_pos ((hw j (by omega)).mpr hjt), ← hjt, Nat.sub_self]
      simp only [List.getElem?_cons_zero]
      unfold F_Mo_joinedOnes_j31
      by_cases hv : v = 0
      · rw [if_pos hv, if_pos hv, hS.o21, m20, nI_add, hS.l14, if_neg (nI_in (by omega) (by omega)), nI_clamp (n := 20 * r + j) (by omega), e14]
      · rw [if_neg hv, if_neg hv]
    · have hI := jI (k6 := F_Mo_joinedOnes_l6 S c') (v := v) hS h hr hw hlt 0 4096 0 (j + 1) (by simp) (by omega) (by omega) (by omega)
      rw [if_neg (fun z => hjt ((hw j (by omega)).mp z)), nI_1, show (0 : Int32) = nI 0 from rfl, hI, List.drop_nil]
      have e0 : sHit B[j].1 [] = [] := rfl
      rw [e0]
      simp only [List.getElem?_nil, List.length_nil, Nat.add_zero]
      rw [ih c' (j + 1) (by omega) (by omega) (by omega), show t - j = (t - (j + 1)) + 1 by omega, List.getElem?_cons_succ]
      rfl
/-- the entries that are joined: what stands at place t, or how many there are -/
theorem RM.ones (h : RM S0 S m g) (hok : okG g) (hr : r < gn g) (h1 : (gq g r).1 14 = 1) (hw : ∀ c, c ≤ 1300 → (nI c = w ↔ c = t)) : F_Mo_joinedOnes m (nI r) w v S = some (if (gq g r).1 15 = 0 then (match (sJo (gq g r).2.1 (gq g r).2.2.2.1)[t]? with
      | some x => if v = 0 then x.1 else x.2
      | none => nI (sJo (gq g r).2.1 (gq g r).2.2.2.1).length) else (match ((gq g r).2.1)[t]? with
      | some x => if v = 0 then x.2 else -1
      | none => nI (gq g r).2.1.length)) := by
  have h24 := h.n24
  have hq := h.rq hr
  have hS := h.1
  have l1 := hq.2.2.2.1
  obtain ⟨w1, w2, w3⟩ := (hok.2.2.2.2.2.1 r hr).2.2.2.2.2.2.2.2.2.2.1
  unfold F_Mo_joinedOnes
  by_cases h15 : (gq g r).1 15 = 0
  · have := jO (v := v) (w := w) (t := t) (f := (gq g r).1) (B := (gq g r).2.1) (K := (gq g r).2.2.1) (R := (gq g r).2.2.2.1) (LB := (gq g r).2.2.2.2) hS hq (by omega) h1 h15 hw (gq g r).2.1.length 4096 0 0 (by omega) (by omega) (by omega) (by omega)
    rw [show (0 : Int32) = nI 0 from rfl, this, show nI 0 = (0 : Int32) from rfl, if_pos h15, List.drop_zero, Nat.sub_zero, Nat.zero_add]
  · have hq' : RqM S m r ((gq g r).1, (gq g r).2.1, (gq g r).2.2.1, [], (gq g r).2.2.2.2) := by
      rw [← w3 h1 h15]
      exact hq
    have := jS (v := v) (w := w) (t := t) (f := (gq g r).1) (B := (gq g r).2.1) (K := (gq g r).2.2.1) (LB := (gq g r).2.2.2.2) hS hq' (by omega) h1 (w1.resolve_left h15) hw (gq g r).2.1.length 4096 0 (by omega) (by omega) (by omega)
    rw [show (0 : Int32) = nI 0 from rfl, this, show nI 0 = (0 : Int32) from rfl, if_neg h15, List.drop_zero, Nat.sub_zero]
theorem RM.size (h : RM S0 S m g) (hok : okG g) (hr : r < gn g) (h1 : (gq g r).1 14 = 1) : F_Mo_joinedOnes m (nI r) (-1) v S = some (sJsize (gq g r).1 (gq g r).2.1 (gq g r).2.2.2.1) := by
  have hq := h.rq hr
  have l1 := hq.2.2.2.1
  have l3 := hq.2.2.2.2.2.1
  have hle := sJo_le (gq g r).2.1 (gq g r).2.2.2.1
  have hm : (gq g r).2.1.length * (gq g r).2.2.2.1.length ≤ 20 * 60 := Nat.mul_le_mul l1 l3
  have hw : ∀ c, c ≤ 1300 → (nI c = (-1 : Int32) ↔ c = 10000) := fun c hc => ⟨fun z => by
    have hp : ¬ nI c < 0 := nI_pos (by omega)
    rw [z] at hp
    exact absurd (by decide) hp, fun z => by omega⟩
  rw [h.ones hok hr h1 hw]
  unfold sJsize
  rw [if_pos h1, List.getElem?_eq_none (by omega), List.getElem?_eq_none (by omega)]
theorem RM.told (h : RM S0 S m g) (hok : okG g) (v w : Int32) : F_Mo_told m v w S = some (aTold g v w) := by
  unfold F_Mo_told aTold
  have h24 := h.n24
  have hS := h.1
  rw [h.2.2.2.1.1, isIn_sz v (by omega), Option.bind_some]
  by_cases hv : v < 0 ∨ nI (gn g) ≤ v
  · rw [if_pos hv, if_pos hv, if_pos rfl]
  · rw [if_neg hv, if_neg hv, if_neg (by decide)]
    obtain ⟨r, hr, rfl, hh⟩ := rng (by omega) hv
    have hq := h.rq hr
    have hno : ¬ (nI r < 0 ∨ 24 ≤ r) := fun z => z.elim (fun z => nI_pos (by omega) z) (fun z => by omega)
    rw [hh, hS.o15, hS.o17, hS.o17, hS.o18, hS.o26, hS.o30, hS.o31, hS.o22, hS.l8, hS.l10, hS.l11, hS.l19, hS.l23, hS.l24, hS.l15, nI_clamp (n := r) (by omega), if_neg hno, if_neg hno, if_neg hno, if_neg hno, if_neg hno, if_neg hno, if_neg hno, if_neg hno, hq.a8, hq.a10, hq.a11, hq.2.1.2.2.1, hq.a23, hq.a24, hq.2.1.2.1]
    have e4 : (if (gq g r).1 14 = 1 then (Option.bind (F_Mo_joinedOnes m (nI r) (-1) 0 S) (fun x => some x)) else some (0 : Int32)) = some (sJsize (gq g r).1 (gq g r).2.1 (gq g r).2.2.2.1) := by
      by_cases h1 : (gq g r).1 14 = 1
      · rw [if_pos h1, h.size hok hr h1]
        rfl
      · rw [if_neg h1]
        unfold sJsize
        rw [if_neg h1]
    rw [e4]
    by_cases w0 : w = 0
    · rw [if_pos w0, if_pos w0]
    rw [if_neg w0, if_neg w0]
    by_cases w1 : w = 1
    · rw [if_pos w1, if_pos w1]
    rw [if_neg w1, if_neg w1]
    by_cases w2 : w = 2
    · rw [if_pos w2, if_pos w2]
    rw [if_neg w2, if_neg w2]
    by_cases w3 : w = 3
    · rw [if_pos w3, if_pos w3]
    rw [if_neg w3, if_neg w3]
    by_cases w4 : w = 4
    · rw [if_pos w4, if_pos w4]
    rw [if_neg w4, if_neg w4]
    by_cases w5 : w = 5
    · rw [if_pos w5, if_pos w5]
    rw [if_neg w5, if_neg w5]
    by_cases w6 : w = 6
    · rw [if_pos w6, if_pos w6]
    rw [if_neg w6, if_neg w6]
    by_cases w7 : w = 7
    · rw [if_pos w7, if_pos w7]
    rw [if_neg w7, if_neg w7]
theorem isIn_01 (w : Int32) (S : fw_S) : F_Mo_isIn w 0 1 S = some (if w < 0 ∨ 1 < w then 0 else 1) := isIn_or w 0 1 S
theorem RM.rowA (h : RM S0 S m g) (v i w : Int32) : F_Mo_row m v i w S = some (aRow g v i w) := by
  unfold F_Mo_row aRow
  have h24 := h.n24
  have hS := h.1
  rw [h.2.2.2.1.1, isIn_sz v (by omega), Option.bind_some]
  by_cases hv : v < 0 ∨ nI (gn g) ≤ v
  · rw [if_pos hv, if_pos hv, if_pos rfl]
  · rw [if_neg hv, if_neg hv, if_neg (by decide)]
    obtain ⟨r, hr, rfl, hh⟩ := rng (by omega) hv
    have hq := h.rq hr
    rw [hh, isIn_01, Option.bind_some]
    by_cases hw : w < 0 ∨ 1 < w
    · rw [if_pos hw, if_pos hw, if_pos rfl]
    · rw [if_neg hw, if_neg hw, if_neg (by decide), hS.o26, hS.l19, if_neg (nI_in (by omega) (by omega)), nI_clamp (n := r) (by omega), hq.2.1.2.2.1]
      have l3 := hq.2.2.2.2.2.1
      rw [isIn_sz i (by omega), Option.bind_some]
      by_cases hi : i < 0 ∨ nI (gq g r).2.2.2.1.length ≤ i
      · rw [if_pos hi, if_pos hi, if_pos rfl]
      · rw [if_neg hi, if_neg hi, if_neg (by decide)]
        obtain ⟨k, hk, rfl, hhk⟩ := rng (by omega) hi
        have e20 : fw_g S (m + 20) (60 * r + k) = ((gq g r).2.2.2.1)[k].1 := by
          rw [hq.2.2.1.2.2.2.1.get (j := k) (by rw [List.length_map]; exact hk), List.getElem_map]
        have e21 : fw_g S (m + 21) (60 * r + k) = ((gq g r).2.2.2.1)[k].2 := by
          rw [hq.2.2.1.2.2.2.2.1.get (j := k) (by rw [List.length_map]; exact hk), List.getElem_map]
        have eD : (gq g r).2.2.2.1.getD k (0, 0) = ((gq g r).2.2.2.1)[k] := by simp [hk]
        rw [hhk, eD, m60, nI_add, hS.o27, hS.o28, hS.l20, hS.l21, if_neg (nI_in (by omega) (by omega)), if_neg (nI_in (by omega) (by omega)), nI_clamp (n := 60 * r + k) (by omega), e20, e21]
        by_cases w0 : w = 0
        · rw [if_pos w0, if_pos w0]
        · rw [if_neg w0, if_neg w0]
theorem RM.joinA (h : RM S0 S m g) (hok : okG g) (v i w : Int32) : F_Mo_joined m v i w S = some (aJoin g v i w) := by
  unfold F_Mo_joined aJoin
  have h24 := h.n24
  have hS := h.1
  rw [h.2.2.2.1.1, isIn_sz v (by omega), Option.bind_some]
  by_cases hv : v < 0 ∨ nI (gn g) ≤ v
  · rw [if_pos hv, if_pos hv, if_pos rfl]
  · rw [if_neg hv, if_neg hv, if_neg (by decide)]
    obtain ⟨r, hr, rfl, hh⟩ := rng (by omega) hv
    have hq := h.rq hr
    rw [hh, isIn_01, Option.bind_some]
    by_cases hw : w < 0 ∨ 1 < w
    · rw [if_pos hw, if_pos hw, if_pos rfl]
    · rw [if_neg hw, if_neg hw, if_neg (by decide), hS.o17, hS.l10, if_neg (nI_in (by omega) (by omega)), nI_clamp (n := r) (by omega), hq.a10]
      by_cases h1 : (gq g r).1 14 = 1
      · rw [if_pos h1, h.size hok hr h1, Option.bind_some]
        obtain ⟨n, hn, hsz⟩ : ∃ n, n ≤ 1200 ∧ sJsize (gq g r).1 (gq g r).2.1 (gq g r).2.2.2.1 = nI n := by
          have l1 := hq.2.2.2.1
          have l3 := hq.2.2.2.2.2.1
          have hle := sJo_le (gq g r).2.1 (gq g r).2.2.2.1
          have hm : (gq g r).2.1.length * (gq g r).2.2.2.1.length ≤ 20 * 60 := Nat.mul_le_mul l1 l3
          unfold sJsize
          rw [if_pos h1]
          split
          · exact ⟨_, by omega, rfl⟩
          · exact ⟨_, by omega, rfl⟩
        rw [hsz, isIn_sz i (by omega), Option.bind_some]
        by_cases hi0 : i < 0
        · rw [if_pos (Or.inl hi0), if_pos (Or.inl hi0), if_pos rfl]
        · have hc : ¬ (i < 0 ∨ ¬ (gq g r).1 14 = 1) := fun z => z.elim hi0 (fun z => z h1)
          rw [if_neg hc]
          obtain ⟨t, ht, rfl⟩ := nI_of hi0
          have hht : hN (nI t) = t := nI_clamp ht
          have htg : ((if w = 0 then (1 : Int32) else 0) = 0) ↔ ¬ w = 0 := by
            by_cases w0 : w = 0
            · rw [if_pos w0]; exact ⟨fun z => absurd z (by decide), fun z => absurd w0 z⟩
            · rw [if_neg w0]; exact ⟨fun _ => w0, fun _ => rfl⟩
          rw [hht]
          by_cases hnt : n ≤ t
          · rw [if_pos (Or.inr (nI_le hnt ht)), if_pos rfl]
            unfold sJsize at hsz
            rw [if_pos h1] at hsz
            unfold sJpart
            by_cases h15 : (gq g r).1 15 = 0
            · rw [if_pos h15] at hsz ⊢
              have hle := sJo_le (gq g r).2.1 (gq g r).2.2.2.1
              have hm : (gq g r).2.1.length * (gq g r).2.2.2.1.length ≤ 20 * 60 := Nat.mul_le_mul hq.2.2.2.1 hq.2.2.2.2.2.1
              have := (nI_eq (by omega) (by omega)).mp hsz
              rw [List.getElem?_eq_none (by omega)]
            · rw [if_neg h15] at hsz ⊢
              have l1 := hq.2.2.2.1
              have := (nI_eq (by omega) (by omega)).mp hsz
              rw [List.getElem?_eq_none (by omega)]
          · have hin : ¬ (nI t < 0 ∨ nI n ≤ nI t) := fun z => z.elim hi0 (fun z => absurd z (nI_ge (by omega) (by omega)))
            rw [if_neg hin, if_neg (by decide)]
            have hw' : ∀ c, c ≤ 1300 → (nI c = nI t ↔ c = t) := fun c hc => nI_eq (by omega) ht
            rw [h.ones hok hr h1 hw', Option.bind_some]
            unfold sJsize at hsz
            rw [if_pos h1] at hsz
            unfold sJpart
            by_cases h15 : (gq g r).1 15 = 0
            · rw [if_pos h15] at hsz
              rw [if_pos h15, if_pos h15]
              have hle := sJo_le (gq g r).2.1 (gq g r).2.2.2.1
              have hm : (gq g r).2.1.length * (gq g r).2.2.2.1.length ≤ 20 * 60 := Nat.mul_le_mul hq.2.2.2.1 hq.2.2.2.2.2.1
              have := (nI_eq (by omega) (by omega)).mp hsz
              rw [List.getElem?_eq_getElem (by omega)]
              simp only
              by_cases w0 : w = 0
              · rw [if_pos w0, if_neg (fun z => htg.mp z w0)]
              · rw [if_neg w0, if_pos (htg.mpr w0)]
            · rw [if_neg h15] at hsz
              rw [if_neg h15, if_neg h15]
              have l1 := hq.2.2.2.1
              have := (nI_eq (by omega) (by omega)).mp hsz
              rw [List.getElem?_eq_getElem (by omega)]
              simp only
              by_cases w0 : w = 0
              · rw [if_pos w0, if_neg (fun z => htg.mp z w0)]
              · rw [if_neg w0, if_pos (htg.mpr w0)]
      · rw [if_neg h1, if_pos (Or.inr h1)]
theorem RM.estA (h : RM S0 S m g) (v : Int32) : F_Mo_estimate m v S = some (aEst g v) := by
  have hS := h.1
  unfold F_Mo_estimate aEst
  have e := isIn_0 v (k := 3) (by decide) S
  rw [show nI 3 = (3 : Int32) from rfl] at e
  rw [e, Option.bind_some]
  by_cases hv : v < 0 ∨ nI 4 ≤ v
  · rw [if_pos hv, if_pos hv, if_pos rfl]
  · obtain ⟨i, hi, rfl, hh⟩ := rng (by decide) hv
    rw [if_neg hv, if_neg hv, if_neg (by decide), hh, hS.o36, hS.l29, if_neg (nI_in (by omega) (by omega)), nI_clamp (n := i) (by omega), (h.2.2.2.2.2.2.2.1 i hi).1]
theorem RM.countA (h : RM S0 S m g) (w : Int32) : F_Mo_count m w S = some (aCount g w) := by
  unfold F_Mo_count aCount
  rw [h.2.2.2.1.1, h.2.2.2.2.2.1.1, h.2.2.2.2.1.1, h.2.1.2.2.2.1, h.2.1.2.2.2.2.1, h.2.1.2.2.2.2.2.1, h.2.1.2.2.2.2.2.2, h.2.2.2.2.2.2.1.1]
  by_cases w0 : w = 0
  · rw [if_pos w0, if_pos w0]
  rw [if_neg w0, if_neg w0]
  by_cases w1 : w = 1
  · rw [if_pos w1, if_pos w1]
  rw [if_neg w1, if_neg w1]
  by_cases w2 : w = 2
  · rw [if_pos w2, if_pos w2]
  rw [if_neg w2, if_neg w2]
  by_cases w3 : w = 3
  · rw [if_pos w3, if_pos w3]
  rw [if_neg w3, if_neg w3]
  by_cases w4 : w = 4
  · rw [if_pos w4, if_pos w4]
  rw [if_neg w4, if_neg w4]
  by_cases w5 : w = 5
  · rw [if_pos w5, if_pos w5]
  rw [if_neg w5, if_neg w5]
  by_cases w6 : w = 6
  · rw [if_pos w6, if_pos w6]
  rw [if_neg w6, if_neg w6]
  by_cases w7 : w = 7
  · rw [if_pos w7, if_pos w7]
  rw [if_neg w7, if_neg w7]
theorem RM.lineA (h : RM S0 S m g) (v w : Int32) : F_Mo_line m v w S = some (aLine g v w) := by
  have hS := h.1
  unfold F_Mo_line aLine
  have e := isIn_0 v (k := 4) (by decide) S
  rw [show nI 4 = (4 : Int32) from rfl] at e
  have e2 := isIn_0 w (k := 2) (by decide) S
  rw [show nI 2 = (2 : Int32) from rfl] at e2
  rw [e, Option.bind_some]
  by_cases hv : v < 0 ∨ nI 5 ≤ v
  · rw [if_pos hv, if_pos hv, if_pos rfl]
  · obtain ⟨i, hi, rfl, hh⟩ := rng (by decide) hv
    obtain ⟨l1, l2, l3, -⟩ := h.2.2.1 i hi
    have hno : ¬ (nI i < 0 ∨ 5 ≤ i) := fun z => z.elim (fun z => nI_pos (by omega) z) (fun z => by omega)
    rw [if_neg hv, if_neg hv, if_neg (by decide), e2, Option.bind_some, hh, hS.o0, hS.o2, hS.o4, hS.l1, hS.l3, hS.l5, nI_clamp (n := i) (by omega), if_neg hno, if_neg hno, if_neg hno, l1, l2, l3]
    by_cases hw : w < 0 ∨ nI 3 ≤ w
    · have w0 : ¬ w = 0 := fun z => by rw [z] at hw; exact absurd hw (by decide)
      have w1 : ¬ w = 1 := fun z => by rw [z] at hw; exact absurd hw (by decide)
      have w2 : ¬ w = 2 := fun z => by rw [z] at hw; exact absurd hw (by decide)
      rw [if_pos hw, if_pos rfl, if_neg w0, if_neg w1, if_neg w2]
    · rw [if_neg hw, if_neg (by decide)]
      obtain ⟨j, hj, rfl, -⟩ := rng (by decide) hw
      by_cases j0 : j = 0
      · subst j0
        rw [if_pos (show nI 0 = (0 : Int32) from rfl), if_pos (show nI 0 = (0 : Int32) from rfl)]
        by_cases hz : (gl g i).1 = 0
        · rw [if_pos hz, if_pos hz]
        · rw [if_neg hz, if_neg hz]
      · have w0 : ¬ nI j = (0 : Int32) := nI_ne (b := 0) j0 (by omega) (by decide)
        rw [if_neg w0, if_neg w0]
        by_cases j1 : j = 1
        · subst j1
          rw [if_pos (show nI 1 = (1 : Int32) from rfl), if_pos (show nI 1 = (1 : Int32) from rfl)]
        · have w1 : ¬ nI j = (1 : Int32) := nI_ne (b := 1) j1 (by omega) (by decide)
          have j2 : j = 2 := by omega
          subst j2
          rw [if_neg w1, if_neg w1, if_pos (show nI 2 = (2 : Int32) from rfl)]
end MJ
