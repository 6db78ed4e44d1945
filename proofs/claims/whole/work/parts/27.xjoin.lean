/-! Requests of the class: rows joined to bindings. -/
def sHit (k : Int32) (R : sPs) : sPs := R.filter (fun r => decide (r.1 = k))
def sJo (B R : sPs) : sPs := B.flatMap (fun b => (sHit b.1 R).map (fun r => (b.2, r.2)))
theorem sHit_cons (k : Int32) (r : Int32 × Int32) (R : sPs) : sHit k (r :: R) = if r.1 = k then r :: sHit k R else sHit k R := by
  unfold sHit
  rw [List.filter_cons]
  by_cases h : r.1 = k <;> simp [h]
theorem sHit_le (k : Int32) (R : sPs) : (sHit k R).length ≤ R.length := List.length_filter_le _ _
theorem sJo_le (B R : sPs) : (sJo B R).length ≤ B.length * R.length := by
  induction B with
  | nil => simp [sJo]
  | cons b B ih =>
    have h1 := sHit_le b.1 R
    have : sJo (b :: B) R = (sHit b.1 R).map (fun r => (b.2, r.2)) ++ sJo B R := by simp [sJo]
    rw [this, List.length_append, List.length_map, List.length_cons, Nat.add_mul]
    omega
theorem sJo_cons (b : Int32 × Int32) (B R : sPs) : sJo (b :: B) R = (sHit b.1 R).map (fun r => (b.2, r.2)) ++ sJo B R := by simp [sJo]
section JO
variable {S : fw_S} {q r : Nat} {f : Nat → Int32} {B R : sPs} {K LB : List Int32}
theorem RqX.szI (h : RqX S q r f B K R LB) (k29 : Nat → Int32 → Int32 → Option Int32) {j : Nat} {b : Int32 × Int32} (hj : B[j]? = some b) : ∀ (n i c : Nat), i ≤ R.length → R.length < i + n → F_Request_joinedSize_l42 S k29 n q (nI c) (nI j) (nI i) = k29 q (nI (c + (sHit b.1 (R.drop i)).length)) (nI (j + 1)) := by
  intro n
  induction n with
  | zero => intro i c h1 h2; omega
  | succ n ih =>
    intro i c h1 h2
    have hR := h.2.2.2.2.2.2.2.2.1
    have hB := h.2.2.2.2.2.2.2.1
    have hl := hR.2.2.2.2.2.2.1
    rw [F_Request_joinedSize_l42, h.1.2.2.1]
    simp only [fw_om]
    rw [hR.2.2.2.2.2.1]
    by_cases hlt : i < R.length
    · rw [if_neg (nI_ge hlt (by omega)), hR.key (List.getElem?_eq_getElem hlt), Option.bind_some, h.1.1]
      simp only
      rw [hB.key hj, Option.bind_some, nI_1, nI_1]
      rw [List.drop_eq_getElem_cons hlt, sHit_cons]
      by_cases hc : R[i].1 = b.1
      · rw [if_pos hc, if_pos hc, ih (i + 1) (c + 1) (by omega) (by omega), List.length_cons]
        congr 2
        omega
      · rw [if_neg hc, if_neg hc, ih (i + 1) c (by omega) (by omega)]
    · rw [if_pos (nI_le (by omega) (by omega)), List.drop_eq_nil_of_le (by omega), nI_1]
      rfl
theorem RqX.szO (h : RqX S q r f B K R LB) : ∀ (n j c : Nat), j ≤ B.length → B.length < j + n → F_Request_joinedSize_l29 S n q (nI c) (nI j) = some (nI (c + (sJo (B.drop j) R).length)) := by
  intro n
  induction n with
  | zero => intro j c h1 h2; omega
  | succ n ih =>
    intro j c h1 h2
    have hB := h.2.2.2.2.2.2.2.1
    have hR := h.2.2.2.2.2.2.2.2.1
    have hl := hB.2.2.2.2.1
    have hl2 := hR.2.2.2.2.2.2.1
    rw [F_Request_joinedSize_l29, h.1.1]
    simp only [fw_om]
    rw [hB.2.2.2.2.2.1]
    by_cases hlt : j < B.length
    · rw [if_neg (nI_ge hlt (by omega))]
      have := h.szI (F_Request_joinedSize_l29 S n) (List.getElem?_eq_getElem hlt) 4096 0 c (Nat.zero_le _) (by omega)
      rw [show (0 : Int32) = nI 0 from rfl, this, ih (j + 1) _ (by omega) (by omega), List.drop_eq_getElem_cons hlt, sJo_cons, List.drop_zero, List.length_append, List.length_map, Nat.add_assoc]
    · rw [if_pos (nI_le (by omega) (by omega)), List.drop_eq_nil_of_le (by omega)]
      rfl
def sJsize (f : Nat → Int32) (B R : sPs) : Int32 := if f 14 = 1 then (if f 15 = 0 then nI (sJo B R).length else nI B.length) else 0
theorem RqX.size (h : RqX S q r f B K R LB) : F_Request_joinedSize q S = some (sJsize f B R) := by
  unfold F_Request_joinedSize sJsize
  rw [h.2.1 14 (by decide), h.2.1 15 (by decide)]
  have hl := h.2.2.2.2.1
  by_cases h1 : f 14 = 1
  · rw [if_pos h1, if_pos h1]
    by_cases h2 : f 15 = 0
    · rw [if_pos h2, if_pos h2]
      have := h.szO 4096 0 0 (Nat.zero_le _) (by omega)
      rw [show (0 : Int32) = nI 0 from rfl, this, List.drop_zero, Nat.zero_add]
    · rw [if_neg h2, if_neg h2, h.1.1]
      simp only [fw_om]
      rw [h.2.2.2.2.2.2.2.1.2.2.2.2.2.1]
  · rw [if_neg h1, if_neg h1]
theorem RqX.ptI (h : RqX S q r f B K R LB) (k19 : Nat → Int32 → Int32 → Int32 → Int32 → Option Int32) {j t : Nat} (ht : t < 2 ^ 31) {b : Int32 × Int32} (hj : B[j]? = some b) (tg : Int32) : ∀ (n i c : Nat), i ≤ R.length → R.length < i + n → c ≤ t → c + R.length ≤ i + 2000 → F_Request_joinedPart_l34 S k19 n q (nI t) tg (nI c) (nI j) (nI i) = match (sHit b.1 (R.drop i))[t - c]? with
      | some x => some (if tg = 0 then x.2 else b.2)
      | none => k19 q (nI t) tg (nI (c + (sHit b.1 (R.drop i)).length)) (nI (j + 1)) := by
  intro n
  induction n with
  | zero => intro i c h1 h2; omega
  | succ n ih =>
    intro i c h1 h2 h3 h4
    have hR := h.2.2.2.2.2.2.2.2.1
    have hB := h.2.2.2.2.2.2.2.1
    have hl := hR.2.2.2.2.2.2.1
    rw [F_Request_joinedPart_l34, h.1.2.2.1]
    simp only [fw_om]
    rw [hR.2.2.2.2.2.1]
    by_cases hlt : i < R.length
    · rw [if_neg (nI_ge hlt (by omega)), hR.key (List.getElem?_eq_getElem hlt), Option.bind_some, h.1.1]
      simp only
      rw [hB.key hj, Option.bind_some, nI_1, nI_1]
      rw [List.drop_eq_getElem_cons hlt, sHit_cons]
      by_cases hc : R[i].1 = b.1
      · rw [if_pos hc, if_pos hc]
        by_cases hct : c = t
        · subst hct
          rw [if_pos rfl, Nat.sub_self]
          simp only [List.getElem?_cons_zero]
          unfold F_Request_joinedPart_j75
          rw [h.1.2.2.1, h.1.1]
          simp only [fw_om]
          rw [hR.val (List.getElem?_eq_getElem hlt), hB.val hj]
          by_cases hz : tg = 0
          · rw [if_pos hz, if_pos hz]; rfl
          · rw [if_neg hz, if_neg hz]; rfl
        · rw [if_neg (nI_ne hct (by omega) ht), ih (i + 1) (c + 1) (by omega) (by omega) (by omega) (by omega), List.length_cons]
          rw [show t - c = (t - (c + 1)) + 1 by omega, List.getElem?_cons_succ]
          rw [show c + 1 + (sHit b.fst (List.drop (i + 1) R)).length = c + ((sHit b.fst (List.drop (i + 1) R)).length + 1) by omega]
      · rw [if_neg hc, if_neg hc, ih (i + 1) c (by omega) (by omega) (by omega) (by omega)]
    · rw [if_pos (nI_le (by omega) (by omega)), List.drop_eq_nil_of_le (by omega), nI_1]
      simp [sHit]
theorem RqX.ptO (h : RqX S q r f B K R LB) {t : Nat} (ht : t < 2 ^ 31) (tg : Int32) : ∀ (n j c : Nat), j ≤ B.length → B.length < j + n → c ≤ t → c ≤ j * 60 → F_Request_joinedPart_l19 S n q (nI t) tg (nI c) (nI j) = match (sJo (B.drop j) R)[t - c]? with
      | some x => some (if tg = 0 then x.2 else x.1)
      | none => some (-2) := by
  intro n
  induction n with
  | zero => intro j c h1 h2; omega
  | succ n ih =>
    intro j c h1 h2 h3 h4
    have hB := h.2.2.2.2.2.2.2.1
    have hR := h.2.2.2.2.2.2.2.2.1
    have hl := hB.2.2.2.2.1
    have hl2 := hR.2.2.2.2.2.2.1
    have hb20 := h.2.2.2.2.1
    rw [F_Request_joinedPart_l19, h.1.1]
    simp only [fw_om]
    rw [hB.2.2.2.2.2.1]
    by_cases hlt : j < B.length
    · rw [if_neg (nI_ge hlt (by omega))]
      have := h.ptI (F_Request_joinedPart_l19 S n) ht (List.getElem?_eq_getElem hlt) tg 4096 0 c (Nat.zero_le _) (by omega) h3 (by omega)
      rw [show (0 : Int32) = nI 0 from rfl, this, List.drop_zero, List.drop_eq_getElem_cons hlt, sJo_cons]
      have hle := sHit_le B[j].1 R
      by_cases hc : t - c < (sHit B[j].1 R).length
      · rw [List.getElem?_append_left (by simpa using hc), List.getElem?_map, List.getElem?_eq_getElem hc]
        rfl
      · rw [List.getElem?_append_right (by simpa using hc), List.getElem?_eq_none (by omega)]
        simp only [List.length_map]
        rw [ih (j + 1) _ (by omega) (by omega) (by omega) (by omega)]
        rw [show t - (c + (sHit B[j].1 R).length) = t - c - (sHit B[j].1 R).length by omega]
        rfl
    · rw [if_pos (nI_le (by omega) (by omega)), List.drop_eq_nil_of_le (by omega)]
      simp [sJo]
def sJpart (f : Nat → Int32) (B R : sPs) (t : Nat) (tg : Int32) : Int32 :=
  if f 15 = 0 then (match (sJo B R)[t]? with | some x => if tg = 0 then x.2 else x.1 | none => -2)
  else (match B[t]? with | some x => if tg = 0 then -1 else x.2 | none => -2)
theorem RqX.part (h : RqX S q r f B K R LB) {t : Nat} (ht : t < 2 ^ 31) (tg : Int32) : F_Request_joinedPart q (nI t) tg S = some (sJpart f B R t tg) := by
  unfold F_Request_joinedPart sJpart
  have hb20 := h.2.2.2.2.1
  have hB := h.2.2.2.2.2.2.2.1
  rw [h.2.1 15 (by decide)]
  by_cases h2 : f 15 = 0
  · rw [if_pos h2, if_pos h2]
    have := h.ptO ht tg 4096 0 0 (Nat.zero_le _) (by omega) (Nat.zero_le _) (Nat.zero_le _)
    rw [show (0 : Int32) = nI 0 from rfl, this, List.drop_zero, Nat.sub_zero]
    cases (sJo B R)[t]? <;> rfl
  · rw [if_neg h2, if_neg h2]
    unfold F_Request_silentPart
    rw [if_neg (nI_pos ht), h.1.1]
    simp only [fw_om]
    rw [hB.2.2.2.2.2.1]
    by_cases hlt : t < B.length
    · rw [if_pos (nI_lt hlt (by omega)), List.getElem?_eq_getElem hlt]
      by_cases hz : tg = 0
      · rw [if_pos hz]
        simp [hz]
      · rw [if_neg hz, hB.val (List.getElem?_eq_getElem hlt)]
        simp [hz]
    · rw [if_neg (nI_nlt (by omega) ht), List.getElem?_eq_none (by omega)]
      rfl
end JO
