/-! The class: a line looped to its own serving end. -/
noncomputable def sLoopA (i : Nat) : Nat → sG → sG
  | 0, g => g
  | k + 1, g => sLoopA i k (sCome (sOutQ g i).2 4 (sOutQ g i).1).2
def sClr4 (g : sG) : sG := pl g 4 ((gl g 4).1, [], (gl g 4).2.2)
noncomputable def sLoopB (i : Nat) : Nat → Int32 → sG → Int32 × sG
  | 0, c, g => (c, sClr4 g)
  | k + 1, c, g => if (gl g i).1 = 0 then (c, sClr4 g) else sLoopB i k (c + 1) (sCome (sOutQ g 4).2 i (sOutQ g 4).1).2
noncomputable def sLoop (g : sG) (v n : Int32) : Int32 × sG :=
  if v < 0 ∨ nI 4 ≤ v then (-1, g) else if n < 0 then (-1, g) else if (gl g (hN v)).1 = 0 then (-2, g)
  else sLoopB (hN v) (gl (sLoopA (hN v) (min (hN n) (gl g (hN v)).2.1.length) g) 4).2.1.length 0 (sLoopA (hN v) (min (hN n) (gl g (hN v)).2.1.length) g)
section LP
variable {S0 S S' : fw_S} {x : Nat} {q p p' : Nat → Nat} {g : sG} {B : Nat}
theorem gl_send_ne {i j : Nat} {k n : Int32} {bs : List Int32} (h : j ≠ i) : gl (sSendTo g i k n bs).2 j = gl g j := by
  unfold sSendTo
  split
  · rfl
  · exact va_up_ne (gl g) _ h
theorem gl_sreq_ne {r j : Nat} {v : Int32} (h : j ≠ hN ((gq g r).1 0)) : gl (sSendReq g r v).2 j = gl g j := by
  unfold sSendReq
  exact gl_send_ne h
theorem gl_drop (k : Int32) (u : Int32 × sG) : gl (sDrop k u).2 = gl u.2 := by
  unfold sDrop
  split <;> rfl
theorem gl_come4 {i : Nat} (h : i ≠ 4) (b : Int32) : gl (sCome g 4 b).2 i = gl g i := by
  unfold sCome
  by_cases hf : sFit (gl g 4).2.2 b = true
  · rw [if_pos hf]
    by_cases hd : sDone (gl g 4).2.2
    · rw [if_pos hd, if_pos rfl, gl_drop]
      unfold sServe
      split
      · rw [gl_send_ne h]; exact va_up_ne (gl g) _ h
      · split
        · rw [gl_send_ne h]; exact va_up_ne (gl g) _ h
        · exact va_up_ne (gl g) _ h
    · rw [if_neg hd]; exact va_up_ne (gl g) _ h
  · rw [if_neg hf]
    unfold sWrong
    rw [if_pos rfl]
    exact va_up_ne (gl g) _ h
theorem gl_come_i {i : Nat} (hi : i < 4) (b : Int32) : gl (sCome g i b).2 4 = gl g 4 := by
  have h4 : (4 : Nat) ≠ i := by omega
  unfold sCome
  by_cases hf : sFit (gl g i).2.2 b = true
  · rw [if_pos hf]
    by_cases hd : sDone (gl g i).2.2
    · rw [if_pos hd, if_neg (Ne.symm h4), gl_drop]
      unfold sHear
      split
      · split
        · rename_i hw
          split
          · exact va_up_ne (gl g) _ h4
          · have hh : hN ((gq g (hN ((gl g i).2.2.getD 2 0))).1 0) = i := by
              have := hw.2.1
              have e : (gq g (hN ((gl g i).2.2.getD 2 0))).1 0 = nI i := this
              rw [e]; exact nI_clamp (by omega)
            unfold sRowsIn
            split
            · refine (gl_sreq_ne ?_).trans (va_up_ne (gl g) _ h4)
              rw [gq_pq, sMoreD_o (by decide) (by decide) (by decide), sTook_o (by decide)]
              exact fun z => h4 (z.trans hh)
            · split
              · refine (gl_sreq_ne ?_).trans (va_up_ne (gl g) _ h4)
                rw [gq_pq, sAskD_o (by decide) (by decide) (by decide) (by decide) (by decide), sTook_o (by decide)]
                exact fun z => h4 (z.trans hh)
              · exact va_up_ne (gl g) _ h4
        · exact va_up_ne (gl g) _ h4
      · exact va_up_ne (gl g) _ h4
    · rw [if_neg hd]; exact va_up_ne (gl g) _ h4
  · rw [if_neg hf]
    unfold sWrong
    rw [if_neg (Ne.symm h4)]
    exact va_up_ne (gl g) _ h4
theorem gl_outQ_ne {i j : Nat} (h : j ≠ i) : gl (sOutQ g i).2 j = gl g j := by
  unfold sOutQ
  split
  · rfl
  · exact va_up_ne (gl g) _ h
theorem sOutQ_c {i : Nat} {b : Int32} {t : List Int32} (h : (gl g i).2.1 = b :: t) : (sOutQ g i).1 = b ∧ gl (sOutQ g i).2 i = ((gl g i).1, t, (gl g i).2.2) := by
  unfold sOutQ
  rw [h]
  exact ⟨rfl, va_up_self (gl g) _ _⟩
theorem sOutQ_b8 (h : okG g) {i : Nat} (hi : i < 5) (hl : 0 < (gl g i).2.1.length) : b8 (sOutQ g i).1 := by
  cases hc : (gl g i).2.1 with
  | nil => rw [hc] at hl; simp at hl
  | cons b t =>
    rw [(sOutQ_c hc).1]
    exact (h.2.2.1 i hi).2.1 b (by rw [hc]; exact List.mem_cons_self)
theorem sOutQ_len {i : Nat} : (gl (sOutQ g i).2 i).2.1.length = (gl g i).2.1.length - 1 := by
  cases hc : (gl g i).2.1 with
  | nil =>
    have : (sOutQ g i).2 = g := by unfold sOutQ; rw [hc]
    rw [this, hc]; rfl
  | cons b t =>
    rw [(sOutQ_c hc).2]
    rfl
theorem ok_loopA {i : Nat} (hi : i < 4) : ∀ (k : Nat) (g : sG), okG g → okT g B → k ≤ (gl g i).2.1.length → okG (sLoopA i k g) ∧ okT (sLoopA i k g) B := by
  intro k
  induction k with
  | zero => intro g h ht _; exact ⟨h, ht⟩
  | succ k ih =>
    intro g h ht hk
    unfold sLoopA
    obtain ⟨a, b⟩ := ok_outQ h ht (i := i) (by omega)
    obtain ⟨c, d⟩ := ok_come a b (i := 4) (by omega) (sOutQ_b8 h (i := i) (by omega) (by omega))
    refine ih _ c d ?_
    rw [gl_come4 (by omega), sOutQ_len]
    omega
theorem ok_clr4 (h : okG g) : okG (sClr4 g) := by
  obtain ⟨o1, o2, o3, o4⟩ := h.2.2.1 4 (by omega)
  exact h.pl ⟨o1, fun b q => by simp at q, by simp, o4⟩ (fun _ => h.2.2.2.1)
theorem ok_loopB {i : Nat} (hi : i < 4) : ∀ (k : Nat) (c : Int32) (g : sG), okG g → okT g B → k ≤ (gl g 4).2.1.length → okG (sLoopB i k c g).2 ∧ okT (sLoopB i k c g).2 B := by
  intro k
  induction k with
  | zero => intro c g h ht _; exact ⟨ok_clr4 h, ht⟩
  | succ k ih =>
    intro c g h ht hk
    unfold sLoopB
    split
    · exact ⟨ok_clr4 h, ht⟩
    · obtain ⟨a, b⟩ := ok_outQ h ht (i := 4) (by omega)
      obtain ⟨c', d⟩ := ok_come a b (i := i) (by omega) (sOutQ_b8 h (i := 4) (by omega) (by omega))
      refine ih _ _ c' d ?_
      rw [gl_come_i hi, sOutQ_len]
      omega
theorem ok_loop (h : okG g) (ht : okT g B) (v n : Int32) : okG (sLoop g v n).2 ∧ okT (sLoop g v n).2 B := by
  unfold sLoop
  by_cases hv : v < 0 ∨ nI 4 ≤ v
  · rw [if_pos hv]; exact ⟨h, ht⟩
  · obtain ⟨i, hi, rfl, hh⟩ := rng (by decide) hv
    rw [if_neg hv, hh]
    split
    · exact ⟨h, ht⟩
    · split
      · exact ⟨h, ht⟩
      · obtain ⟨a, b⟩ := ok_loopA hi (min (hN n) (gl g i).2.1.length) g h ht (Nat.min_le_right _ _)
        exact ok_loopB hi _ _ _ a b (Nat.le_refl _)
theorem RX.clr4 (h : RX S0 S x q p g) : ∃ S', F_Wire_clearOut (x + 63) S = some S' ∧ RX S0 S' x q p (sClr4 g) := by
  obtain ⟨hup, hQ, hO⟩ := h.2.2.2.1 4 (by omega)
  obtain ⟨S1, p1, q1, s1, g1, k1⟩ := hQ.clear
  exact ⟨S1, p1, h.line (i := 4) (by omega) (ot.of s1 (fun a ha => g1 a (by omega))) ⟨by rw [k1 0 (by decide) (by decide)]; exact hup, q1, hO.keep s1 (k1 5 (by decide) (by decide)) (k1 6 (by decide) (by decide)) (g1 _ (by omega)) (g1 _ (by omega))⟩⟩
theorem RX.loopB {i : Nat} (hi : i < 4) {N : Nat} (hN : N ≤ 300) : ∀ (k n j : Nat) (S : fw_S) (p : Nat → Nat) (g : sG), RX S0 S x q p g → okG g → okT g B → k = (gl g 4).2.1.length → j + k = N → k < n → ∃ S' p', F_FW_loop_l86 n x (nI i) (x + 47 + 4 * i) (x + 63) (nI N) (nI j) S = some ((sLoopB i k (nI j) g).1, S') ∧ RX S0 S' x q p' (sLoopB i k (nI j) g).2 := by
  intro k
  induction k with
  | zero =>
    intro n j S p g h hok ht hk hjk hkn
    obtain ⟨n, rfl⟩ : ∃ m, n = m + 1 := ⟨n - 1, by omega⟩
    obtain ⟨S1, e1, v1⟩ := h.clr4
    rw [F_FW_loop_l86, if_pos (nI_le (by omega) (by omega)), e1, Option.bind_some]
    exact ⟨S1, p, rfl, v1⟩
  | succ k ih =>
    intro n j S p g h hok ht hk hjk hkn
    obtain ⟨n, rfl⟩ : ∃ m, n = m + 1 := ⟨n - 1, by omega⟩
    rw [F_FW_loop_l86, if_neg (nI_ge (by omega) (by omega)), (h.2.2.2.1 i (by omega)).1]
    unfold sLoopB
    by_cases hz : (gl g i).1 = 0
    · obtain ⟨S1, e1, v1⟩ := h.clr4
      rw [if_pos hz, if_pos hz, e1, Option.bind_some]
      exact ⟨S1, p, rfl, v1⟩
    · rw [if_neg hz, if_neg hz]
      obtain ⟨S1, e1, v1⟩ := h.outQ (i := 4) (by omega)
      obtain ⟨a, b⟩ := ok_outQ hok ht (i := 4) (by omega)
      have hb8 := sOutQ_b8 hok (i := 4) (by omega) (by omega)
      obtain ⟨c', d⟩ := ok_come a b (i := i) (by omega) hb8
      obtain ⟨S2, p2, e2, v2⟩ := v1.take a (i := i) (by omega) hb8
      rw [show x + 63 = x + 47 + 4 * 4 from rfl, e1]
      simp only [fw_b2]
      rw [e2]
      simp only
      rw [nI_1]
      exact ih n (j + 1) S2 p2 _ v2 c' d (by rw [gl_come_i hi, sOutQ_len]; omega) (by omega) (by omega)
theorem RX.loopA {i : Nat} (hi : i < 4) {N : Nat} (hN : N ≤ 300) : ∀ (k n j : Nat) (S : fw_S) (p : Nat → Nat) (g : sG), RX S0 S x q p g → okG g → okT g B → k ≤ (gl g i).2.1.length → j + k = N → k < n → ∃ S' p', F_FW_loop_l51 n x (nI i) (x + 47 + 4 * i) (x + 63) (nI N) (nI j) S = F_FW_loop_l86 4096 x (nI i) (x + 47 + 4 * i) (x + 63) (nI (gl (sLoopA i k g) 4).2.1.length) (nI 0) S' ∧ RX S0 S' x q p' (sLoopA i k g) := by
  intro k
  induction k with
  | zero =>
    intro n j S p g h hok ht hk hjk hkn
    obtain ⟨n, rfl⟩ : ∃ m, n = m + 1 := ⟨n - 1, by omega⟩
    rw [F_FW_loop_l51, if_pos (nI_le (by omega) (by omega))]
    simp only [fw_let]
    rw [show x + 63 = x + 47 + 4 * 4 from rfl, (h.2.2.2.1 4 (by omega)).2.1.2.2.2.1, show (0 : Int32) = nI 0 from rfl]
    exact ⟨S, p, rfl, h⟩
  | succ k ih =>
    intro n j S p g h hok ht hk hjk hkn
    obtain ⟨n, rfl⟩ : ∃ m, n = m + 1 := ⟨n - 1, by omega⟩
    rw [F_FW_loop_l51, if_neg (nI_ge (by omega) (by omega))]
    unfold sLoopA
    obtain ⟨S1, e1, v1⟩ := h.outQ (i := i) (by omega)
    obtain ⟨a, b⟩ := ok_outQ hok ht (i := i) (by omega)
    have hb8 := sOutQ_b8 hok (i := i) (by omega) (by omega)
    obtain ⟨c', d⟩ := ok_come a b (i := 4) (by omega) hb8
    obtain ⟨S2, p2, e2, v2⟩ := v1.take a (i := 4) (by omega) hb8
    have e2' : F_FW_take x (4 : Int32) (x + 63) (sOutQ g i).1 S1 = some ((sCome (sOutQ g i).2 4 (sOutQ g i).1).1, S2) := e2
    rw [e1]
    simp only [fw_b2]
    rw [e2']
    simp only
    rw [nI_1]
    exact ih n (j + 1) S2 p2 _ v2 c' d (by rw [gl_come4 (by omega), sOutQ_len]; omega) (by omega) (by omega)
theorem RX.loopC (h : RX S0 S x q p g) (hok : okG g) (ht : okT g B) (v n : Int32) : ∃ S' p', F_FW_loop x v n S = some ((sLoop g v n).1, S') ∧ RX S0 S' x q p' (sLoop g v n).2 := by
  unfold F_FW_loop sLoop
  have h4 : F_FW_wireAt x 4 S = some (some (x + 63)) := h.wire (i := 4) (by omega)
  by_cases hv : v < 0 ∨ nI 4 ≤ v
  · rw [if_pos hv, h.houseNo hv, h4]
    exact ⟨S, p, rfl, h⟩
  · obtain ⟨i, hi, rfl, hh⟩ := rng (by decide) hv
    rw [if_neg hv, h.house hi, h4, hh]
    simp only [fw_om, Option.bind_some]
    by_cases hn : n < 0
    · rw [if_pos hn, if_neg (Int32.not_le.mpr hn)]
      exact ⟨S, p, rfl, h⟩
    · rw [if_neg hn, if_pos (Int32.not_lt.mp hn)]
      obtain ⟨hup, hQ, hO⟩ := h.2.2.2.1 i (by omega)
      rw [hup]
      by_cases hz : (gl g i).1 = 0
      · rw [if_pos hz, if_pos hz]
        exact ⟨S, p, rfl, h⟩
      · rw [if_neg hz, if_neg hz]
        simp only [fw_let]
        obtain ⟨m, hm, rfl⟩ := nI_of hn
        have hhm : hN (nI m) = m := nI_clamp hm
        rw [hhm, hQ.2.2.2.1]
        have hl300 := hQ.2.2.2.2
        have hmin : (if nI (gl g i).2.1.length < nI m then nI (gl g i).2.1.length else nI m) = nI (min m (gl g i).2.1.length) := by
          by_cases hc : (gl g i).2.1.length < m
          · rw [if_pos (nI_lt hc hm), Nat.min_eq_right (by omega)]
          · rw [if_neg (nI_nlt (by omega) (by omega)), Nat.min_eq_left (by omega)]
        rw [hmin]
        obtain ⟨S1, p1, e1, v1⟩ := RX.loopA (B := B) hi (N := min m (gl g i).2.1.length) (by omega) (min m (gl g i).2.1.length) 4096 0 S p g h hok ht (Nat.min_le_right _ _) (by omega) (by omega)
        obtain ⟨a, b⟩ := ok_loopA hi (min m (gl g i).2.1.length) g hok ht (Nat.min_le_right _ _)
        have hl4 := (a.2.2.1 4 (by omega)).2.2.1
        obtain ⟨S2, p2, e2, v2⟩ := RX.loopB (B := B) hi (N := (gl (sLoopA i (min m (gl g i).2.1.length) g) 4).2.1.length) hl4 _ 4096 0 S1 p1 _ v1 a b rfl (by omega) (by omega)
        rw [show (0 : Int32) = nI 0 from rfl, e1]
        exact ⟨S2, p2, e2, v2⟩
end LP
