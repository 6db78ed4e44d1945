/-! The reference: bytes in and out, the loop. -/
section MO
variable {S0 S S' : fw_S} {m i : Nat} {g : sG} {B : Nat}
theorem takeL {t : List Int32} {N : Nat} {v : Int32} (hi : i < 5) (ht : t.length = N) (hN : N < 300) : ∀ (n c k : Nat) (S : fw_S), ShM S m → fw_g S (m + 3) i = nI N → Ar S (m + 2) (300 * i) (t.take k) → Ar S (m + 2) (300 * i + k + 1) (t.drop k) → k + n = N → n < c →
    ∃ S', F_Mo_takeOut_l23 c m (nI i) v (nI k) S = some (v, S') ∧ Ar S' (m + 2) (300 * i) t ∧ df S S' (fun a k => a = m + 2 ∧ 300 * i ≤ k ∧ k < 300 * i + 300) := by
  intro n
  induction n with
  | zero =>
    intro c k S hS hz hA hB hk hc
    obtain ⟨c, rfl⟩ : ∃ c', c = c' + 1 := ⟨c - 1, by omega⟩
    rw [F_Mo_takeOut_l23, hS.o2, hS.l3, if_neg (nI_in (by omega) (by omega)), nI_clamp (n := i) (by omega), hz, if_pos (nI_le (by omega) (by omega))]
    rw [List.take_of_length_le (by omega)] at hA
    exact ⟨S, rfl, hA, df.rf⟩
  | succ n ih =>
    intro c k S hS hz hA hB hk hc
    obtain ⟨c, rfl⟩ : ∃ c', c = c' + 1 := ⟨c - 1, by omega⟩
    have hkl : k < t.length := by omega
    have ek : fw_g S (m + 2) (300 * i + k + 1) = t[k] := by
      have := hB 0 t[k] (by simp [hkl])
      rw [Nat.add_zero] at this
      exact this
    rw [F_Mo_takeOut_l23, hS.o2, hS.l3, if_neg (nI_in (by omega) (by omega)), nI_clamp (n := i) (by omega), hz, if_neg (nI_ge (by omega) (by omega)), hS.o1, hS.o1, m300, nI_add, nI_1, hS.l2, if_neg (nI_in (by omega) (by omega)), if_neg (nI_in (by omega) (by omega)), nI_clamp (n := 300 * i + k) (by omega), nI_clamp (n := 300 * i + k + 1) (by omega), ek, let_i, nI_1]
    have hA' := hA.push t[k]
    rw [List.length_take, Nat.min_eq_left (by omega), ← List.take_succ_eq_append_getElem hkl] at hA'
    have hB' : Ar (fw_wi S (m + 2) (300 * i + k) t[k]) (m + 2) (300 * i + (k + 1) + 1) (t.drop (k + 1)) := by
      intro j b hj
      rw [g_k (by omega)]
      have := hB (j + 1) b (by
        rw [List.getElem?_drop] at hj ⊢
        rw [← hj]
        congr 1
        omega)
      rw [← this]
      congr 1
      omega
    obtain ⟨S2, p2, q2, d2⟩ := ih c (k + 1) (fw_wi S (m + 2) (300 * i + k) t[k]) (hS.keep rfl) (by rw [g_a (by omega)]; exact hz) hA' hB' (by omega) (by omega)
    exact ⟨S2, p2, q2, (df.wi ⟨rfl, by omega, by omega⟩).tr d2⟩
theorem RM.outB (h : RM S0 S m g) (hi : i < 5) {b : Int32} {t : List Int32} (hc : (gl g i).2.1 = b :: t) : ∃ S', F_Mo_takeOut m (nI i) S = some (b, S') ∧ RM S0 S' m (pl g i ((gl g i).1, t, (gl g i).2.2)) := by
  have hS := h.1
  obtain ⟨l1, l2, l3, l4, l5, l6, l7⟩ := h.2.2.1 i hi
  rw [hc] at l2 l4 l6
  rw [List.length_cons] at l2 l6
  have e0 : fw_g S (m + 2) (300 * i) = b := by
    have := l4 0 b rfl
    rw [Nat.add_zero] at this
    exact this
  have hno : ¬ (nI i < 0 ∨ 5 ≤ i) := fun z => z.elim (fun z => nI_pos (by omega) z) (fun z => by omega)
  have es : nI (t.length + 1) - 1 = nI t.length := nI_sub (a := t.length + 1) (b := 1) (by omega)
  obtain ⟨S2, p2, q2, d2⟩ := takeL (m := m) (t := t) (N := t.length) (v := b) hi rfl (by omega) t.length 4096 0 (fw_wi S (m + 3) i (nI t.length)) (hS.keep rfl) g_s (by rw [List.take_zero]; exact Ar.nil) (by
    intro j y hj
    rw [List.drop_zero] at hj
    rw [g_a (by omega)]
    have := l4 (j + 1) y (by simpa using hj)
    rw [← this]
    congr 1
    omega) (by omega) (by omega)
  have hd : df S S2 (fun a k => (a = m + 3 ∧ k = i) ∨ (a = m + 2 ∧ 300 * i ≤ k ∧ k < 300 * i + 300)) := (df.wi (Or.inl ⟨rfl, rfl⟩)).tr (d2.up (fun a k q => Or.inr q))
  refine ⟨S2, ?_, h.line hi (hd.up (fun a k q => Or.inl (by simp only [cL]; omega))) ⟨?_, ?_, ?_, q2, ?_, by show t.length ≤ 300; omega, l7⟩⟩
  · unfold F_Mo_takeOut
    rw [hS.o1, m300, hS.l2, if_neg (nI_in (by omega) (by omega)), nI_clamp (n := 300 * i) (by omega), e0, let_i, hS.o2, hS.l3, if_neg (nI_in (by omega) (by omega)), nI_clamp (n := i) (by omega), if_neg hno, l2, es, let_i, show (0 : Int32) = nI 0 from rfl]
    exact p2
  · rw [hd.2 _ _ (fun z => by omega)]; exact l1
  · rw [d2.2 _ _ (fun z => by omega), g_s]
  · rw [hd.2 _ _ (fun z => by omega)]; exact l3
  · exact l5.keep (fun k _ _ => hd.2 _ _ (fun z => by omega))
theorem RM.outQ (h : RM S0 S m g) (hi : i < 5) (hl : 0 < (gl g i).2.1.length) : ∃ S', F_Mo_takeOut m (nI i) S = some ((sOutQ g i).1, S') ∧ RM S0 S' m (sOutQ g i).2 := by
  cases hc : (gl g i).2.1 with
  | nil => rw [hc] at hl; simp at hl
  | cons b t =>
    have e : sOutQ g i = (b, pl g i ((gl g i).1, t, (gl g i).2.2)) := by unfold sOutQ; rw [hc]
    rw [e]
    exact h.outB hi hc
theorem RM.octA (h : RM S0 S m g) (hok : okG g) (v b : Int32) : ∃ S', F_Mo_octet m v b S = some ((sOctet g v b).1, S') ∧ RM S0 S' m (sOctet g v b).2 := by
  have hS := h.1
  unfold F_Mo_octet sOctet
  have e := isIn_0 v (k := 4) (by decide) S
  rw [show nI 4 = (4 : Int32) from rfl] at e
  rw [e, Option.bind_some]
  by_cases hv : v < 0 ∨ nI 5 ≤ v
  · rw [if_pos hv, if_pos hv, if_pos rfl]; exact ⟨S, rfl, h⟩
  · obtain ⟨i, hi, rfl, hh⟩ := rng (by decide) hv
    have l1 := (h.2.2.1 i (by omega)).1
    rw [if_neg hv, if_neg hv, if_neg (by decide), hh, hS.o0, hS.l1, if_neg (nI_in (by omega) (by omega)), nI_clamp (n := i) (by omega), l1]
    by_cases hz : (gl g i).1 = 0
    · rw [if_pos hz, if_pos hz]; exact ⟨S, rfl, h⟩
    · rw [if_neg hz, if_neg hz]
      obtain ⟨S1, p1, q1⟩ := h.come hok hi (b8_and b)
      rw [p1]
      exact ⟨S1, rfl, q1⟩
theorem RM.outA (h : RM S0 S m g) (v : Int32) : ∃ S', F_Mo_out m v S = some ((sOut g v).1, S') ∧ RM S0 S' m (sOut g v).2 := by
  have hS := h.1
  unfold F_Mo_out sOut
  have e := isIn_0 v (k := 4) (by decide) S
  rw [show nI 4 = (4 : Int32) from rfl] at e
  rw [e, Option.bind_some]
  by_cases hv : v < 0 ∨ nI 5 ≤ v
  · rw [if_pos hv, if_pos hv, if_pos rfl]; exact ⟨S, rfl, h⟩
  · obtain ⟨i, hi, rfl, hh⟩ := rng (by decide) hv
    obtain ⟨l1, l2, l3, l4, l5, l6, l7⟩ := h.2.2.1 i (by omega)
    rw [if_neg hv, if_neg hv, if_neg (by decide), hh, hS.o2, hS.l3, if_neg (nI_in (by omega) (by omega)), nI_clamp (n := i) (by omega), l2]
    by_cases hz : (gl g i).2.1.length = 0
    · have e : sOutQ g i = (-2, g) := by
        unfold sOutQ
        rw [List.length_eq_zero_iff.mp hz]
      rw [if_pos (show nI (gl g i).2.1.length = 0 by rw [hz]; rfl), e]
      exact ⟨S, rfl, h⟩
    · rw [if_neg (show ¬ nI (gl g i).2.1.length = 0 from nI_ne (b := 0) hz (by omega) (by decide))]
      obtain ⟨S1, p1, q1⟩ := h.outQ hi (by omega)
      rw [p1]
      exact ⟨S1, rfl, q1⟩
theorem RM.clr4 (h : RM S0 S m g) (c : Int32) : ∃ S', F_Mo_loop_j97 m c S = some (c, S') ∧ RM S0 S' m (sClr4 g) := by
  have hS := h.1
  obtain ⟨l1, l2, l3, l4, l5, l6, l7⟩ := h.2.2.1 4 (by omega)
  have c4 : (4 : Int32).toNatClampNeg = 4 := nI_clamp (n := 4) (by decide)
  refine ⟨fw_wi S (m + 3) 4 0, ?_, h.line (i := 4) (by omega) (df.wi (Or.inl (Or.inl ⟨Or.inr (Or.inl rfl), rfl⟩))) ⟨by rw [g_a (by omega)]; exact l1, by rw [g_s]; rfl, by rw [g_a (by omega)]; exact l3, Ar.nil, l5.wi (Or.inl (by omega)), by simp, l7⟩⟩
  unfold F_Mo_loop_j97
  rw [hS.o2, hS.l3, c4, if_neg (by decide), let_i]
theorem RM.loopB (hi : i < 4) : ∀ (k n : Nat) (c : Int32) (S : fw_S) (g : sG), RM S0 S m g → okG g → okT g B → k = (gl g 4).2.1.length → k < n → ∃ S', F_Mo_loop_l62 n m (nI i) c S = some ((sLoopB i k c g).1, S') ∧ RM S0 S' m (sLoopB i k c g).2 := by
  have c4 : (4 : Int32).toNatClampNeg = 4 := nI_clamp (n := 4) (by decide)
  intro k
  induction k with
  | zero =>
    intro n c S g h hok ht hk hn
    obtain ⟨n, rfl⟩ : ∃ n', n = n' + 1 := ⟨n - 1, by omega⟩
    have hS := h.1
    have l2 := (h.2.2.1 4 (by omega)).2.1
    rw [← hk] at l2
    rw [F_Mo_loop_l62, hS.o2, hS.l3, c4, if_neg (by decide), l2, if_pos (show nI 0 ≤ (0 : Int32) from nI_le (b := 0) (by omega) (by omega))]
    exact h.clr4 c
  | succ k ih =>
    intro n c S g h hok ht hk hn
    obtain ⟨n, rfl⟩ : ∃ n', n = n' + 1 := ⟨n - 1, by omega⟩
    have hS := h.1
    have l2 := (h.2.2.1 4 (by omega)).2.1
    have l6 := (h.2.2.1 4 (by omega)).2.2.2.2.2.1
    have u := (h.2.2.1 i (by omega)).1
    rw [← hk] at l2
    rw [F_Mo_loop_l62, hS.o2, hS.l3, c4, if_neg (by decide), l2, if_neg (show ¬ nI (k + 1) ≤ (0 : Int32) from nI_ge (a := 0) (by omega) (by omega)), hS.o0, hS.l1, if_neg (nI_in (by omega) (by omega)), nI_clamp (n := i) (by omega), u]
    unfold sLoopB
    by_cases hz : (gl g i).1 = 0
    · rw [if_pos hz, if_pos hz]
      exact h.clr4 c
    · rw [if_neg hz, if_neg hz]
      obtain ⟨S1, e1, v1⟩ := h.outQ (i := 4) (by omega) (by omega)
      obtain ⟨a, b⟩ := ok_outQ hok ht (i := 4) (by omega)
      have hb8 := sOutQ_b8 hok (i := 4) (by omega) (by omega)
      obtain ⟨c', d⟩ := ok_come a b (i := i) (by omega) hb8
      obtain ⟨S2, e2, v2⟩ := v1.come a (i := i) (by omega) hb8
      have e1' : F_Mo_takeOut m (4 : Int32) S = some ((sOutQ g 4).1, S1) := e1
      rw [e1']
      simp only [fw_b2]
      rw [e2]
      exact ih n (c + 1) S2 _ v2 c' d (by rw [gl_come_i hi, sOutQ_len]; omega) (by omega)
theorem RM.loopA (hi : i < 4) {N : Nat} (hN : N < 2 ^ 31) : ∀ (k n j : Nat) (S : fw_S) (g : sG), RM S0 S m g → okG g → okT g B → k = min (N - j) (gl g i).2.1.length → j ≤ N → k < n → ∃ S', F_Mo_loop_l29 n m (nI i) (nI N) (nI j) S = F_Mo_loop_l62 4096 m (nI i) (nI 0) S' ∧ RM S0 S' m (sLoopA i k g) := by
  intro k
  induction k with
  | zero =>
    intro n j S g h hok ht hk hj hn
    obtain ⟨n, rfl⟩ : ∃ n', n = n' + 1 := ⟨n - 1, by omega⟩
    have hS := h.1
    have l2 := (h.2.2.1 i (by omega)).2.1
    rw [F_Mo_loop_l29]
    by_cases hc : N ≤ j
    · rw [if_pos (nI_le hc (by omega)), show (0 : Int32) = nI 0 from rfl]
      exact ⟨S, rfl, h⟩
    · have h0 : (gl g i).2.1.length = 0 := by omega
      rw [h0] at l2
      rw [if_neg (nI_ge (by omega) (by omega)), hS.o2, hS.l3, if_neg (nI_in (by omega) (by omega)), nI_clamp (n := i) (by omega), l2, if_pos (show nI 0 ≤ (0 : Int32) from nI_le (b := 0) (by omega) (by omega)), show (0 : Int32) = nI 0 from rfl]
      exact ⟨S, rfl, h⟩
  | succ k ih =>
    intro n j S g h hok ht hk hj hn
    obtain ⟨n, rfl⟩ : ∃ n', n = n' + 1 := ⟨n - 1, by omega⟩
    have hS := h.1
    have l2 := (h.2.2.1 i (by omega)).2.1
    have l6 := (h.2.2.1 i (by omega)).2.2.2.2.2.1
    rw [F_Mo_loop_l29, if_neg (nI_ge (by omega) (by omega)), hS.o2, hS.l3, if_neg (nI_in (by omega) (by omega)), nI_clamp (n := i) (by omega), l2, if_neg (show ¬ nI (gl g i).2.1.length ≤ (0 : Int32) from nI_ge (a := 0) (by omega) (by omega))]
    unfold sLoopA
    obtain ⟨S1, e1, v1⟩ := h.outQ (i := i) (by omega) (by omega)
    obtain ⟨a, b⟩ := ok_outQ hok ht (i := i) (by omega)
    have hb8 := sOutQ_b8 hok (i := i) (by omega) (by omega)
    obtain ⟨c', d⟩ := ok_come a b (i := 4) (by omega) hb8
    obtain ⟨S2, e2, v2⟩ := v1.come a (i := 4) (by omega) hb8
    have e2' : F_Mo_come m (4 : Int32) (sOutQ g i).1 S1 = some ((sCome (sOutQ g i).2 4 (sOutQ g i).1).1, S2) := e2
    rw [e1]
    simp only [fw_b2]
    rw [e2']
    simp only
    rw [nI_1]
    exact ih n (j + 1) S2 _ v2 c' d (by rw [gl_come4 (by omega), sOutQ_len]; omega) (by omega) (by omega)
theorem RM.loopC (h : RM S0 S m g) (hok : okG g) (ht : okT g B) (v n : Int32) : ∃ S', F_Mo_loop m v n S = some ((sLoop g v n).1, S') ∧ RM S0 S' m (sLoop g v n).2 := by
  have hS := h.1
  unfold F_Mo_loop sLoop
  have e := isIn_0 v (k := 3) (by decide) S
  rw [show nI 3 = (3 : Int32) from rfl] at e
  rw [e, Option.bind_some]
  by_cases hv : v < 0 ∨ nI 4 ≤ v
  · rw [if_pos hv, if_pos hv, if_pos rfl]; exact ⟨S, rfl, h⟩
  · obtain ⟨i, hi, rfl, hh⟩ := rng (by decide) hv
    rw [if_neg hv, if_neg hv, if_neg (by decide), hh]
    by_cases hn : n < 0
    · rw [if_pos hn, if_neg (Int32.not_le.mpr hn)]
      exact ⟨S, rfl, h⟩
    · have u := (h.2.2.1 i (by omega)).1
      have l6 := (h.2.2.1 i (by omega)).2.2.2.2.2.1
      rw [if_neg hn, if_pos (Int32.not_lt.mp hn), hS.o0, hS.l1, if_neg (nI_in (by omega) (by omega)), nI_clamp (n := i) (by omega), u]
      by_cases hz : (gl g i).1 = 0
      · rw [if_pos hz, if_pos hz]
        exact ⟨S, rfl, h⟩
      · rw [if_neg hz, if_neg hz]
        obtain ⟨N, hNb, rfl⟩ := nI_of hn
        have hhm : hN (nI N) = N := nI_clamp hNb
        rw [hhm]
        obtain ⟨S1, e1, v1⟩ := RM.loopA (B := B) hi (N := N) hNb (min N (gl g i).2.1.length) 4096 0 S g h hok ht (by omega) (by omega) (by omega)
        obtain ⟨a, b⟩ := ok_loopA hi (min N (gl g i).2.1.length) g hok ht (Nat.min_le_right _ _)
        have hl4 := (a.2.2.1 4 (by omega)).2.2.1
        obtain ⟨S2, e2, v2⟩ := RM.loopB (B := B) hi (gl (sLoopA i (min N (gl g i).2.1.length) g) 4).2.1.length 4096 (nI 0) S1 _ v1 a b rfl (by omega)
        rw [show (0 : Int32) = nI 0 from rfl, e1]
        exact ⟨S2, e2, v2⟩
end MO
