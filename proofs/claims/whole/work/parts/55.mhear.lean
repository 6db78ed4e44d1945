/-! The reference: an answer comes. -/
theorem half {n : Nat} (h : n ≤ 18) (h2 : 2 ≤ n) : nI n / 2 - 1 = nI (n / 2 - 1) := by
  have : ∀ n, n < 19 → 2 ≤ n → nI n / 2 - 1 = nI (n / 2 - 1) := by decide
  exact this n (by omega) h2
theorem sPairs_len : ∀ (k : Nat) (l : List Int32), l.length = 2 * k → (sPairs l).length = k := by
  intro k
  induction k with
  | zero =>
    intro l h
    have : l = [] := List.length_eq_zero_iff.mp (by omega)
    rw [this]; rfl
  | succ k ih =>
    intro l h
    match l, h with
    | a :: b :: t, h =>
      simp only [List.length_cons] at h
      show (sPairs t).length + 1 = k + 1
      rw [ih t (by omega)]
    | [a], h => simp at h; omega
    | [], h => simp at h
theorem askEq {f : Nat → Int32} {r : Nat} (h : f 21 = nI r) (x : Int32) : va_up (va_up (va_up (va_up f 11 (sStep f)) 6 x) 8 0) 20 1 = va_up (va_up (sNext f 1 r) 6 x) 8 0 := by
  funext j
  unfold sNext
  by_cases h20 : j = 20
  · subst h20
    rw [va_up_self, va_up_ne _ _ (by decide), va_up_ne _ _ (by decide), va_up_ne _ _ (by decide), va_up_self]
  · rw [va_up_ne _ _ h20]
    by_cases h8 : j = 8
    · subst h8; rw [va_up_self, va_up_self]
    · rw [va_up_ne _ _ h8, va_up_ne _ _ h8]
      by_cases h6 : j = 6
      · subst h6; rw [va_up_self, va_up_self]
      · rw [va_up_ne _ _ h6, va_up_ne _ _ h6]
        by_cases h21 : j = 21
        · subst h21; rw [va_up_self, va_up_ne _ _ (by decide)]; exact h
        · rw [va_up_ne _ _ h21, va_up_ne _ _ h20]
theorem moreEq {f : Nat → Int32} {r : Nat} (h : f 21 = nI r) : va_up (va_up f 11 (sStep f)) 20 3 = sNext f 3 r := by
  unfold sNext
  exact (up_id' (by rw [va_up_ne _ _ (by decide), va_up_ne _ _ (by decide)]; exact h.symm)).symm
section MH
variable {S0 S S' : fw_S} {m r i : Nat} {g : sG} {o : List Int32}
theorem RM.rowsL {nn : Nat} (hi : i < 5) (ho : o.length = 6 + 2 * nn) (hn : nn ≤ 8) : ∀ (k c j : Nat) (S : fw_S) (g : sG), RM S0 S m g → r < gn g → Ar S (m + 4) (30 * i) o → j + k = nn → k < c →
    ∃ S', F_Mo_isDropped_l88 c m (nI r) (nI (30 * i)) (nI nn) (nI j) S = F_Mo_isDropped_j184 m (nI r) (nI (30 * i)) (nI nn) S' ∧ RM S0 S' m (pq g r ((gq g r).1, (gq g r).2.1, (gq g r).2.2.1, (sPairs (o.drop (6 + 2 * j))).foldl sAdd (gq g r).2.2.2.1, (gq g r).2.2.2.2)) ∧ Ar S' (m + 4) (30 * i) o := by
  intro k
  induction k with
  | zero =>
    intro c j S g h hr hA hjk hkc
    obtain ⟨c, rfl⟩ : ∃ c', c = c' + 1 := ⟨c - 1, by omega⟩
    rw [F_Mo_isDropped_l88, if_pos (nI_le (by omega) (by omega)), List.drop_eq_nil_of_le (by omega)]
    refine ⟨S, rfl, ?_, hA⟩
    have : pq g r ((gq g r).1, (gq g r).2.1, (gq g r).2.2.1, (sPairs []).foldl sAdd (gq g r).2.2.2.1, (gq g r).2.2.2.2) = g := pq_id g r
    rw [this]; exact h
  | succ k ih =>
    intro c j S g h hr hA hjk hkc
    obtain ⟨c, rfl⟩ : ∃ c', c = c' + 1 := ⟨c - 1, by omega⟩
    have hS := h.1
    have h24 := h.n24
    have hq := h.rq hr
    have hR60 := hq.2.2.2.2.2.1
    have e19 : fw_g S (m + 19) r = nI (gq g r).2.2.2.1.length := hq.2.1.2.2.1
    have e6 : fw_g S (m + 4) (30 * i + 6 + 2 * j) = o[6 + 2 * j] := by
      have := hA.get (j := 6 + 2 * j) (by omega)
      rw [← this]; congr 1; omega
    have e7 : fw_g S (m + 4) (30 * i + 7 + 2 * j) = o[7 + 2 * j] := by
      have := hA.get (j := 7 + 2 * j) (by omega)
      rw [← this]; congr 1; omega
    have hgo : sPairs (o.drop (6 + 2 * j)) = (o[6 + 2 * j], o[7 + 2 * j]) :: sPairs (o.drop (6 + 2 * (j + 1))) := by
      rw [List.drop_eq_getElem_cons (show 6 + 2 * j < o.length by omega), List.drop_eq_getElem_cons (show 6 + 2 * j + 1 < o.length by omega)]
      have e : 6 + 2 * j + 1 = 7 + 2 * j := by omega
      have e' : 6 + 2 * j + 1 + 1 = 6 + 2 * (j + 1) := by omega
      rw [e']
      simp only [e]
      rfl
    rw [F_Mo_isDropped_l88, if_neg (nI_ge (by omega) (by omega)), hgo, List.foldl_cons]
    simp (disch := omega) only [↓reduceIte, ↓hS.o26, hS.l19, pF, lF, or_self, nI_clamp, e19]
    by_cases hc : (gq g r).2.2.2.1.length < 60
    · have hadd : sAdd (gq g r).2.2.2.1 (o[6 + 2 * j], o[7 + 2 * j]) = (gq g r).2.2.2.1 ++ [(o[6 + 2 * j], o[7 + 2 * j])] := by unfold sAdd; rw [if_pos hc]
      have hlt : ¬ (60 : Int32) ≤ nI (gq g r).2.2.2.1.length := nI_ge (b := 60) hc (by omega)
      rw [if_neg hlt]
      simp (disch := omega) only [↓reduceIte, ↓om_wi, ↓let_i, ↓hS.o26, ↓hS.o27, ↓hS.o28, ↓hS.o3, hS.l19, hS.l20, hS.l21, hS.l4, fw_l_wi, pF, lF, or_self, nI_clamp, e19, m60, m2, a6, a7, nI_add, g_a, e6, e7, nI_1]
      obtain ⟨T, hT⟩ : ∃ T, T = fw_wi (fw_wi (fw_wi S (m + 20) (60 * r + (gq g r).2.2.2.1.length) o[6 + 2 * j]) (m + 21) (60 * r + (gq g r).2.2.2.1.length) o[7 + 2 * j]) (m + 19) r (nI ((gq g r).2.2.2.1.length + 1)) := ⟨_, rfl⟩
      rw [← hT]
      have hd : df S T (fun a k => (a = m + 19 ∧ k = r) ∨ ((a = m + 20 ∨ a = m + 21) ∧ 60 * r ≤ k ∧ k < 60 * r + 60)) := by
        rw [hT]
        exact (df.wi (Or.inr ⟨Or.inl rfl, by omega, by omega⟩)).tr ((df.wi (Or.inr ⟨Or.inr rfl, by omega, by omega⟩)).tr (df.wi (Or.inl ⟨rfl, rfl⟩)))
      have hb4 := hq.2.2.1.2.2.2.1.push o[6 + 2 * j]
      have hb5 := hq.2.2.1.2.2.2.2.1.push o[7 + 2 * j]
      rw [List.length_map] at hb4 hb5
      have hq' : RqM T m r ((gq g r).1, (gq g r).2.1, (gq g r).2.2.1, (gq g r).2.2.2.1 ++ [(o[6 + 2 * j], o[7 + 2 * j])], (gq g r).2.2.2.2) := by
        refine hq.rows hd ?_ ?_ ?_ (by simp; omega)
        · rw [hT, g_s]; simp
        · rw [hT, List.map_append]
          exact (hb4.wi (Or.inl (by omega))).wi (Or.inl (by omega))
        · rw [hT, List.map_append]
          have := (hq.2.2.1.2.2.2.2.1.wi (b := m + 20) (k := 60 * r + (gq g r).2.2.2.1.length) (v := o[6 + 2 * j]) (Or.inl (by omega))).push o[7 + 2 * j]
          rw [List.length_map] at this
          exact this.wi (Or.inl (by omega))
      have h' := h.req hr (hd.up (fun a k q => Or.inl (by simp only [cQ]; omega))) hq'
      have hA' : Ar T (m + 4) (30 * i) o := hA.keep (fun k _ _ => hd.2 _ _ (fun z => by omega))
      obtain ⟨S2, p2, h2, A2⟩ := ih c (j + 1) T _ h' hr hA' (by omega) (by omega)
      refine ⟨S2, p2, ?_, A2⟩
      rw [gq_pq, pq_pq] at h2
      rw [hadd]
      exact h2
    · have hadd : sAdd (gq g r).2.2.2.1 (o[6 + 2 * j], o[7 + 2 * j]) = (gq g r).2.2.2.1 := by unfold sAdd; rw [if_neg hc]
      have hlt : (60 : Int32) ≤ nI (gq g r).2.2.2.1.length := nI_le (a := 60) (by omega) (by omega)
      rw [if_pos hlt, nI_1, hadd]
      exact ih c (j + 1) S g h hr hA (by omega) (by omega)
theorem RM.moreJ (h : RM S0 S m g) (hr : r < gn g) (h21 : (gq g r).1 21 = nI r) (hi : i < 4) (hh : (gq g r).1 0 = nI i) : ∃ S', F_Mo_isDropped_j242 m (nI r) 1 S = some (0, S') ∧ RM S0 S' m (sSendReq (pq g r (sMoreD (gq g r) r)) r 0).2 := by
  have h24 := h.n24
  have hS := h.1
  have hq := h.rq hr
  obtain ⟨st, hst0⟩ : ∃ st, sStep (gq g r).1 = st := ⟨_, rfl⟩
  have hst : st &&& 255 = st := by rw [← hst0]; exact b8_and _
  have e23 : fw_g S (m + 23) r = (gq g r).1 11 := hq.a23
  have h31 : (gq g r).1 11 + 1 &&& 255 = st := hst0
  have h3 := h.rsc hr (a := 23) (k := 11) (by decide) st
  obtain ⟨T3, hT3⟩ : ∃ T, fw_wi S (m + 23) r st = T := ⟨_, rfl⟩
  have e23' : fw_g (fw_wi T3 m 49 0) (m + 23) r = st := by rw [← hT3, g_a (by omega), g_s]
  rw [hT3] at h3
  have hS3 := h3.1
  have h4 := h3.mk (cK_zero (m := m))
  obtain ⟨S5, p5, q5, d5⟩ := (MkM.zero (S := T3) (m := m)).put h4.1 (by simp) st
  have h5 := h4.mk d5
  have hS5 := h5.1
  have hq5 := h5.rq hr
  rw [gq_pq] at hq5
  have e22 : fw_g S5 (m + 22) r = (gq g r).1 8 := hq5.a22.trans (va_up_ne (gq g r).1 st (show (8 : Nat) ≠ 11 by decide))
  obtain ⟨S6, p6, q6, d6⟩ := q5.put hS5 (by simp) ((gq g r).1 8)
  have h6 := h5.mk d6
  obtain ⟨S7, p7, h7⟩ := h6.keep hr q6 (fun x hx => by
    simp only [List.nil_append, List.cons_append, List.mem_cons, List.not_mem_nil, or_false] at hx
    rcases hx with rfl | rfl
    · exact b8_and _
    · exact b8_and _) (by simp) (i := i) (by omega) (by rw [gq_pq]; exact (va_up_ne (gq g r).1 st (show (0 : Nat) ≠ 11 by decide)).trans hh) 3
  refine ⟨S7, ?_, ?_⟩
  · unfold F_Mo_isDropped_j242
    rw [hS.r30]
    simp only [fw_om]
    rw [hS.l23, if_neg (nI_in (by omega) (by omega)), if_neg (nI_in (by omega) (by omega)), nI_clamp (by omega), e23, h31, hT3]
    simp only [fw_let]
    rw [if_neg (show ¬ (1 : Int32) = 0 by decide)]
    have r30 : fw_r (fw_wi T3 m 49 0) m 30 = some (m + 23) := hS3.r30
    have l23 : fw_l (fw_wi T3 m 49 0) (m + 23) = 24 := hS3.l23
    rw [r30]
    simp only
    have hno : ¬ (nI r < 0 ∨ 24 ≤ r) := fun z => z.elim (fun z => nI_pos (by omega) z) (fun z => by omega)
    rw [l23, if_neg hno, e23', p5, Option.bind_some, hS5.r29]
    simp only
    rw [hS5.l22, if_neg hno, e22, p6, Option.bind_some, p7, Option.bind_some]
  · rw [gq_pq, pq_pq] at h7
    have hfin : ((va_up (va_up (gq g r).1 11 st) 20 3, (gq g r).2.1, (gq g r).2.2.1, (gq g r).2.2.2.1, [] ++ [st &&& 255] ++ [(gq g r).1 8 &&& 255]) : sR) = sMoreD (gq g r) r := by
      unfold sMoreD
      rw [hst, ← hst0, moreEq h21]
      rfl
    simp only at h7
    rw [hfin] at h7
    exact h7
theorem RM.askJ (h : RM S0 S m g) (hr : r < gn g) (h21 : (gq g r).1 21 = nI r) (hi : i < 4) (hh : (gq g r).1 0 = nI i) (hk8 : ∀ x ∈ (gq g r).2.2.1, b8 x) {a b : Nat} (h6 : (gq g r).1 6 = nI a) (haK : a ≤ (gq g r).2.2.1.length) (h2 : (gq g r).1 2 = nI b) (hb8 : b ≤ 8) : ∃ S', F_Mo_isDropped_j242 m (nI r) 0 S = some (0, S') ∧ RM S0 S' m (sSendReq (pq g r (sAskD (gq g r) r)) r 0).2 := by
  have h24 := h.n24
  have hS := h.1
  have hq := h.rq hr
  have hK20 := hq.2.2.2.2.1
  obtain ⟨st, hst0⟩ : ∃ st, sStep (gq g r).1 = st := ⟨_, rfl⟩
  have hst : st &&& 255 = st := by rw [← hst0]; exact b8_and _
  have e23 : fw_g S (m + 23) r = (gq g r).1 11 := hq.a23
  have h31 : (gq g r).1 11 + 1 &&& 255 = st := hst0
  have h3 := h.rsc hr (a := 23) (k := 11) (by decide) st
  obtain ⟨T3, hT3⟩ : ∃ T, fw_wi S (m + 23) r st = T := ⟨_, rfl⟩
  rw [hT3] at h3
  obtain ⟨S4, p4, h4⟩ := h3.askPart hr (by rw [gq_pq]; exact hk8) (a := a) (b := b) (i := i) (by rw [gq_pq]; exact (va_up_ne (gq g r).1 st (show (6 : Nat) ≠ 11 by decide)).trans h6) (by rw [gq_pq]; exact haK) (by rw [gq_pq]; exact (va_up_ne (gq g r).1 st (show (2 : Nat) ≠ 11 by decide)).trans h2) hb8 (by omega) (by rw [gq_pq]; exact (va_up_ne (gq g r).1 st (show (0 : Nat) ≠ 11 by decide)).trans hh)
  refine ⟨S4, ?_, ?_⟩
  · unfold F_Mo_isDropped_j242
    rw [hS.r30]
    simp only [fw_om]
    rw [hS.l23, if_neg (nI_in (by omega) (by omega)), if_neg (nI_in (by omega) (by omega)), nI_clamp (by omega), e23, h31, hT3]
    simp only [fw_let]
    rw [if_pos trivial, p4, Option.bind_some]
  · rw [gq_pq, pq_pq] at h4
    have ha6 : hN ((gq g r).1 6) = a := by rw [h6]; exact nI_clamp (by omega)
    have hb2 : hN ((gq g r).1 2) = b := by rw [h2]; exact nI_clamp (by omega)
    have hfin : ((va_up (va_up (va_up (va_up (gq g r).1 11 st) 6 (nI (min (a + b) (gq g r).2.2.1.length))) 8 0) 20 1, (gq g r).2.1, (gq g r).2.2.1, (gq g r).2.2.2.1, [va_up (gq g r).1 11 st 11 &&& 255] ++ ((gq g r).2.2.1.drop a).take (min (a + b) (gq g r).2.2.1.length - a)) : sR) = sAskD (gq g r) r := by
      unfold sAskD sAskF sAskE
      rw [ha6, hb2, va_up_self, hst, ← hst0, askEq h21]
    simp only at h4
    rw [hfin] at h4
    exact h4
theorem RM.rowsIn {n : Nat} (h : RM S0 S m g) (hok : okG g) (hi : i < 4) (hr : r < gn g) (hw : (gq g r).1 14 = 0) (hh : (gq g r).1 0 = nI i) (hA : Ar S (m + 4) (30 * i) o) (ho : o.length = 4 + n) (h18 : n ≤ 18) (h2 : 2 ≤ n) (hev : n % 2 = 0) :
    ∃ S', F_Mo_isDropped_l88 4096 m (nI r) (nI (30 * i)) (nI (n / 2 - 1)) (nI 0) S = some (0, S') ∧ RM S0 S' m (sRowsIn g r (o.drop 4)) := by
  have h24 := h.n24
  obtain ⟨⟨bu, hb1, hb8, hbe⟩, -⟩ := id hok
  obtain ⟨-, -, ⟨b, hb1', hb8', hbe'⟩, ⟨a, haK, hae⟩, hk8, hKB, hB20, -, hwt, -⟩ := hok.2.2.2.2.2.1 r hr
  obtain ⟨h21, hKpos, -⟩ := hwt hw
  obtain ⟨S1, p1, h1, A1⟩ := RM.rowsL (m := m) (r := r) (i := i) (o := o) (nn := n / 2 - 1) (by omega) (by omega) (by omega) (n / 2 - 1) 4096 0 S g h hr hA (by omega) (by omega)
  rw [p1]
  have hd6 : o.drop (6 + 2 * 0) = (o.drop 4).drop 2 := by rw [List.drop_drop]
  have hplen : (sPairs ((o.drop 4).drop 2)).length = n / 2 - 1 := sPairs_len _ _ (by rw [List.length_drop, List.length_drop]; omega)
  rw [hd6] at h1
  have hS1 := h1.1
  have hq1 := h1.rq hr
  rw [gq_pq] at hq1
  have h2' := h1.rsc hr (a := 22) (k := 8) (by decide) ((gq g r).1 8 + nI (n / 2 - 1))
  rw [gq_pq, pq_pq] at h2'
  have hT : ((va_up (gq g r).1 8 ((gq g r).1 8 + nI (n / 2 - 1)), (gq g r).2.1, (gq g r).2.2.1, (sPairs ((o.drop 4).drop 2)).foldl sAdd (gq g r).2.2.2.1, (gq g r).2.2.2.2) : sR) = sTook (gq g r) (o.drop 4) := by
    unfold sTook
    rw [hplen]
  simp only at h2'
  rw [hT] at h2'
  obtain ⟨T, hTT⟩ : ∃ T, fw_wi S1 (m + 22) r ((gq g r).1 8 + nI (n / 2 - 1)) = T := ⟨_, rfl⟩
  rw [hTT] at h2'
  have hq2 := h2'.rq hr
  rw [gq_pq] at hq2
  have hS2 := h2'.1
  have e5 : fw_g T (m + 4) (30 * i + 5) = (o.drop 4).getD 1 0 := by
    rw [← hTT, g_a (by omega), A1.get (j := 5) (by omega)]
    simp [show 5 < o.length by omega]
  have e22 : fw_g S1 (m + 22) r = (gq g r).1 8 := hq1.a22
  have e15 : fw_g T (m + 15) r = nI (gq g r).2.2.1.length := hq2.2.1.2.1
  have e18 : fw_g T (m + 18) r = nI a := by rw [hq2.a18, sTook_o (by decide)]; exact hae
  have e23 : fw_g T (m + 23) r = (sTook (gq g r) (o.drop 4)).1 11 := hq2.a23
  unfold F_Mo_isDropped_j184
  simp (disch := omega) only [↓reduceIte, ↓om_wi, ↓let_i, ↓hS1.o29, ↓hS1.o3, hS1.l22, hS1.l4, fw_l_wi, pF, lF, or_self, nI_clamp, a5, e22]
  rw [hTT, e5]
  have h21' : (sTook (gq g r) (o.drop 4)).1 21 = nI r := by rw [sTook_o (by decide)]; exact h21
  unfold sRowsIn
  by_cases hm : (o.drop 4).getD 1 0 = 1
  · rw [if_pos hm, if_pos hm]
    unfold F_Mo_isDropped_j213
    rw [if_neg (show ¬ (1 : Int32) = 0 by decide)]
    obtain ⟨S4, p4, h4⟩ := h2'.moreJ hr (by rw [gq_pq]; exact h21') hi (by rw [gq_pq, sTook_o (by decide)]; exact hh)
    rw [gq_pq, pq_pq] at h4
    exact ⟨S4, p4, h4⟩
  · rw [if_neg hm, if_neg hm]
    unfold F_Mo_isDropped_j213
    rw [if_pos rfl]
    simp (disch := omega) only [↓hS2.o25, ↓hS2.o22, hS2.l18, hS2.l15, pF, lF, or_self, nI_clamp, if_false, e18, e15]
    have hhN : hN ((gq g r).1 6) = a := by rw [hae]; exact nI_clamp (by omega)
    rw [hhN]
    have hK20 : (gq g r).2.2.1.length ≤ 20 := by omega
    by_cases hl : a < (gq g r).2.2.1.length
    · rw [if_pos hl, if_neg (nI_ne (by omega) (by omega) (by omega))]
      obtain ⟨S4, p4, h4⟩ := h2'.askJ hr (by rw [gq_pq]; exact h21') hi (by rw [gq_pq, sTook_o (by decide)]; exact hh) (by rw [gq_pq]; exact hk8) (a := a) (b := b) (by rw [gq_pq, sTook_o (by decide)]; exact hae) (by rw [gq_pq]; exact haK) (by rw [gq_pq, sTook_o (by decide)]; exact hbe') hb8'
      rw [gq_pq, pq_pq] at h4
      exact ⟨S4, p4, h4⟩
    · have ha : a = (gq g r).2.2.1.length := by omega
      rw [if_neg hl, if_pos (by rw [ha])]
      obtain ⟨S4, p4, h4⟩ := h2'.finish hr hi (by rw [gq_pq, sTook_o (by decide)]; exact hh) (by rw [gq_pq]; exact hKpos)
      rw [p4, Option.bind_some]
      refine ⟨S4, rfl, ?_⟩
      rw [gq_pq, pq_pq] at h4
      exact h4
end MH
