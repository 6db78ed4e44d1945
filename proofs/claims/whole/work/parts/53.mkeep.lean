/-! The reference: the frame of a request is kept and sent. -/
section MK
variable {S0 S S' : fw_S} {m r : Nat} {g : sG} {bs : List Int32}
theorem RM.rq (h : RM S0 S m g) (hr : r < gn g) : RqM S m r (gq g r) := h.2.2.2.1.2.2.1 r hr
theorem RM.n24 (h : RM S0 S m g) : gn g ≤ 24 := h.2.2.2.1.2.1
theorem and255 {l : List Int32} (h : ∀ b ∈ l, b8 b) {j : Nat} (hj : j < l.length) : l[j] &&& 255 = l[j] := h _ (List.getElem_mem hj)
theorem RM.sendLL (hr : r < gn g) (hb : ∀ b ∈ (gq g r).2.2.2.2, b8 b) (hl : (gq g r).2.2.2.2.length ≤ 18) : ∀ (c j : Nat) (S : fw_S), RM S0 S m g → MkM S m ((gq g r).2.2.2.2.take j) → j ≤ (gq g r).2.2.2.2.length → (gq g r).2.2.2.2.length < j + c →
    ∃ S', F_Mo_sendLast_l7 c m (nI r) (nI j) S = F_Mo_sendLast_j38 m (nI r) S' ∧ RM S0 S' m g ∧ MkM S' m (gq g r).2.2.2.2 := by
  intro c
  induction c with
  | zero => intro j S _ _ h1 h2; omega
  | succ c ih =>
    intro j S h hK h1 h2
    have hS := h.1
    have h24 := h.n24
    have hq := h.rq hr
    have e27 : fw_g S (m + 27) r = nI (gq g r).2.2.2.2.length := hq.2.1.2.2.2
    rw [F_Mo_sendLast_l7]
    simp (disch := omega) only [fw_om, fw_let, hS.r34, hS.l27, e27, pF, lF, or_self, nI_clamp, if_false]
    by_cases hj : j < (gq g r).2.2.2.2.length
    · rw [if_neg (nI_ge hj (by omega))]
      have e28 : fw_g S (m + 28) (20 * r + j) = (gq g r).2.2.2.2[j] := hq.2.2.1.2.2.2.2.2.get hj
      simp (disch := omega) only [fw_om, hS.r35, hS.l28, m20, nI_add, pF, lF, or_self, nI_clamp, if_false, e28]
      obtain ⟨S1, p1, q1, d1⟩ := hK.put hS (by rw [List.length_take]; omega) (gq g r).2.2.2.2[j]
      rw [p1, Option.bind_some, nI_1]
      refine ih (j + 1) S1 (h.mk d1) ?_ (by omega) (by omega)
      rw [List.take_succ_eq_append_getElem hj]
      rw [and255 hb hj] at q1
      exact q1
    · rw [if_pos (nI_le (by omega) (by omega))]
      rw [List.take_of_length_le (by omega)] at hK
      exact ⟨S, rfl, h, hK⟩
theorem sSendTo_01 (g : sG) (i : Nat) (k n : Int32) (bs : List Int32) : (sSendTo g i k n bs).1 = 0 ∨ (sSendTo g i k n bs).1 = 1 := by
  unfold sSendTo
  split
  · exact Or.inl rfl
  · exact Or.inr rfl
/-- request r's frame is sent; how often it was repeated stands already -/
theorem RM.sendLast (h : RM S0 S m g) (hr : r < gn g) (hb : ∀ b ∈ (gq g r).2.2.2.2, b8 b) (hl : (gq g r).2.2.2.2.length ≤ 18) {i : Nat} (hi : i < 5) (hh : (gq g r).1 0 = nI i) :
    ∃ S', F_Mo_sendLast m (nI r) S = some ((sSendReq g r ((gq g r).1 13)).1, S') ∧ RM S0 S' m (sSendReq g r ((gq g r).1 13)).2 := by
  have h24 := h.n24
  obtain ⟨S1, p1, h1, k1⟩ := RM.sendLL hr hb hl 4096 0 (fw_wi S m 49 0) (h.mk cK_zero) (by rw [List.take_zero]; exact MkM.zero) (Nat.zero_le _) (by omega)
  have hS := h1.1
  have hq := h1.rq hr
  have hclk : fw_g S1 m 8 = gc g 3 := h1.2.1.2.2.2.1
  have h2 := h1.rsc hr (a := 25) (k := 12) (by decide) (gc g 3)
  have k2 : MkM (fw_wi S1 (m + 25) r (gc g 3)) m (gq g r).2.2.2.2 := k1.keep (fun a k q => by simp only [cK] at q; rw [g_a (by omega)])
  obtain ⟨S3, p3, h3⟩ := h2.send k2 hi hl ((gq g r).1 20) (nI r)
  have hN : hN ((gq g r).1 0) = i := by rw [hh]; exact nI_clamp (by omega)
  have e13 : va_up (va_up (gq g r).1 12 (gc g 3)) 13 ((gq g r).1 13) = va_up (gq g r).1 12 (gc g 3) := up_id' (by rw [va_up_ne _ _ (by decide)])
  refine ⟨S3, ?_, ?_⟩
  · simp only [F_Mo_sendLast, fw_let]
    rw [show (0 : Int32) = nI 0 from rfl, show fw_wi S m 49 (nI 0) = fw_wi S m 49 0 from rfl, p1]
    unfold F_Mo_sendLast_j38
    simp (disch := omega) only [fw_om, fw_let, hS.r32, hS.r15, hS.r33, hS.l25, hS.l8, hS.l26, fw_r_wi, fw_l_wi, hclk, pF, lF, or_self, nI_clamp, if_false, g_a, hq.a8, hq.a26, hh]
    rw [p3]
    simp only [fw_b2]
    rw [if_pos (sSendTo_01 _ _ _ _ _)]
    unfold sSendReq
    rw [hN, e13]
  · unfold sSendReq
    rw [hN, e13]
    exact h3
theorem sSendReq_13 (g : sG) (r : Nat) (v w : Int32) : sSendReq (pq g r (va_up (gq g r).1 13 v, (gq g r).2)) r w = sSendReq g r w := by
  unfold sSendReq
  rw [pq_pq, gq_pq]
  have e : va_up (va_up (va_up (gq g r).1 13 v) 12 (gc g 3)) 13 w = va_up (va_up (gq g r).1 12 (gc g 3)) 13 w := by
    funext j
    by_cases h1 : j = 13
    · subst h1; rw [va_up_self, va_up_self]
    · rw [va_up_ne _ _ h1, va_up_ne _ _ h1]
      by_cases h2 : j = 12
      · subst h2; rw [va_up_self, va_up_self]
      · rw [va_up_ne _ _ h2, va_up_ne _ _ h2, va_up_ne _ _ h1]
  have e0 : va_up (gq g r).1 13 v 0 = (gq g r).1 0 := va_up_ne _ _ (by decide)
  have e20 : va_up (gq g r).1 13 v 20 = (gq g r).1 20 := va_up_ne _ _ (by decide)
  rw [gc_pq]
  simp only [e, e0, e20]
/-- ... and how often it was repeated is written first -/
theorem RM.sendRep (h : RM S0 S m g) (hr : r < gn g) (v : Int32) (hb : ∀ b ∈ (gq g r).2.2.2.2, b8 b) (hl : (gq g r).2.2.2.2.length ≤ 18) {i : Nat} (hi : i < 5) (hh : (gq g r).1 0 = nI i) :
    ∃ S', F_Mo_sendLast m (nI r) (fw_wi S (m + 24) r v) = some ((sSendReq g r v).1, S') ∧ RM S0 S' m (sSendReq g r v).2 := by
  have h1 := h.rsc hr (a := 24) (k := 13) (by decide) v
  obtain ⟨S2, p2, h2⟩ := h1.sendLast hr (by rw [gq_pq]; exact hb) (by rw [gq_pq]; exact hl) hi (by rw [gq_pq]; exact (va_up_ne (gq g r).1 v (show (0 : Nat) ≠ 13 by decide)).trans hh)
  have e : (gq (pq g r (va_up (gq g r).1 13 v, (gq g r).2)) r).1 13 = v := by rw [gq_pq]; exact va_up_self (gq g r).1 13 v
  rw [e, sSendReq_13] at p2 h2
  exact ⟨S2, p2, h2⟩
theorem RqM.last {d : sR} {LB : List Int32} (h : RqM S m r d) (hd : df S S' (fun a k => (a = m + 27 ∧ k = r) ∨ (a = m + 28 ∧ 20 * r ≤ k ∧ k < 20 * r + 20))) (h1 : fw_g S' (m + 27) r = nI LB.length) (h2 : Ar S' (m + 28) (20 * r) LB) (h3 : LB.length ≤ 20) : RqM S' m r (d.1, d.2.1, d.2.2.1, d.2.2.2.1, LB) := by
  obtain ⟨q1, ⟨a1, a2, a3, a4⟩, ⟨b1, b2, b3, b4, b5, b6⟩, l1, l2, l3, l4⟩ := h
  refine ⟨fun p hp => ?_, ⟨by rw [hd.2 _ _ (fun z => by omega)]; exact a1, by rw [hd.2 _ _ (fun z => by omega)]; exact a2, by rw [hd.2 _ _ (fun z => by omega)]; exact a3, h1⟩, ⟨b1.keep (fun k _ _ => hd.2 _ _ (fun z => by omega)), b2.keep (fun k _ _ => hd.2 _ _ (fun z => by omega)), b3.keep (fun k _ _ => hd.2 _ _ (fun z => by omega)), b4.keep (fun k _ _ => hd.2 _ _ (fun z => by omega)), b5.keep (fun k _ _ => hd.2 _ _ (fun z => by omega)), h2⟩, l1, l2, l3, h3⟩
  have := mqK_in p hp
  rw [hd.2 _ _ (fun z => by omega)]; exact q1 p hp
theorem keepL (hr : r < 24) (hb : bs.length ≤ 18) : ∀ (c j : Nat) (S : fw_S), ShM S m → MkM S m bs → Ar S (m + 28) (20 * r) (bs.take j) → j ≤ bs.length → bs.length < j + c →
    ∃ S', F_Mo_keep_l19 c m (nI r) (nI j) S = F_Mo_keep_j50 m (nI r) S' ∧ Ar S' (m + 28) (20 * r) bs ∧ df S S' (fun a k => a = m + 28 ∧ 20 * r ≤ k ∧ k < 20 * r + 20) := by
  intro c
  induction c with
  | zero => intro j S _ _ _ h1 h2; omega
  | succ c ih =>
    intro j S hS hK hA h1 h2
    obtain ⟨k1, k2, k3⟩ := id hK
    rw [F_Mo_keep_l19, k1]
    by_cases hj : j < bs.length
    · rw [if_neg (nI_ge hj (by omega))]
      have e1 : fw_g S (m + 39) j = bs[j] := by
        have := k3.get hj
        rw [Nat.zero_add] at this
        exact this
      simp (disch := omega) only [fw_om, fw_let, hS.r35, hS.r50, hS.l28, hS.l39, m20, nI_add, pF, lF, or_self, nI_clamp, if_false, e1, nI_1]
      have hA' := hA.push bs[j]
      rw [List.length_take, Nat.min_eq_left (by omega), ← List.take_succ_eq_append_getElem hj] at hA'
      obtain ⟨S2, p2, q2, d2⟩ := ih (j + 1) (fw_wi S (m + 28) (20 * r + j) bs[j]) (hS.keep rfl) (hK.keep (fun a k q => by simp only [cK] at q; rw [g_a (by omega)])) hA' (by omega) (by omega)
      exact ⟨S2, p2, q2, (df.wi ⟨rfl, by omega, by omega⟩).tr d2⟩
    · rw [if_pos (nI_le (by omega) (by omega))]
      rw [List.take_of_length_le (by omega)] at hA
      exact ⟨S, rfl, hA, df.rf⟩
theorem RM.keep (h : RM S0 S m g) (hr : r < gn g) (hK : MkM S m bs) (hb : ∀ b ∈ bs, b8 b) (hl : bs.length ≤ 18) {i : Nat} (hi : i < 5) (hh : (gq g r).1 0 = nI i) (kind : Int32) :
    ∃ S', F_Mo_keep m (nI r) kind S = some S' ∧ RM S0 S' m (sSendReq (pq g r (va_up (gq g r).1 20 kind, (gq g r).2.1, (gq g r).2.2.1, (gq g r).2.2.2.1, bs)) r 0).2 := by
  have h24 := h.n24
  have h1 := h.rsc hr (a := 26) (k := 20) (by decide) kind
  have hS := h.1
  have k1 : MkM (fw_wi (fw_wi S (m + 26) r kind) (m + 27) r (nI bs.length)) m bs := hK.keep (fun a k q => by simp only [cK] at q; rw [g_a (by omega), g_a (by omega)])
  obtain ⟨S3, p3, q3, d3⟩ := keepL (m := m) (r := r) (bs := bs) (by omega) hl 4096 0 (fw_wi (fw_wi S (m + 26) r kind) (m + 27) r (nI bs.length)) ((hS.keep rfl).keep rfl) k1 (by rw [List.take_zero]; exact Ar.nil) (Nat.zero_le _) (by omega)
  have hd : df (fw_wi S (m + 26) r kind) S3 (fun a k => (a = m + 27 ∧ k = r) ∨ (a = m + 28 ∧ 20 * r ≤ k ∧ k < 20 * r + 20)) := (df.wi (Or.inl ⟨rfl, rfl⟩)).tr (d3.up (fun a k q => Or.inr q))
  have hq1 := h1.rq hr
  rw [gq_pq] at hq1
  have hq3 := hq1.last hd (LB := bs) (by rw [d3.2 _ _ (fun z => by omega), g_s]) q3 (by omega)
  have h3 := h1.req hr (hd.up (fun a k q => Or.inl (by simp only [cQ]; omega))) hq3
  rw [pq_pq] at h3
  obtain ⟨S4, p4, h4⟩ := h3.sendRep hr 0 (by rw [gq_pq]; exact hb) (by rw [gq_pq]; exact hl) hi (by rw [gq_pq]; exact (va_up_ne (gq g r).1 kind (show (0 : Nat) ≠ 20 by decide)).trans hh)
  refine ⟨S4, ?_, h4⟩
  unfold F_Mo_keep
  have k49 : fw_g (fw_wi S (m + 26) r kind) m 49 = nI bs.length := by rw [g_a (by omega)]; exact hK.1
  simp (disch := omega) only [fw_om, fw_let, hS.r33, hS.r34, hS.l26, hS.l27, fw_r_wi, fw_l_wi, pF, lF, or_self, nI_clamp, if_false, k49]
  rw [show (0 : Int32) = nI 0 from rfl, p3]
  unfold F_Mo_keep_j50
  have hS3 := h3.1
  simp (disch := omega) only [fw_om, fw_let, hS3.r31, hS3.l24, pF, lF, or_self, nI_clamp, if_false]
  rw [p4]
  rfl
end MK
