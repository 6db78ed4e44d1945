/-! The reference: a part is asked for; a request ends. -/
section MA
variable {S0 S S' : fw_S} {m r : Nat} {g : sG} {bs : List Int32}
theorem pq_id (g : sG) (r : Nat) : pq g r (gq g r) = g := by
  have e : va_up (gq g) r (gq g r) = gq g := by
    funext j
    by_cases h : j = r
    · subst h; rw [va_up_self]
    · rw [va_up_ne _ _ h]
  show (g.1, g.2.1, (g.2.2.1.1, va_up (gq g) r (gq g r)), g.2.2.2) = g
  rw [e]; rfl
theorem RM.n21 (h : RM S0 S m g) (hr : r < gn g) (v : Int32) : RM S0 S m (pq g r (va_up (gq g r).1 21 v, (gq g r).2)) := by
  refine h.req hr df.rf ?_
  obtain ⟨h1, h2⟩ := h.rq hr
  refine ⟨fun p hp => ?_, h2⟩
  have hne : p.2 ≠ 21 := by
    have : ∀ p ∈ mqK, p.2 ≠ 21 := by decide
    exact this p hp
  show _ = va_up (gq g r).1 21 v p.2
  rw [va_up_ne _ _ hne]; exact h1 p hp
theorem RM.askL {b : Nat} (hb8 : b ≤ 8) : ∀ (k c n a : Nat) (S : fw_S) (g : sG) (bs : List Int32), RM S0 S m g → r < gn g → (∀ x ∈ (gq g r).2.2.1, b8 x) → (gq g r).1 6 = nI a → (gq g r).1 2 = nI b → MkM S m bs → bs.length + k ≤ 18 → k = min (b - n) ((gq g r).2.2.1.length - a) → n ≤ b → a ≤ (gq g r).2.2.1.length → k < c →
    ∃ S', F_Mo_askPart_l17 c m (nI r) (nI n) S = F_Mo_askPart_j78 m (nI r) S' ∧ RM S0 S' m (pq g r (va_up (gq g r).1 6 (nI (a + k)), (gq g r).2)) ∧ MkM S' m (bs ++ ((gq g r).2.2.1.drop a).take k) := by
  intro k
  induction k with
  | zero =>
    intro c n a S g bs h hr hk8 h6 h2 hK hl hkm hn ha hc
    obtain ⟨c, rfl⟩ : ∃ c', c = c' + 1 := ⟨c - 1, by omega⟩
    have hS := h.1
    have h24 := h.n24
    have hq := h.rq hr
    have hK20 := hq.2.2.2.2.1
    have e15 : fw_g S (m + 15) r = nI (gq g r).2.2.1.length := hq.2.1.2.1
    rw [F_Mo_askPart_l17]
    simp (disch := omega) only [↓reduceIte, ↓om_wi, ↓let_i, ↓hS.o24, ↓hS.o25, ↓hS.o22, hS.l17, hS.l18, hS.l15, pF, lF, or_self, nI_clamp, hq.a17, hq.a18, e15, h6, h2]
    have hid : pq g r (va_up (gq g r).1 6 (nI (a + 0)), (gq g r).2) = g := by
      rw [Nat.add_zero, ← h6, up_id]; exact pq_id g r
    rw [hid, List.take_zero, List.append_nil]
    by_cases hbn : b ≤ n
    · rw [if_pos (nI_le hbn (by omega))]
      exact ⟨S, rfl, h, hK⟩
    · rw [if_neg (nI_ge (by omega) (by omega)), if_pos (nI_le (by omega) (by omega))]
      exact ⟨S, rfl, h, hK⟩
  | succ k ih =>
    intro c n a S g bs h hr hk8 h6 h2 hK hl hkm hn ha hc
    obtain ⟨c, rfl⟩ : ∃ c', c = c' + 1 := ⟨c - 1, by omega⟩
    have hS := h.1
    have h24 := h.n24
    have hq := h.rq hr
    have hK20 := hq.2.2.2.2.1
    have e15 : fw_g S (m + 15) r = nI (gq g r).2.2.1.length := hq.2.1.2.1
    have haK : a < (gq g r).2.2.1.length := by omega
    have e16 : fw_g S (m + 16) (20 * r + a) = (gq g r).2.2.1[a] := hq.2.2.1.2.2.1.get haK
    rw [F_Mo_askPart_l17]
    simp (disch := omega) only [↓reduceIte, ↓om_wi, ↓let_i, ↓hS.o24, ↓hS.o25, ↓hS.o22, ↓hS.o23, hS.l17, hS.l18, hS.l15, hS.l16, m20, nI_add, pF, lF, or_self, nI_clamp, hq.a17, hq.a18, e15, h6, h2, e16]
    rw [if_neg (nI_ge (by omega) (by omega)), if_neg (nI_ge (by omega) (by omega))]
    obtain ⟨S1, p1, q1, d1⟩ := hK.put hS (by omega) (gq g r).2.2.1[a]
    rw [and255 hk8 haK] at q1
    have h1 := h.mk d1
    have hS1 := h1.1
    have hq1 := h1.rq hr
    rw [p1, Option.bind_some]
    simp (disch := omega) only [↓hS1.o25, hS1.l18, pF, lF, or_self, nI_clamp, hq1.a18, h6, nI_1]
    have h2' := h1.rsc hr (a := 18) (k := 6) (by decide) (nI (a + 1))
    have k2 : MkM (fw_wi S1 (m + 18) r (nI (a + 1))) m (bs ++ [(gq g r).2.2.1[a]]) := q1.keep (fun a k q => by simp only [cK] at q; rw [g_a (by omega)])
    obtain ⟨S3, p3, h3, k3⟩ := ih c (n + 1) (a + 1) _ (pq g r (va_up (gq g r).1 6 (nI (a + 1)), (gq g r).2)) _ h2' hr (by rw [gq_pq]; exact hk8) (by rw [gq_pq]; exact va_up_self (gq g r).1 6 (nI (a + 1))) (by rw [gq_pq]; exact (va_up_ne (gq g r).1 (nI (a + 1)) (show (2 : Nat) ≠ 6 by decide)).trans h2) k2 (by simp; omega) (by rw [gq_pq]; show k = min (b - (n + 1)) ((gq g r).2.2.1.length - (a + 1)); omega) (by omega) (by rw [gq_pq]; exact haK) (by omega)
    refine ⟨S3, p3, ?_, ?_⟩
    · rw [gq_pq, pq_pq] at h3
      simp only [bx_uu] at h3
      rw [show a + 1 + k = a + (k + 1) by omega] at h3
      exact h3
    · rw [gq_pq] at k3
      rw [List.drop_eq_getElem_cons haK, List.take_succ_cons]
      simpa using k3
theorem RM.askPart (h : RM S0 S m g) (hr : r < gn g) (hk8 : ∀ x ∈ (gq g r).2.2.1, b8 x) {a b i : Nat} (h6 : (gq g r).1 6 = nI a) (haK : a ≤ (gq g r).2.2.1.length) (h2 : (gq g r).1 2 = nI b) (hb8 : b ≤ 8) (hi : i < 5) (hh : (gq g r).1 0 = nI i) :
    ∃ S', F_Mo_askPart m (nI r) S = some S' ∧ RM S0 S' m (sSendReq (pq g r (va_up (va_up (va_up (gq g r).1 6 (nI (min (a + b) (gq g r).2.2.1.length))) 8 0) 20 1, (gq g r).2.1, (gq g r).2.2.1, (gq g r).2.2.2.1, [(gq g r).1 11 &&& 255] ++ ((gq g r).2.2.1.drop a).take (min (a + b) (gq g r).2.2.1.length - a))) r 0).2 := by
  have h24 := h.n24
  have hS := h.1
  have hK20 := (h.rq hr).2.2.2.2.1
  have h0 := h.mk (cK_zero (S := S) (m := m))
  obtain ⟨S1, p1, q1, d1⟩ := (MkM.zero (S := S) (m := m)).put (hS.keep rfl) (by simp) ((gq g r).1 11)
  have h1 := h0.mk d1
  obtain ⟨S2, p2, h2', k2⟩ := RM.askL (m := m) (r := r) hb8 (min (a + b) (gq g r).2.2.1.length - a) 4096 0 a S1 g _ h1 hr hk8 h6 h2 q1 (by simp; omega) (by omega) (by omega) haK (by omega)
  have h3 := h2'.rsc hr (a := 22) (k := 8) (by decide) 0
  have k3 : MkM (fw_wi S2 (m + 22) r 0) m ([] ++ [(gq g r).1 11 &&& 255] ++ ((gq g r).2.2.1.drop a).take (min (a + b) (gq g r).2.2.1.length - a)) := k2.keep (fun a k q => by simp only [cK] at q; rw [g_a (by omega)])
  rw [gq_pq, pq_pq] at h3
  obtain ⟨S4, p4, h4⟩ := h3.keep hr k3 (fun x hx => by
    rcases List.mem_append.mp hx with q | q
    · rw [List.nil_append] at q
      rw [List.mem_singleton.mp q]; exact b8_and _
    · exact hk8 x (List.mem_of_mem_drop (List.mem_of_mem_take q))) (by simp; omega) hi (by rw [gq_pq]; simp only; rw [va_up_ne _ _ (by decide), va_up_ne _ _ (by decide)]; exact hh) 1
  refine ⟨S4, ?_, ?_⟩
  · unfold F_Mo_askPart
    have hq0 := h0.rq hr
    have hS0 := h0.1
    simp (disch := omega) only [↓reduceIte, ↓om_wi, ↓let_i, fw_l_wi, ↓hS.o30, hS.l23, pF, lF, or_self, nI_clamp, hq0.a23]
    rw [p1, Option.bind_some, show (0 : Int32) = nI 0 from rfl, p2]
    unfold F_Mo_askPart_j78
    have hS2 := h2'.1
    simp (disch := omega) only [↓reduceIte, ↓om_wi, ↓let_i, ↓hS2.o29, hS2.l22, pF, lF, or_self, nI_clamp]
    rw [p4]
    rfl
  · rw [gq_pq, pq_pq] at h4
    have e : a + (min (a + b) (gq g r).2.2.1.length - a) = min (a + b) (gq g r).2.2.1.length := by omega
    simp only [e, List.nil_append] at h4
    exact h4
theorem RqM.rows {d : sR} {R : sPs} (h : RqM S m r d) (hd : df S S' (fun a k => (a = m + 19 ∧ k = r) ∨ ((a = m + 20 ∨ a = m + 21) ∧ 60 * r ≤ k ∧ k < 60 * r + 60))) (h1 : fw_g S' (m + 19) r = nI R.length) (h2 : Ar S' (m + 20) (60 * r) (R.map (fun x => x.1))) (h3 : Ar S' (m + 21) (60 * r) (R.map (fun x => x.2))) (h4 : R.length ≤ 60) : RqM S' m r (d.1, d.2.1, d.2.2.1, R, d.2.2.2.2) := by
  obtain ⟨q1, ⟨a1, a2, a3, a4⟩, ⟨b1, b2, b3, b4, b5, b6⟩, l1, l2, l3, l4⟩ := h
  refine ⟨fun p hp => ?_, ⟨by rw [hd.2 _ _ (fun z => by omega)]; exact a1, by rw [hd.2 _ _ (fun z => by omega)]; exact a2, h1, by rw [hd.2 _ _ (fun z => by omega)]; exact a4⟩, ⟨b1.keep (fun k _ _ => hd.2 _ _ (fun z => by omega)), b2.keep (fun k _ _ => hd.2 _ _ (fun z => by omega)), b3.keep (fun k _ _ => hd.2 _ _ (fun z => by omega)), h2, h3, b6.keep (fun k _ _ => hd.2 _ _ (fun z => by omega))⟩, l1, l2, h4, l4⟩
  have := mqK_in p hp
  rw [hd.2 _ _ (fun z => by omega)]; exact q1 p hp
theorem RM.fail (h : RM S0 S m g) (hr : r < gn g) (why : Int32) : ∃ S', F_Mo_fail m (nI r) why S = some S' ∧ RM S0 S' m (pq g r (sFailD (gq g r) why)) := by
  have h24 := h.n24
  have hS := h.1
  have hq := h.rq hr
  have h1 := h.rsc hr (a := 11) (k := 15) (by decide) why
  have h2 : ∀ v, RM S0 (fw_wi (fw_wi S (m + 11) r why) (m + 10) r v) m (pq g r (va_up (va_up (gq g r).1 15 why) 14 v, (gq g r).2)) := fun v => by
    have := h1.rsc hr (a := 10) (k := 14) (by decide) v
    rw [gq_pq, pq_pq] at this
    exact this
  have e9 : fw_g S (m + 9) r = (gq g r).1 1 := hq.a9
  have e19 : fw_g S (m + 19) r = nI (gq g r).2.2.2.1.length := hq.2.1.2.2.1
  unfold F_Mo_fail F_Mo_fail_j26x sFailD sFailF sFailR
  simp (disch := omega) only [↓reduceIte, ↓om_wi, ↓let_i, fw_l_wi, ↓hS.o18, ↓hS.o17, ↓hS.o16, ↓hS.o26, hS.l11, hS.l10, hS.l9, hS.l19, pF, lF, or_self, nI_clamp, g_a, e9, e19]
  by_cases hz : (gq g r).1 1 = 0
  · simp only [hz, if_true]
    refine ⟨_, rfl, ?_⟩
    have hq2 := (h2 2).rq hr
    rw [gq_pq] at hq2
    have := (h2 2).req hr (S' := fw_wi (fw_wi (fw_wi S (m + 11) r why) (m + 10) r 2) (m + 19) r (nI (gq g r).2.2.2.1.length)) (df.wi (Or.inl (Or.inr (Or.inr ⟨by omega, by omega, by omega, by omega, by omega, by omega, by omega, rfl⟩)))) (hq2.rows (df.wi (Or.inl ⟨rfl, rfl⟩)) g_s (hq2.2.2.1.2.2.2.1.wi (Or.inl (by omega))) (hq2.2.2.1.2.2.2.2.1.wi (Or.inl (by omega))) hq2.2.2.2.2.2.1)
    rw [pq_pq] at this
    exact this
  · simp only [hz, if_false]
    refine ⟨_, rfl, ?_⟩
    have hq2 := (h2 1).rq hr
    rw [gq_pq] at hq2
    have := (h2 1).req hr (S' := fw_wi (fw_wi (fw_wi S (m + 11) r why) (m + 10) r 1) (m + 19) r 0) (df.wi (Or.inl (Or.inr (Or.inr ⟨by omega, by omega, by omega, by omega, by omega, by omega, by omega, rfl⟩)))) (hq2.rows (R := []) (df.wi (Or.inl ⟨rfl, rfl⟩)) g_s Ar.nil Ar.nil (by simp))
    rw [pq_pq] at this
    exact this
theorem RM.finish (h : RM S0 S m g) (hr : r < gn g) {i : Nat} (hi : i < 4) (hh : (gq g r).1 0 = nI i) (hK : 0 < (gq g r).2.2.1.length) : ∃ S', F_Mo_finish m (nI r) S = some S' ∧ RM S0 S' m (sLearn (pq g r (va_up (gq g r).1 14 1, (gq g r).2)) r) := by
  have h24 := h.n24
  have hS := h.1
  have hq := h.rq hr
  have hK20 := hq.2.2.2.2.1
  have h1 := h.rsc hr (a := 10) (k := 14) (by decide) 1
  have e0 : va_up (gq g r).1 14 1 0 = nI i := (va_up_ne (gq g r).1 1 (show (0 : Nat) ≠ 14 by decide)).trans hh
  have hN : hN (nI i) = i := nI_clamp (by omega)
  have hes := h.2.2.2.2.2.2.2.1 i hi
  have e15 : fw_g S (m + 15) r = nI (gq g r).2.2.1.length := hq.2.1.2.1
  have e19 : fw_g S (m + 19) r = nI (gq g r).2.2.2.1.length := hq.2.1.2.2.1
  have ek : ¬ nI (gq g r).2.2.1.length = 0 := nI_ne0 hK (by omega)
  unfold sLearn sOwn
  rw [gq_pq]
  simp only [e0, hN]
  unfold F_Mo_finish
  simp (disch := omega) only [↓reduceIte, ↓om_wi, ↓let_i, fw_l_wi, ↓hS.o17, ↓hS.o15, ↓hS.o26, ↓hS.o22, ↓hS.o36, ↓hS.o37, hS.l10, hS.l8, hS.l19, hS.l15, hS.l29, hS.l30, pF, lF, or_self, nI_clamp, g_a, hq.a8, hh, e15, e19, ek, hes.1, hes.2]
  have eg : gd (pq g r (va_up (gq g r).1 14 1, (gq g r).2)) i = gd g i := rfl
  have ee : ge (pq g r (va_up (gq g r).1 14 1, (gq g r).2)) i = ge g i := rfl
  rw [eg, ee]
  by_cases hz : gd g i = 0
  · simp only [hz, if_true]
    exact ⟨_, rfl, h1.est _⟩
  · simp only [hz, if_false]
    exact ⟨_, rfl, h1.est _⟩
end MA
