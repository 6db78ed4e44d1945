/-! The class: places, sending, learning. -/
def inc (x : Nat) (S S' : fw_S) : Prop := ∀ j, j < 5 → fw_g S' (x + 49 + 4 * j) = fw_g S (x + 49 + 4 * j)
theorem inc.tr {x : Nat} {S S' S'' : fw_S} (h : inc x S S') (h' : inc x S' S'') : inc x S S'' := fun j hj => (h' j hj).trans (h j hj)
section XS
variable {S0 S S' : fw_S} {x : Nat} {q p p' : Nat → Nat} {g : sG}
theorem RX.wire (h : RX S0 S x q p g) {i : Nat} (hi : i < 5) : F_FW_wireAt x (nI i) S = some (some (x + 47 + 4 * i)) := by
  obtain ⟨-, ⟨a, b, c, d, e, f, l1, l2, l3, l4, w⟩, -⟩ := h
  unfold F_FW_wireAt
  have e1 : ¬ nI i < 0 := nI_pos (by omega)
  have e3 : ¬ nI 5 ≤ nI i := nI_ge (by omega) (by omega)
  have e4 : (nI i).toNatClampNeg = i := nI_clamp (by omega)
  have e5 : ¬ 5 ≤ i := by omega
  simp only [fw_om, a, l1, e1, e3, e4, e5, if_false, or_self, w i hi]
theorem RX.wireNo (h : RX S0 S x q p g) {v : Int32} (hv : v < 0 ∨ nI 5 ≤ v) : F_FW_wireAt x v S = some none := by
  obtain ⟨-, ⟨a, b, c, d, e, f, l1, l2, l3, l4, w⟩, -⟩ := h
  unfold F_FW_wireAt
  by_cases h0 : v < 0
  · rw [if_pos h0]
  · rw [if_neg h0, a]
    simp only [fw_om]
    rw [l1, if_pos (hv.resolve_left h0)]
theorem RX.house (h : RX S0 S x q p g) {i : Nat} (hi : i < 4) : F_FW_houseWire x (nI i) S = some (some (x + 47 + 4 * i)) := by
  unfold F_FW_houseWire
  rw [if_neg (show ¬ (4 : Int32) ≤ nI i from nI_ge (b := 4) hi (by omega)), h.wire (by omega), Option.bind_some]
  rfl
theorem RX.houseNo (h : RX S0 S x q p g) {v : Int32} (hv : v < 0 ∨ nI 4 ≤ v) : F_FW_houseWire x v S = some none := by
  unfold F_FW_houseWire
  by_cases h4 : (4 : Int32) ≤ v
  · rw [if_pos h4]
  · have h0 : v < 0 := hv.resolve_right h4
    rw [if_neg h4, h.wireNo (Or.inl h0), Option.bind_some]
    rfl
theorem RX.reqAt (h : RX S0 S x q p g) {r : Nat} (hr : r < gn g) : F_FW_requestAt x (nI r) S = some (some (q r)) := by
  obtain ⟨-, ⟨a, b, c, d, e, f, l1, l2, l3, l4, w⟩, -, -, ⟨hn, h24, hq, -⟩, -⟩ := h
  unfold F_FW_requestAt
  have e1 : ¬ nI r < 0 := nI_pos (by omega)
  have e2 : ¬ nI (gn g) ≤ nI r := nI_ge (by omega) (by omega)
  have e3 : ¬ nI 24 ≤ nI r := nI_ge (by omega) (by omega)
  have e4 : (nI r).toNatClampNeg = r := nI_clamp (by omega)
  have e5 : ¬ 24 ≤ r := by omega
  simp only [fw_om, hn, b, l2, e1, e2, e3, e4, e5, if_false, or_self, (hq r hr).1]
theorem RX.reqNo (h : RX S0 S x q p g) {v : Int32} (hv : v < 0 ∨ nI (gn g) ≤ v) : F_FW_requestAt x v S = some none := by
  obtain ⟨-, -, -, -, ⟨hn, h24, hq, -⟩, -⟩ := h
  unfold F_FW_requestAt
  rw [hn]
  by_cases h0 : v < 0
  · rw [if_pos h0]
  · rw [if_neg h0, if_pos (hv.resolve_left h0)]
theorem RX.send (h : RX S0 S x q p g) {i : Nat} (hi : i < 5) {f : Nat} {kind num : Int32} {bs : List Int32} (hF : FrX S f kind num bs) (hf : (x < f ∧ f + 1 < x + 47) ∨ x + 67 ≤ f) :
    ∃ S', F_FW_send x f (x + 47 + 4 * i) S = some ((sSendTo g i kind num bs).1, S') ∧ RX S0 S' x q p (sSendTo g i kind num bs).2 ∧ inc x S S' := by
  obtain ⟨hup, hQ, hO⟩ := h.2.2.2.1 i hi
  unfold sSendTo F_FW_send
  by_cases hc : (gl g i).1 = 0 ∨ 300 < (gl g i).2.1.length + bs.length + 5
  · rw [if_pos hc, hQ.lost hF (by rw [hup]; exact hc)]
    simp only [fw_b2, fw_let]
    rw [h.2.2.1.2.2.2.2.2]
    exact ⟨_, rfl, h.num 5 (by decide) _, fun j hj => fw_g_wi_ne (by omega)⟩
  · rw [if_neg hc]
    have hu : (gl g i).1 ≠ 0 := fun z => hc (Or.inl z)
    have hlen : (gl g i).2.1.length + bs.length + 5 ≤ 300 := Nat.not_lt.mp (fun z => hc (Or.inr z))
    obtain ⟨S1, p1, q1, f1, s1, g1, k1⟩ := hQ.send hF (by rw [hup]; exact hu) (by omega) (by omega) (by omega) (by omega) hlen
    rw [p1]
    simp only [fw_b2]
    refine ⟨S1, rfl, h.line hi (ot.of s1 (fun a ha => g1 a (by omega) (by omega))) ⟨by rw [k1 0 (by decide)]; exact hup, q1, hO.keep s1 (k1 5 (by decide)) (k1 6 (by decide)) (g1 _ (by omega) (by omega)) (g1 _ (by omega) (by omega))⟩, fun j hj => g1 _ (by omega) (by omega)⟩
/-- the frame of request r is sent, by 'sendFirst' -/
theorem RX.sendF (h : RX S0 S x q p g) {r i : Nat} (hr : r < gn g) (hi : i < 5) (hh : (gq g r).1 0 = nI i) (hnum : (gq g r).1 21 = nI r) : ∃ S', F_FW_sendFirst x (q r) (x + 47 + 4 * i) S = some ((sSendReq g r 0).1, S') ∧ RX S0 S' x q p (sSendReq g r 0).2 ∧ inc x S S' := by
  obtain ⟨c1, c2, c3, c4⟩ := h.2.2.2.2.1.2.2.1 r hr
  have hck : fw_g S x 10 = gc g 3 := h.2.2.1.2.2.2.1
  have d1 := (c4.sc 12 (gc g 3) (by decide) (by decide) (by decide) (by decide)).sc 13 0 (by decide) (by decide) (by decide) (by decide)
  have h1 : RX S0 (fw_wi (fw_wi S (q r) 12 (gc g 3)) (q r) 13 0) x q p (pq g r (va_up (va_up (gq g r).1 12 (gc g 3)) 13 0, (gq g r).2)) := h.req hr (ot.of (sm_tr sm_wi sm_wi) (fun a ha => by rw [fw_g_wi_ne (by omega), fw_g_wi_ne (by omega)])) d1
  have hF := d1.2.2.2.2.2.2.2.2.2
  rw [va_up_ne _ _ (by decide), va_up_ne _ _ (by decide), va_up_ne _ _ (by decide), va_up_ne _ _ (by decide), hnum] at hF
  obtain ⟨S2, p2, q2, i2⟩ := h1.send hi hF (Or.inr (by omega))
  have hhN : hN ((gq g r).1 0) = i := by rw [hh]; exact nI_clamp (by omega)
  unfold sSendReq
  rw [hhN]
  refine ⟨S2, ?_, q2, fun j hj => by rw [i2 j hj, fw_g_wi_ne (by omega), fw_g_wi_ne (by omega)]⟩
  simp only [F_FW_sendFirst, fw_let]
  rw [hck]
  show fw_om (fw_r S (q r) 9) none _ = _
  rw [c4.1.2.2.2.1]
  simp only [fw_om]
  rw [p2]
  simp only [fw_b2]
  have h01 : (sSendTo (pq g r (va_up (va_up (gq g r).1 12 (gc g 3)) 13 0, (gq g r).2)) i ((gq g r).1 20) (nI r) (gq g r).2.2.2.2).1 = 0 ∨ (sSendTo (pq g r (va_up (va_up (gq g r).1 12 (gc g 3)) 13 0, (gq g r).2)) i ((gq g r).1 20) (nI r) (gq g r).2.2.2.2).1 = 1 := by
    unfold sSendTo
    split
    · exact Or.inl rfl
    · exact Or.inr rfl
  rw [if_pos h01]
/-- the frame of request r is sent again, by 'repeat' -/
theorem RX.again (h : RX S0 S x q p g) {r i : Nat} (hr : r < gn g) (hi : i < 4) (hh : (gq g r).1 0 = nI i) (hnum : (gq g r).1 21 = nI r) : ∃ S', F_FW_repeat x (q r) S = some S' ∧ RX S0 S' x q p (sSendReq g r ((gq g r).1 13 + 1)).2 ∧ inc x S S' := by
  obtain ⟨c1, c2, c3, c4⟩ := h.2.2.2.2.1.2.2.1 r hr
  have hck : fw_g S x 10 = gc g 3 := h.2.2.1.2.2.2.1
  have e13 : fw_g (fw_wi S (q r) 12 (gc g 3)) (q r) 13 = (gq g r).1 13 := by rw [g_k (by decide)]; exact c4.2.1 13 (by decide)
  have d1 := (c4.sc 12 (gc g 3) (by decide) (by decide) (by decide) (by decide)).sc 13 ((gq g r).1 13 + 1) (by decide) (by decide) (by decide) (by decide)
  have h1 : RX S0 (fw_wi (fw_wi S (q r) 12 (gc g 3)) (q r) 13 ((gq g r).1 13 + 1)) x q p (pq g r (va_up (va_up (gq g r).1 12 (gc g 3)) 13 ((gq g r).1 13 + 1), (gq g r).2)) := h.req hr (ot.of (sm_tr sm_wi sm_wi) (fun a ha => by rw [fw_g_wi_ne (by omega), fw_g_wi_ne (by omega)])) d1
  have hF := d1.2.2.2.2.2.2.2.2.2
  rw [va_up_ne _ _ (by decide), va_up_ne _ _ (by decide), va_up_ne _ _ (by decide), va_up_ne _ _ (by decide), hnum] at hF
  obtain ⟨S2, p2, q2, i2⟩ := h1.send (i := i) (by omega) hF (Or.inr (by omega))
  have hhN : hN ((gq g r).1 0) = i := by rw [hh]; exact nI_clamp (by omega)
  unfold sSendReq
  rw [hhN]
  refine ⟨S2, ?_, q2, fun j hj => by rw [i2 j hj, fw_g_wi_ne (by omega), fw_g_wi_ne (by omega)]⟩
  unfold F_FW_repeat
  rw [c4.2.1 0 (by decide), hh, h.house hi, Option.bind_some]
  simp only [fw_om, fw_let]
  rw [hck, e13]
  have hr9 : fw_r (fw_wi (fw_wi S (q r) 12 (gc g 3)) (q r) 13 ((gq g r).1 13 + 1)) (q r) 9 = some (q r + 4) := c4.1.2.2.2.1
  rw [hr9]
  simp only
  rw [p2]
  rfl
theorem RX.est (h : RX S0 S x q p g) {i : Nat} (hi : i < 4) (v : Int32) : RX S0 (fw_wi (fw_wi S (x + 45) i v) (x + 46) i 1) x q p (pe g i v) := by
  obtain ⟨h0, hsh, hsc, hln, hrs, hnx, ⟨hsv, hrp⟩, hes⟩ := h
  have ho : ot (x + 45) 2 S (fw_wi (fw_wi S (x + 45) i v) (x + 46) i 1) := ot.of (sm_tr sm_wi sm_wi) (fun a ha => by rw [fw_g_wi_ne (by omega), fw_g_wi_ne (by omega)])
  refine ⟨h0.tr (ho.sam (by omega)), hsh, hsc.blk (ho.1 x (by omega)).1, fun j hj => (hln j hj).blk (ho.sam (by omega)), hrs.blk (by rw [(ho.1 x (by omega)).1]) rfl (Nat.le_refl _) (fun r hr => ho.sam (by have := (hrs.2.2.1 r hr).2.1; omega)), hnx.blk (ho.sam (by omega)), ⟨hsv.blk (ho.sam (by omega)), by rw [(ho.1 (x + 6) (by omega)).1]; exact hrp⟩, fun j hj => ?_⟩
  show _ = va_up (ge g) i v j ∧ _ = va_up (gd g) i 1 j
  by_cases hc : j = i
  · subst hc
    rw [va_up_self, va_up_self, g_a (by omega), g_s, g_s]
    exact ⟨rfl, rfl⟩
  · rw [va_up_ne _ _ hc, va_up_ne _ _ hc, g_a (by omega), g_k hc, g_k hc, g_a (by omega)]
    exact hes j hj
theorem RX.learn (h : RX S0 S x q p g) {r i : Nat} (hr : r < gn g) (hi : i < 4) (hh : (gq g r).1 0 = nI i) (hK : 0 < (gq g r).2.2.1.length) : ∃ S', F_FW_learn x (q r) S = some S' ∧ RX S0 S' x q p (sLearn g r) ∧ inc x S S' := by
  obtain ⟨c1, c2, c3, c4⟩ := h.2.2.2.2.1.2.2.1 r hr
  obtain ⟨a, b, c, d, e, f, l1, l2, l3, l4, w⟩ := h.2.1
  have hhN : hN ((gq g r).1 0) = i := by rw [hh]; exact nI_clamp (by omega)
  have hK20 : (gq g r).2.2.1.length ≤ 20 := Nat.le_trans c4.2.2.2.2.2.1 c4.2.2.2.2.1
  unfold sLearn
  rw [hhN]
  refine ⟨_, ?_, h.est hi _, fun j hj => by rw [fw_g_wi_ne (by omega), fw_g_wi_ne (by omega)]⟩
  unfold F_FW_learn
  have hes := h.2.2.2.2.2.2.2 i hi
  have e0 : ¬ nI (gq g r).2.2.1.length ≤ 0 := nI_nle hK (by omega)
  have e0' : ¬ nI (gq g r).2.2.1.length = 0 := nI_ne0 hK (by omega)
  have e1 : ¬ nI i < 0 := nI_pos (by omega)
  have e2 : ¬ nI 4 ≤ nI i := nI_ge hi (by omega)
  have e3 : nI i < nI 4 := nI_lt hi (by omega)
  have e4 : (nI i).toNatClampNeg = i := nI_clamp (by omega)
  have e5 : ¬ 4 ≤ i := by omega
  have e6 : fw_g S (q r) 0 = nI i := by rw [c4.2.1 0 (by decide), hh]
  have e7 : fw_g S (q r + 1) 2 = nI (gq g r).2.2.2.1.length := c4.2.2.2.2.2.2.2.2.1.2.2.2.2.2.1
  simp only [fw_om, fw_let, e6, c4.2.2.2.1, e, f, l3, l4, c4.1.2.2.1, e0, e0', e1, e2, e3, e4, e5, e7, if_false, if_true, or_self, hes.1, hes.2, fw_r_wi, fw_l_wi]
  by_cases hc : gd g i = 0
  · simp only [hc, if_true]
    rfl
  · simp only [hc, if_false]
    rfl
end XS
