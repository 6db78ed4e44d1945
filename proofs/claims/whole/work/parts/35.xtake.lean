/-! The class: a byte comes. -/
theorem pq_pq (g : sG) (r : Nat) (a b : sR) : pq (pq g r a) r b = pq g r b := by unfold pq; simp only [bx_uu]
theorem gq_pq (g : sG) (r : Nat) (a : sR) : gq (pq g r a) r = a := va_up_self _ _ _
theorem b8_getD {l : List Int32} (h : ∀ b ∈ l, b8 b) (k : Nat) : b8 (l.getD k 0) := by
  rw [List.getD_eq_getElem?_getD]
  cases hk : l[k]? with
  | none => unfold b8; decide
  | some b => exact h b (List.mem_of_getElem? hk)
section XT
variable {S0 S S' : fw_S} {x : Nat} {q p p' : Nat → Nat} {g : sG}
theorem RX.hear (h : RX S0 S x q p g) (hok : ∀ r, r < gn g → okR r (gq g r)) {i : Nat} (hi : i < 4) {kind num : Int32} {bs : List Int32} (hF : FrX S (x + 49 + 4 * i) kind num bs) (hn8 : b8 num) (h2 : kind = 2 → 2 ≤ bs.length) :
    ∃ S', F_FW_hear x (x + 49 + 4 * i) (nI i) (x + 47 + 4 * i) S = some ((sHear g i kind num bs).1, S') ∧ RX S0 S' x q p (sHear g i kind num bs).2 ∧ inc x S S' := by
  obtain ⟨r, hr256, rfl⟩ := b8_of hn8
  have h24 := h.2.2.2.2.1.2.1
  have hhr : hN (nI r) = r := nI_clamp (by omega)
  unfold F_FW_hear sHear
  rw [hF.2.2.2.1, hhr]
  by_cases hr : r < gn g
  · rw [if_pos hr, h.reqAt hr, Option.bind_some]
    simp only [fw_om]
    obtain ⟨c1, c2, c3, c4⟩ := h.2.2.2.2.1.2.2.1 r hr
    obtain ⟨⟨hh, hh4, hhe⟩, hsil, ⟨b, hb1, hb8, hbe⟩, ⟨a, haK, hae⟩, hk8, hKB, hB20, hR60, hwt, -⟩ := hok r hr
    rw [c4.waits hF, Option.bind_some]
    by_cases hw : sWaits (gq g r) i kind bs
    · have hw' : (gq g r).1 14 = 0 ∧ (gq g r).1 0 = nI i ∧ bs.getD 0 0 = (gq g r).1 11 ∧ (kind = 2 ∨ kind = 4) := hw
      rw [if_pos hw, if_pos hw', if_neg (by decide), hF.2.2.1]
      obtain ⟨hnum, hKpos, -⟩ := hwt hw'.1
      by_cases hk4 : kind = 4
      · rw [if_pos hk4, if_pos hk4]
        obtain ⟨S1, p1, q1, s1, g1⟩ := c4.fail 3
        rw [p1, Option.bind_some]
        exact ⟨S1, rfl, h.req hr (d := sFailD (gq g r) 3) (ot.of s1 (fun a ha => g1 a (by omega))) q1, fun j hj => g1 _ (by omega)⟩
      · rw [if_neg hk4, if_neg hk4]
        have hk2 : kind = 2 := hw'.2.2.2.resolve_right hk4
        obtain ⟨S1, p1, q1, s1, g1⟩ := c4.take hF (Or.inl (by omega)) (h2 hk2)
        have h1 : RX S0 S1 x q p (pq g r (sTook (gq g r) bs)) := h.req hr (d := sTook (gq g r) bs) (ot.of s1 (fun a ha => g1 a (by omega))) q1
        have i1 : inc x S S1 := fun j hj => g1 _ (by omega)
        have hF1 : FrX S1 (x + 49 + 4 * i) kind (nI r) bs := hF.keep s1 (g1 _ (by omega)) (g1 _ (by omega))
        have e1 : F_Frame_byteAt (x + 49 + 4 * i) 1 S1 = some (bs.getD 1 0) := hF1.at 1 (by decide)
        rw [p1, Option.bind_some, e1, Option.bind_some]
        have c1' := h1.2.2.2.2.1.2.2.1 r hr
        rw [gq_pq] at c1'
        have tk0 : ∀ k, k ≠ 8 → (sTook (gq g r) bs).1 k = (gq g r).1 k := fun k hk => va_up_ne _ _ hk
        have nx0 : ∀ (f : Nat → Int32) (k2 : Int32) (k : Nat), k ≠ 11 → k ≠ 20 → k ≠ 21 → sNext f k2 r k = f k := fun f k2 k h1 h2 h3 => by rw [sNext, va_up_ne _ _ h3, va_up_ne _ _ h2, va_up_ne _ _ h1]
        have nx21 : ∀ (f : Nat → Int32) (k2 : Int32), sNext f k2 r 21 = nI r := fun f k2 => va_up_self _ _ _
        unfold sRowsIn
        by_cases hm : bs.getD 1 0 = 1
        · rw [if_pos hm, if_pos hm]
          obtain ⟨S2, p2, q2, s2, g2⟩ := c1'.2.2.2.more
          have h2' : RX S0 S2 x q p (pq g r (sMoreD (sTook (gq g r) bs) r)) := by
            have := h1.req (r := r) hr (d := sMoreD (sTook (gq g r) bs) r) (ot.of s2 (fun a ha => g2 a (by omega) (by omega) (by omega))) q2
            rw [pq_pq] at this
            exact this
          obtain ⟨S3, p3, q3, i3⟩ := h2'.sendF (r := r) hr (i := i) (by omega) (by rw [gq_pq]; exact (nx0 (sTook (gq g r) bs).1 3 0 (by decide) (by decide) (by decide)).trans ((tk0 0 (by decide)).trans hw'.2.1)) (by rw [gq_pq]; exact nx21 (sTook (gq g r) bs).1 3)
          rw [p2, Option.bind_some, p3]
          exact ⟨S3, rfl, q3, i1.tr (inc.tr (fun j hj => g2 _ (by omega) (by omega) (by omega)) i3)⟩
        · rw [if_neg hm, if_neg hm]
          have ha6 : (sTook (gq g r) bs).1 6 = nI a := by rw [tk0 6 (by decide), hae]
          have hb2 : (sTook (gq g r) bs).1 2 = nI b := by rw [tk0 2 (by decide), hbe]
          have hKl : (sTook (gq g r) bs).2.2.1 = (gq g r).2.2.1 := rfl
          rw [c1'.2.2.2.left ha6 haK, Option.bind_some, hKl]
          have hha : hN ((gq g r).1 6) = a := by rw [hae]; exact nI_clamp (by omega)
          rw [hha]
          by_cases hl : a < (gq g r).2.2.1.length
          · rw [if_pos hl, if_pos hl, if_neg (by decide)]
            obtain ⟨S2, p2, q2, s2, g2⟩ := c1'.2.2.2.ask hk8 ha6 hb2 haK hb8
            have hha' : hN ((sTook (gq g r) bs).1 6) = a := by rw [ha6]; exact nI_clamp (by omega)
            have hhb' : hN ((sTook (gq g r) bs).1 2) = b := by rw [hb2]; exact nI_clamp (by omega)
            have h2' : RX S0 S2 x q p (pq g r (sAskD (sTook (gq g r) bs) r)) := by
              have := h1.req (r := r) hr (d := sAskD (sTook (gq g r) bs) r) (ot.of s2 (fun a ha => g2 a (by omega) (by omega) (by omega))) (by
                unfold sAskD
                rw [hha', hhb']
                exact q2)
              rw [pq_pq] at this
              exact this
            have ak0 : ∀ k, k ≠ 6 → k ≠ 8 → (sAskD (sTook (gq g r) bs) r).1 k = sNext (sTook (gq g r) bs).1 1 r k := fun k h1 h2 => by
              show va_up (va_up _ 6 _) 8 0 k = _
              rw [va_up_ne _ _ h2, va_up_ne _ _ h1]
            obtain ⟨S3, p3, q3, i3⟩ := h2'.sendF (r := r) hr (i := i) (by omega) (by rw [gq_pq, ak0 0 (by decide) (by decide), nx0 _ _ _ (by decide) (by decide) (by decide), tk0 0 (by decide)]; exact hw'.2.1) (by rw [gq_pq, ak0 21 (by decide) (by decide)]; exact nx21 _ _)
            rw [p2, Option.bind_some, p3]
            exact ⟨S3, rfl, q3, i1.tr (inc.tr (fun j hj => g2 _ (by omega) (by omega) (by omega)) i3)⟩
          · rw [if_neg hl, if_neg hl, if_pos (by decide)]
            have d2 := c1'.2.2.2.sc 14 1 (by decide) (by decide) (by decide) (by decide)
            have h2' : RX S0 (fw_wi S1 (q r) 14 1) x q p (pq g r (va_up (sTook (gq g r) bs).1 14 1, (sTook (gq g r) bs).2)) := by
              have := h1.req (r := r) hr (d := (va_up (sTook (gq g r) bs).1 14 1, (sTook (gq g r) bs).2)) (ot.of sm_wi (fun a ha => fw_g_wi_ne (by omega))) d2
              rw [pq_pq] at this
              exact this
            obtain ⟨S3, p3, q3, i3⟩ := h2'.learn (r := r) hr hi (by rw [gq_pq]; exact (va_up_ne (sTook (gq g r) bs).1 1 (show (0 : Nat) ≠ 14 by decide)).trans ((tk0 0 (by decide)).trans hw'.2.1)) (by rw [gq_pq]; exact hKpos)
            simp only [fw_let]
            rw [p3]
            exact ⟨S3, rfl, q3, i1.tr (inc.tr (fun j hj => fw_g_wi_ne (by omega)) i3)⟩
    · have hw' : ¬ ((gq g r).1 14 = 0 ∧ (gq g r).1 0 = nI i ∧ bs.getD 0 0 = (gq g r).1 11 ∧ (kind = 2 ∨ kind = 4)) := hw
      rw [if_neg hw, if_neg hw', if_pos rfl]
      exact ⟨S, rfl, h, fun _ _ => rfl⟩
  · rw [if_neg hr, h.reqNo (Or.inr (nI_le (by omega) (by omega))), Option.bind_some]
    exact ⟨S, rfl, h, fun _ _ => rfl⟩
theorem RX.serve (h : RX S0 S x q p g) (hfa : okPs (gf g)) (hms : ∀ m ∈ gm g, okPs m.2.2.2) {kind num : Int32} {bs : List Int32} (hF : FrX S (x + 65) kind num bs) (hb : ∀ k, b8 (bs.getD k 0)) (h1 : kind = 1 → 1 ≤ bs.length) :
    ∃ S' p', F_FW_serve x (x + 65) (x + 63) S = some ((sServe g kind num bs).1, S') ∧ RX S0 S' x q p' (sServe g kind num bs).2 ∧ inc x S S' := by
  have hsh := h.2.1
  have hsv := h.2.2.2.2.2.2.1.1
  have hrp := h.2.2.2.2.2.2.1.2
  unfold F_FW_serve sServe
  rw [hF.2.2.1]
  by_cases k1 : kind = 1
  · rw [if_pos k1, if_pos k1, hsh.2.2.2.1]
    simp only [fw_om]
    obtain ⟨S1, p1, e1, v1, f1, r1, o1⟩ := hsv.ask hfa hms hF (Or.inr (by omega)) (h1 k1) (hb 0)
    have g1 := h.serv o1 v1 (by rw [r1, hrp])
    obtain ⟨S2, e2, v2, i2⟩ := g1.send (i := 4) (by omega) f1 (Or.inl (by omega))
    rw [e1, Option.bind_some, g1.2.1.2.2.2.1]
    simp only
    rw [v1.1.2.2.1]
    simp only
    rw [show x + 63 = x + 47 + 4 * 4 from rfl, e2]
    exact ⟨S2, p1, rfl, v2, inc.tr (fun j hj => (o1.1 _ (by omega)).1) i2⟩
  · rw [if_neg k1, if_neg k1]
    by_cases k3 : kind = 3
    · rw [if_pos k3, if_pos k3, hsh.2.2.2.1]
      simp only [fw_om]
      obtain ⟨S1, e1, v1, f1, r1, o1⟩ := hsv.more hms hF (Or.inr (by omega)) (hb 0) (hb 1)
      have g1 := h.serv o1 v1 (by rw [r1, hrp])
      have hid : pc (pm g (sMoreMs (gm g) num bs)) 6 (gc g 6) = pm g (sMoreMs (gm g) num bs) := by
        show (va_up (gc g) 6 (gc g 6), (pm g (sMoreMs (gm g) num bs)).2) = _
        rw [up_id]
        rfl
      rw [hid] at g1
      obtain ⟨S2, e2, v2, i2⟩ := g1.send (i := 4) (by omega) f1 (Or.inl (by omega))
      rw [e1, Option.bind_some, g1.2.1.2.2.2.1]
      simp only
      rw [v1.1.2.2.1]
      simp only
      rw [show x + 63 = x + 47 + 4 * 4 from rfl, e2]
      exact ⟨S2, p, rfl, v2, inc.tr (fun j hj => (o1.1 _ (by omega)).1) i2⟩
    · rw [if_neg k3, if_neg k3]
      exact ⟨S, p, rfl, h, fun _ _ => rfl⟩
theorem RX.wrong (h : RX S0 S x q p g) {i : Nat} (hi : i < 5) : ∃ S', (if nI i = (4 : Int32) then some (fw_wi S (x + 47 + 4 * i) 5 0) else F_Wire_end (x + 47 + 4 * i) S) = some S' ∧ RX S0 S' x q p (sWrong g i) := by
  obtain ⟨hup, hQ, hO⟩ := h.2.2.2.1 i hi
  unfold sWrong
  by_cases hc : i = 4
  · subst hc
    rw [if_pos rfl, if_pos (by rfl)]
    refine ⟨_, rfl, h.line hi (ot.of sm_wi (fun a ha => fw_g_wi_ne (by omega))) ⟨by rw [g_k (by decide)]; exact hup, hQ.keep sm_wi (g_k (by decide)) (g_k (by decide)) (fw_g_wi_ne (by omega)), ⟨hO.1, hO.2.1, hO.2.2.1, by rw [g_s]; rfl, fun z => by simp at z, fun z => by simp at z⟩⟩⟩
  · rw [if_neg hc, if_neg (show ¬ nI i = 4 from nI_ne (b := 4) hc (by omega) (by decide))]
    have hQ1 : QuX (fw_wi (fw_wi S (x + 47 + 4 * i) 0 0) (x + 47 + 4 * i) 5 0) (x + 47 + 4 * i) (gl g i).2.1 := hQ.keep (sm_tr sm_wi sm_wi) (by rw [g_k (by decide), g_k (by decide)]) (by rw [g_k (by decide), g_k (by decide)]) (by rw [fw_g_wi_ne (by omega), fw_g_wi_ne (by omega)])
    obtain ⟨S1, p1, q1, s1, g1, k1⟩ := hQ1.clear
    refine ⟨S1, ?_, h.line hi (ot.of (sm_tr (sm_tr sm_wi sm_wi) s1) (fun a ha => by rw [g1 a (by omega), fw_g_wi_ne (by omega), fw_g_wi_ne (by omega)])) ⟨by rw [k1 0 (by decide) (by decide), g_k (by decide), g_s], q1, ⟨by rw [sm_r s1]; exact hO.1, by rw [sm_r s1]; exact hO.2.1, by rw [sm_l s1]; exact hO.2.2.1, by rw [k1 5 (by decide) (by decide), g_s]; rfl, fun z => by simp at z, fun z => by simp at z⟩⟩⟩
    simp only [F_Wire_end, fw_let]
    rw [p1]
    rfl
/-- a byte comes on line i, which is up -/
theorem RX.take (h : RX S0 S x q p g) (hok : okG g) {i : Nat} (hi : i < 5) {b : Int32} (hb : b8 b) : ∃ S' p', F_FW_take x (nI i) (x + 47 + 4 * i) b S = some ((sCome g i b).1, S') ∧ RX S0 S' x q p' (sCome g i b).2 := by
  obtain ⟨-, -, hL, -, -, hRq, -, ⟨-, hfa⟩, ⟨-, hms, -⟩⟩ := hok
  obtain ⟨hup, hQ, hO⟩ := h.2.2.2.1 i hi
  have ho : okO (gl g i).2.2 := (hL i hi).2.2.2
  unfold F_FW_take sCome
  by_cases hf : sFit (gl g i).2.2 b = true
  · rw [if_pos hf]
    by_cases hd : sDone (gl g i).2.2
    · rw [if_pos hd]
      obtain ⟨S1, p1, q1, f1, s1, g1, k1⟩ := hO.whole ho hb hf hd
      have h1 : RX S0 S1 x q p (pl g i ((gl g i).1, (gl g i).2.1, [])) := h.line hi (ot.of s1 (fun a ha => g1 a (by omega))) ⟨by rw [k1 0 (by decide)]; exact hup, hQ.keep s1 (k1 2 (by decide)) (k1 3 (by decide)) (g1 _ (by omega)), q1⟩
      rw [p1]
      simp only [fw_b2]
      rw [if_neg (by decide)]
      unfold F_FW_take_j31
      rw [if_pos rfl, q1.1]
      simp only [fw_om]
      have hby : ∀ k, b8 (((gl g i).2.2.drop 4).getD k 0) := b8_getD (fun b hb => ho.1 b (List.mem_of_mem_drop hb))
      have hnum : b8 ((gl g i).2.2.getD 2 0) := b8_getD ho.1 2
      obtain ⟨n, hn3, hn1, hn18, hlok, hln⟩ := ho.2.2 hd.1
      have hlen : ((gl g i).2.2.drop 4).length = n := by
        rw [List.length_drop, (ho.done hd.1 hn3 (by omega)).mp hd]
        omega
      have fin : ∀ (u : Int32 × sG) (S2 : fw_S) (p2 : Nat → Nat), RX S0 S2 x q p2 u.2 → fw_g S2 (x + 49 + 4 * i) 0 = (gl g i).2.2.getD 1 0 → ∃ S' p', F_FW_take_j69 x (x + 47 + 4 * i + 2) u.1 S2 = some ((sDrop ((gl g i).2.2.getD 1 0) u).1, S') ∧ RX S0 S' x q p' (sDrop ((gl g i).2.2.getD 1 0) u).2 := by
        intro u S2 p2 hu hk
        unfold F_FW_take_j69 sDrop
        by_cases hz : u.1 = 0
        · rw [if_pos hz, if_pos hz]
          simp only [fw_let]
          refine ⟨_, p2, ?_, hu.num 4 (by decide) _⟩
          rw [g_a (by omega), show x + 47 + 4 * i + 2 = x + 49 + 4 * i by omega, hk, hu.2.2.1.2.2.2.2.1]
        · rw [if_neg hz, if_neg hz]
          exact ⟨S2, p2, by rw [show x + 47 + 4 * i + 2 = x + 49 + 4 * i by omega, hk], hu⟩
      have hk1 : fw_g S1 (x + 49 + 4 * i) 0 = (gl g i).2.2.getD 1 0 := by
        rw [show x + 49 + 4 * i = x + 47 + 4 * i + 2 by omega]; exact f1.2.2.1
      by_cases hc : i = 4
      · subst hc
        rw [if_pos rfl, if_pos (show nI 4 = 4 from rfl)]
        obtain ⟨S2, p2, e2, v2, i2⟩ := h1.serve hfa (fun m hm => (hms m hm).1) f1 hby (fun hk => by rw [hlen]; omega)
        rw [show x + 47 + 4 * 4 + 2 = x + 65 from rfl, show x + 47 + 4 * 4 = x + 63 from rfl, e2]
        exact fin _ S2 p2 v2 (by rw [show x + 49 + 4 * 4 = x + 49 + 4 * 4 from rfl, i2 4 (by omega)]; exact hk1)
      · rw [if_neg hc, if_neg (show ¬ nI i = 4 from nI_ne (b := 4) hc (by omega) (by decide))]
        obtain ⟨S2, e2, v2, i2⟩ := h1.hear (fun r hr => hRq r hr) (i := i) (by omega) (by rw [show x + 49 + 4 * i = x + 47 + 4 * i + 2 by omega]; exact f1) hnum (fun hk => by
          rw [hlen]
          have hlk := hlok
          rw [hk] at hlk
          simp [sLenOk] at hlk
          exact Nat.not_lt.mp (fun z => absurd hlk.1 (nI_ge (b := 2) (by omega) (by omega))))
        rw [show x + 47 + 4 * i + 2 = x + 49 + 4 * i by omega, e2]
        have := fin _ S2 p v2 (by rw [i2 i hi]; exact hk1)
        rw [show x + 47 + 4 * i + 2 = x + 49 + 4 * i by omega] at this
        exact this
    · rw [if_neg hd]
      obtain ⟨S1, p1, q1, s1, g1, k1⟩ := hO.more ho hb hf hd
      rw [p1]
      simp only [fw_b2]
      rw [if_neg (by decide)]
      unfold F_FW_take_j31
      rw [if_neg (by decide)]
      exact ⟨S1, p, rfl, h.line hi (ot.of s1 (fun a ha => g1 a (by omega) (by omega) (by omega))) ⟨by rw [k1 0 (by decide) (by decide)]; exact hup, hQ.keep s1 (k1 2 (by decide) (by decide)) (k1 3 (by decide) (by decide)) (g1 _ (by omega) (by omega) (by omega)), q1⟩⟩
  · rw [if_neg hf, hO.wrong ho hf]
    simp only [fw_b2, if_true]
    obtain ⟨S1, e1, v1⟩ := h.wrong hi
    by_cases hc : nI i = (4 : Int32)
    · rw [if_pos hc] at e1
      rw [if_pos hc]
      cases e1
      simp only [fw_let]
      unfold F_FW_take_j31
      rw [if_neg (by decide)]
      exact ⟨_, p, rfl, v1⟩
    · rw [if_neg hc] at e1
      rw [if_neg hc, e1, Option.bind_some]
      unfold F_FW_take_j31
      rw [if_neg (by decide)]
      exact ⟨_, p, rfl, v1⟩
end XT
