/-! The class: setting, bind, fact, up. -/
section XB
variable {S0 S S' : fw_S} {x : Nat} {q p p' : Nat → Nat} {g : sG}
theorem RX.setA (h : RX S0 S x q p g) (v w : Int32) : ∃ S', F_FW_setting x v w S = some ((sSet g v w).1, S') ∧ RX S0 S' x q p (sSet g v w).2 := by
  obtain ⟨s0, s1, s2, s3, s4, s5⟩ := h.2.2.1
  unfold sSet
  have j57 : v ≠ 0 ∨ ¬ (1 ≤ w ∧ w ≤ 8) → v ≠ 1 ∨ ¬ (1 ≤ w ∧ w ≤ 100) → ∃ S', F_FW_setting_j57 x v w S = some ((if v = 2 ∧ 0 ≤ w ∧ w ≤ 5 then (gc g 2, pc g 2 w) else (-1, g)).1, S') ∧ RX S0 S' x q p (if v = 2 ∧ 0 ≤ w ∧ w ≤ 5 then (gc g 2, pc g 2 w) else (-1, g)).2 := by
    intro _ _
    unfold F_FW_setting_j57
    by_cases h2 : v = 2
    · rw [if_pos h2]
      by_cases w0 : w < 0
      · have hn : ¬ (v = 2 ∧ 0 ≤ w ∧ w ≤ 5) := fun z => absurd z.2.1 (Int32.not_le.mpr w0)
        rw [if_pos w0, if_neg hn]; exact ⟨S, rfl, h⟩
      · by_cases w5 : 5 < w
        · have hn : ¬ (v = 2 ∧ 0 ≤ w ∧ w ≤ 5) := fun z => absurd z.2.2 (Int32.not_le.mpr w5)
          rw [if_neg w0, if_pos w5, if_neg hn]; exact ⟨S, rfl, h⟩
        · rw [if_neg w0, if_neg w5, if_pos ⟨h2, Int32.not_lt.mp w0, Int32.not_lt.mp w5⟩]
          simp only [fw_let]
          rw [s2]
          exact ⟨_, rfl, h.num 2 (by decide) w⟩
    · have hn : ¬ (v = 2 ∧ 0 ≤ w ∧ w ≤ 5) := fun z => h2 z.1
      rw [if_neg h2, if_neg hn]; exact ⟨S, rfl, h⟩
  have j28 : v ≠ 0 ∨ ¬ (1 ≤ w ∧ w ≤ 8) → ∃ S', F_FW_setting_j28 x v w S = some ((if v = 1 ∧ 1 ≤ w ∧ w ≤ 100 then (gc g 1, pc g 1 w) else if v = 2 ∧ 0 ≤ w ∧ w ≤ 5 then (gc g 2, pc g 2 w) else (-1, g)).1, S') ∧ RX S0 S' x q p (if v = 1 ∧ 1 ≤ w ∧ w ≤ 100 then (gc g 1, pc g 1 w) else if v = 2 ∧ 0 ≤ w ∧ w ≤ 5 then (gc g 2, pc g 2 w) else (-1, g)).2 := by
    intro hq
    unfold F_FW_setting_j28
    by_cases h2 : v = 1
    · rw [if_pos h2]
      by_cases w0 : w < 1
      · have hn : ¬ (v = 1 ∧ 1 ≤ w ∧ w ≤ 100) := fun z => absurd z.2.1 (Int32.not_le.mpr w0)
        rw [if_pos w0, if_neg hn]; exact j57 hq (Or.inr (fun z => hn ⟨h2, z⟩))
      · by_cases w5 : 100 < w
        · have hn : ¬ (v = 1 ∧ 1 ≤ w ∧ w ≤ 100) := fun z => absurd z.2.2 (Int32.not_le.mpr w5)
          rw [if_neg w0, if_pos w5, if_neg hn]; exact j57 hq (Or.inr (fun z => hn ⟨h2, z⟩))
        · rw [if_neg w0, if_neg w5, if_pos ⟨h2, Int32.not_lt.mp w0, Int32.not_lt.mp w5⟩]
          simp only [fw_let]
          rw [s1]
          exact ⟨_, rfl, h.num 1 (by decide) w⟩
    · have hn : ¬ (v = 1 ∧ 1 ≤ w ∧ w ≤ 100) := fun z => h2 z.1
      rw [if_neg h2, if_neg hn]; exact j57 hq (Or.inl h2)
  unfold F_FW_setting
  by_cases h2 : v = 0
  · rw [if_pos h2]
    by_cases w0 : w < 1
    · have hn : ¬ (v = 0 ∧ 1 ≤ w ∧ w ≤ 8) := fun z => absurd z.2.1 (Int32.not_le.mpr w0)
      rw [if_pos w0, if_neg hn]; exact j28 (Or.inr (fun z => hn ⟨h2, z⟩))
    · by_cases w5 : 8 < w
      · have hn : ¬ (v = 0 ∧ 1 ≤ w ∧ w ≤ 8) := fun z => absurd z.2.2 (Int32.not_le.mpr w5)
        rw [if_neg w0, if_pos w5, if_neg hn]; exact j28 (Or.inr (fun z => hn ⟨h2, z⟩))
      · rw [if_neg w0, if_neg w5, if_pos ⟨h2, Int32.not_lt.mp w0, Int32.not_lt.mp w5⟩]
        simp only [fw_let]
        rw [s0]
        exact ⟨_, rfl, h.num 0 (by decide) w⟩
  · have hn : ¬ (v = 0 ∧ 1 ≤ w ∧ w ≤ 8) := fun z => h2 z.1
    rw [if_neg h2, if_neg hn]; exact j28 (Or.inl h2)
theorem isB (k : Int32) (S : fw_S) : F_FW_isByte k S = some (if k < 0 ∨ 255 < k then 0 else 1) := by
  unfold F_FW_isByte
  by_cases h0 : k < 0
  · rw [if_pos h0, if_pos (Or.inl h0)]
  · by_cases h1 : 255 < k
    · rw [if_neg h0, if_pos h1, if_pos (Or.inr h1)]
    · have hn : ¬ (k < 0 ∨ 255 < k) := fun z => z.elim h0 h1
      rw [if_neg h0, if_neg h1, if_neg hn]
theorem RX.nextB (h : RX S0 S x q p g) {l : sPs} (ho : ot (x + 3) 3 S S') (hP : PrX S' (x + 3) 20 l) : RX S0 S' x q p (pb g l) := by
  obtain ⟨h0, hsh, hsc, hln, hrs, hnx, ⟨hsv, hrp⟩, hes⟩ := h
  have hx := ho.1 x (by omega)
  refine ⟨h0.tr (ho.sam (by omega)), ?_, hsc.blk hx.1, fun j hj => (hln j hj).blk (ho.sam (by omega)), hrs.blk (by rw [hx.1]) (ho.1 (x + 2) (by omega)).2.1 (by rw [ho.2]; exact Nat.le_refl _) (fun r hr => ho.sam (by have := (hrs.2.2.1 r hr).2.1; omega)), hP, ⟨hsv.blk (ho.sam (by omega)), by rw [(ho.1 (x + 6) (by omega)).1]; exact hrp⟩, fun j hj => by rw [(ho.1 (x + 45) (by omega)).1, (ho.1 (x + 46) (by omega)).1]; exact hes j hj⟩
  obtain ⟨a, b, c, d, e, f, l1, l2, l3, l4, w⟩ := hsh
  have hx1 := ho.1 (x + 1) (by omega)
  exact ⟨by rw [hx.2.1]; exact a, by rw [hx.2.1]; exact b, by rw [hx.2.1]; exact c, by rw [hx.2.1]; exact d, by rw [hx.2.1]; exact e, by rw [hx.2.1]; exact f, by rw [hx1.2.2]; exact l1, by rw [(ho.1 (x + 2) (by omega)).2.2]; exact l2, by rw [(ho.1 (x + 45) (by omega)).2.2]; exact l3, by rw [(ho.1 (x + 46) (by omega)).2.2]; exact l4, fun i hi => by rw [hx1.2.1]; exact w i hi⟩
theorem RX.bindA (h : RX S0 S x q p g) (k t : Int32) : ∃ S', F_FW_bind x k t S = some ((sBind g k t).1, S') ∧ RX S0 S' x q p (sBind g k t).2 := by
  unfold F_FW_bind sBind
  rw [isB, Option.bind_some]
  by_cases hk : k < 0 ∨ 255 < k
  · rw [if_pos hk, if_pos hk, if_pos rfl]
    exact ⟨S, rfl, h⟩
  · rw [if_neg hk, if_neg hk, if_neg (by decide), h.2.1.2.2.1]
    simp only [fw_om]
    have hP := h.2.2.2.2.2.1
    have hl := hP.2.2.2.2.2.2.1
    by_cases hc : (gb g).length = 20
    · rw [if_pos hc, hP.full hc]
      simp only [fw_b2]
      exact ⟨S, rfl, h⟩
    · rw [if_neg hc]
      obtain ⟨S1, p1, q1, s1, g1⟩ := hP.add (by omega) k t
      rw [p1]
      simp only [fw_b2]
      rw [if_neg (by decide), sm_r s1, h.2.1.2.2.1]
      simp only
      refine ⟨S1, ?_, h.nextB (ot.of s1 g1) q1⟩
      rw [q1.2.2.2.2.2.1]
      simp
theorem RX.factB (h : RX S0 S x q p g) {l : sPs} (hs : sm S S') (hg : ∀ a, (a < x + 7 ∨ x + 7 + 3 ≤ a) → fw_g S' a = fw_g S a) (hP : PrX S' (x + 7) 60 l) : RX S0 S' x q p (pf g l) := by
  obtain ⟨h0, hsh, hsc, hln, hrs, hnx, ⟨hsv, hrp⟩, hes⟩ := h
  have ho : ot (x + 7) 3 S S' := ot.of hs hg
  have hx := ho.1 x (by omega)
  refine ⟨h0.tr (ho.sam (by omega)), hsh.blk hx.2.1 (ho.1 (x + 1) (by omega)).2.1 (fun a _ _ => sm_l hs a), hsc.blk hx.1, fun j hj => (hln j hj).blk (ho.sam (by omega)), hrs.blk (by rw [hx.1]) (ho.1 (x + 2) (by omega)).2.1 (by rw [ho.2]; exact Nat.le_refl _) (fun r hr => ho.sam (by have := (hrs.2.2.1 r hr).2.1; omega)), hnx.blk (ho.sam (by omega)), ⟨?_, by rw [(ho.1 (x + 6) (by omega)).1]; exact hrp⟩, fun j hj => by rw [(ho.1 (x + 45) (by omega)).1, (ho.1 (x + 46) (by omega)).1]; exact hes j hj⟩
  obtain ⟨⟨r0, r1, r4, l4⟩, hf, hp, hj, hme, hn, hl, hms, k, n, bs, hF⟩ := hsv
  refine ⟨⟨by rw [sm_r hs]; exact r0, by rw [sm_r hs]; exact r1, by rw [sm_r hs]; exact r4, by rw [sm_l hs]; exact l4⟩, hP, fun j hj8 => by rw [sm_r hs]; exact hp j hj8, hj, fun j hj8 => ?_, by rw [hg _ (by omega)]; exact hn, hl, fun j m hjm => ?_, k, n, bs, hF.blk (ho.sam (by omega))⟩
  · obtain ⟨m, hm⟩ := hme j hj8
    exact ⟨m, hm.blk (ho.sam (by omega))⟩
  · exact (hms j m hjm).blk (ho.sam (by omega))
theorem RX.factA (h : RX S0 S x q p g) (k t : Int32) : ∃ S', F_FW_fact x k t S = some ((sFact g k t).1, S') ∧ RX S0 S' x q p (sFact g k t).2 := by
  unfold F_FW_fact sFact
  rw [isB, isB, Option.bind_some, Option.bind_some]
  by_cases hk : k < 0 ∨ 255 < k
  · rw [if_pos hk, if_pos hk, if_pos rfl]
    exact ⟨S, rfl, h⟩
  · rw [if_neg hk, if_neg hk, if_neg (by decide)]
    by_cases ht : t < 0 ∨ 255 < t
    · rw [if_pos ht, if_pos ht, if_pos rfl]
      exact ⟨S, rfl, h⟩
    · rw [if_neg ht, if_neg ht, if_neg (by decide), h.2.1.2.2.2.1]
      simp only [fw_om]
      have hsv := h.2.2.2.2.2.2.1.1
      have hP := hsv.2.1
      have hl := hP.2.2.2.2.2.2.1
      rw [hsv.1.1]
      simp only
      by_cases hc : (gf g).length = 60
      · rw [if_pos hc, hP.full hc]
        simp only [fw_b2]
        exact ⟨S, rfl, h⟩
      · rw [if_neg hc]
        obtain ⟨S1, p1, q1, s1, g1⟩ := hP.add (by omega) k t
        rw [p1]
        simp only [fw_b2]
        rw [if_neg (by decide), sm_r s1, h.2.1.2.2.2.1]
        simp only
        rw [sm_r s1, hsv.1.1]
        simp only
        refine ⟨S1, ?_, h.factB s1 g1 q1⟩
        rw [q1.2.2.2.2.2.1]
        simp
noncomputable def sUpL (i : Nat) : Nat → Nat → Int32 → sG → Int32 × sG
  | 0, _, w, g => (w, g)
  | k + 1, r, w, g => if (gq g r).1 0 = nI i ∧ (gq g r).1 14 = 0 then sUpL i k (r + 1) (if (sSendReq g r 0).1 = 0 then w else w + 1) (sSendReq g r 0).2 else sUpL i k (r + 1) w g
noncomputable def sUp (g : sG) (v : Int32) : Int32 × sG := if v < 0 ∨ nI 4 ≤ v then (-1, g) else if (gl g (hN v)).1 = 0 then sUpL (hN v) (gn g) 0 0 (pl g (hN v) (1, (gl g (hN v)).2.1, (gl g (hN v)).2.2)) else (-2, g)
theorem gn_send (g : sG) (i : Nat) (k n : Int32) (bs : List Int32) : gn (sSendTo g i k n bs).2 = gn g := by unfold sSendTo; split <;> rfl
theorem gq_send (g : sG) (i : Nat) (k n : Int32) (bs : List Int32) : gq (sSendTo g i k n bs).2 = gq g := by unfold sSendTo; split <;> rfl
theorem gc_send (g : sG) (i : Nat) (k n : Int32) (bs : List Int32) (j : Nat) (hj : j ≠ 5) : gc (sSendTo g i k n bs).2 j = gc g j := by
  unfold sSendTo
  split
  · exact va_up_ne _ _ hj
  · rfl
theorem gn_sreq (g : sG) (r : Nat) (v : Int32) : gn (sSendReq g r v).2 = gn g := by unfold sSendReq; rw [gn_send]; rfl
theorem gq_sreq (g : sG) (r : Nat) (v : Int32) (s : Nat) : gq (sSendReq g r v).2 s = if s = r then (va_up (va_up (gq g r).1 12 (gc g 3)) 13 v, (gq g r).2) else gq g s := by
  unfold sSendReq
  rw [gq_send]
  show va_up (gq g) r _ s = _
  by_cases h : s = r
  · subst h; rw [va_up_self, if_pos rfl]
  · rw [va_up_ne _ _ h, if_neg h]
theorem gc_sreq (g : sG) (r : Nat) (v : Int32) (j : Nat) (hj : j ≠ 5) : gc (sSendReq g r v).2 j = gc g j := by unfold sSendReq; rw [gc_send _ _ _ _ _ _ hj]; rfl
theorem okR.sent {r : Nat} {d : sR} (h : okR r d) (a b : Int32) : okR r (va_up (va_up d.1 12 a) 13 b, d.2) := by
  have e : ∀ k, k ≠ 12 → k ≠ 13 → va_up (va_up d.1 12 a) 13 b k = d.1 k := fun k h1 h2 => by rw [va_up_ne _ _ h2, va_up_ne _ _ h1]
  unfold okR at *
  simp only
  rw [e 0 (by decide) (by decide), e 1 (by decide) (by decide), e 2 (by decide) (by decide), e 6 (by decide) (by decide), e 14 (by decide) (by decide), e 15 (by decide) (by decide), e 20 (by decide) (by decide), e 21 (by decide) (by decide)]
  exact h
theorem okRs_sreq {g : sG} (h : ∀ r, r < gn g → okR r (gq g r)) {r : Nat} (hr : r < gn g) (v : Int32) : ∀ s, s < gn (sSendReq g r v).2 → okR s (gq (sSendReq g r v).2 s) := by
  intro s hs
  rw [gn_sreq] at hs
  rw [gq_sreq]
  by_cases hc : s = r
  · subst hc; rw [if_pos rfl]; exact (h s hs).sent _ _
  · rw [if_neg hc]; exact h s hs
theorem RX.upL {i : Nat} (hi : i < 4) : ∀ (k n r : Nat) (w : Int32) (S : fw_S) (g : sG), RX S0 S x q p g → (∀ r, r < gn g → okR r (gq g r)) → r + k = gn g → k < n → ∃ S', F_FW_up_l32 n x (nI i) (x + 47 + 4 * i) w (nI r) S = some ((sUpL i k r w g).1, S') ∧ RX S0 S' x q p (sUpL i k r w g).2 := by
  intro k
  induction k with
  | zero =>
    intro n r w S g h hok hrk hkn
    obtain ⟨n, rfl⟩ : ∃ m, n = m + 1 := ⟨n - 1, by omega⟩
    have h24 := h.2.2.2.2.1.2.1
    rw [F_FW_up_l32, h.2.2.2.2.1.1, if_pos (nI_le (by omega) (by omega))]
    exact ⟨S, rfl, h⟩
  | succ k ih =>
    intro n r w S g h hok hrk hkn
    obtain ⟨n, rfl⟩ : ∃ m, n = m + 1 := ⟨n - 1, by omega⟩
    have h24 := h.2.2.2.2.1.2.1
    have hr : r < gn g := by omega
    obtain ⟨c1, c2, c3, c4⟩ := h.2.2.2.2.1.2.2.1 r hr
    rw [F_FW_up_l32, h.2.2.2.2.1.1, if_neg (nI_ge hr (by omega)), h.reqAt hr, Option.bind_some]
    simp only [fw_om]
    rw [c4.2.1 0 (by decide), c4.2.1 14 (by decide), nI_1]
    unfold sUpL
    by_cases hc : (gq g r).1 0 = nI i ∧ (gq g r).1 14 = 0
    · rw [if_pos hc, if_pos hc.1, if_pos hc.2]
      obtain ⟨S1, e1, v1, -⟩ := h.sendF hr (i := i) (by omega) hc.1 ((hok r hr).2.2.2.2.2.2.2.2.1 hc.2).1
      rw [e1]
      simp only [fw_b2]
      by_cases hz : (sSendReq g r 0).1 = 0
      · rw [if_pos hz, if_pos hz]
        exact ih n (r + 1) w S1 _ v1 (okRs_sreq hok hr 0) (by rw [gn_sreq]; omega) (by omega)
      · rw [if_neg hz, if_neg hz]
        exact ih n (r + 1) (w + 1) S1 _ v1 (okRs_sreq hok hr 0) (by rw [gn_sreq]; omega) (by omega)
    · rw [if_neg hc]
      obtain ⟨S1, e1, v1⟩ := ih n (r + 1) w S g h hok (by omega) (by omega)
      by_cases hc0 : (gq g r).1 0 = nI i
      · rw [if_pos hc0, if_neg (fun z => hc ⟨hc0, z⟩)]
        exact ⟨S1, e1, v1⟩
      · rw [if_neg hc0]
        exact ⟨S1, e1, v1⟩
theorem RX.upA (h : RX S0 S x q p g) (hok : okG g) (v : Int32) : ∃ S', F_FW_up x v S = some ((sUp g v).1, S') ∧ RX S0 S' x q p (sUp g v).2 := by
  unfold F_FW_up sUp
  by_cases hv : v < 0 ∨ nI 4 ≤ v
  · rw [if_pos hv, h.houseNo hv]
    exact ⟨S, rfl, h⟩
  · obtain ⟨i, hi, rfl, hh⟩ := rng (by decide) hv
    obtain ⟨hup, hQ, hO⟩ := h.2.2.2.1 i (by omega)
    rw [if_neg hv, h.house hi, Option.bind_some, hh]
    simp only [fw_om]
    rw [hup]
    by_cases hz : (gl g i).1 = 0
    · rw [if_pos hz, if_pos hz]
      simp only [fw_let]
      have h1 : RX S0 (fw_wi S (x + 47 + 4 * i) 0 1) x q p (pl g i (1, (gl g i).2.1, (gl g i).2.2)) := h.line (by omega) (ot.of sm_wi (fun a ha => fw_g_wi_ne (by omega))) ⟨g_s, hQ.keep sm_wi (g_k (by decide)) (g_k (by decide)) (fw_g_wi_ne (by omega)), hO.keep sm_wi (g_k (by decide)) (g_k (by decide)) (fw_g_wi_ne (by omega)) (fw_g_wi_ne (by omega))⟩
      have h24 := h.2.2.2.2.1.2.1
      have hu := RX.upL hi (gn g) 4096 0 (nI 0) _ _ h1 hok.2.2.2.2.2.1 (by show 0 + gn g = gn g; omega) (by omega)
      rw [show (0 : Int32) = nI 0 from rfl]
      exact hu
    · rw [if_neg hz, if_neg hz]
      exact ⟨S, rfl, h⟩
end XB
