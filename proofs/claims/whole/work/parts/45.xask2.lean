/-! The class: ask. -/
def sPush (g : sG) (d : sR) : sG := (g.1, g.2.1, (gn g + 1, va_up (gq g) (gn g) d), [], g.2.2.2.2)
def sNewD (g : sG) (v s : Int32) : sR := (sF0 v s (gc g 0), gb g, sKeys (gb g), [], [])
def sAsk (g : sG) (v s : Int32) : Int32 × sG :=
  if v < 0 ∨ nI 4 ≤ v then (-1, g) else if gn g = 24 then (-3, g)
  else if sKeys (gb g) = [] then (nI (gn g), sPush g (va_up (sNewD g v s).1 14 1, (sNewD g v s).2))
  else (nI (gn g), (sSendReq (sPush g (sAskD (sNewD g v s) (gn g))) (gn g) 0).2)
theorem pq_push (g : sG) (d d' : sR) : pq (sPush g d) (gn g) d' = sPush g d' := by
  unfold pq sPush
  simp only [bx_uu]
theorem gq_push (g : sG) (d : sR) : gq (sPush g d) (gn g) = d := va_up_self _ _ _
theorem gn_push (g : sG) (d : sR) : gn (sPush g d) = gn g + 1 := rfl
section AS
variable {S0 S S' : fw_S} {x : Nat} {q p p' : Nat → Nat} {g : sG} {B : Nat}
theorem RX.push (h : RX S0 S x q p g) (hn : gn g < 24) {S10 : fw_S} (hs : sam S S10 0 (fw_z S)) (hz : fw_z S10 = fw_z S + 10) {d : sR} (hd : RqX S10 (fw_z S) (gn g) d.1 d.2.1 d.2.2.1 d.2.2.2.1 d.2.2.2.2) :
    RX S0 (fw_wi (fw_wr (fw_wi S10 (x + 3) 2 0) (x + 2) (gn g) (some (fw_z S))) x 2 (nI (gn g + 1))) x (fun r => if r = gn g then fw_z S else q r) p (sPush g d) := by
  obtain ⟨h0, hsh, ⟨c0, c1, c2, c3, c4, c5⟩, hln, ⟨rn, r24, rq, rd, rz⟩, hnx, ⟨hsv, hrp⟩, hes⟩ := h
  have sS : ∀ lo n, x + 3 < lo → lo + n ≤ fw_z S → sam S (fw_wi (fw_wr (fw_wi S10 (x + 3) 2 0) (x + 2) (gn g) (some (fw_z S))) x 2 (nI (gn g + 1))) lo n := fun lo n h1 h2 => (hs.sub (by omega) (by omega)).tr ((sam_wi (by omega)).tr ((sam_wr (by omega)).tr (sam_wi (by omega))))
  have hx := hs x (by omega) (by omega)
  have hx1 := hs (x + 1) (by omega) (by omega)
  have hx2 := hs (x + 2) (by omega) (by omega)
  have gx : ∀ k, k ≠ 2 → fw_g (fw_wi (fw_wr (fw_wi S10 (x + 3) 2 0) (x + 2) (gn g) (some (fw_z S))) x 2 (nI (gn g + 1))) x k = fw_g S x k := fun k hk => by
    rw [g_k hk, fw_g_wr, g_a (by omega), hx.1]
  refine ⟨h0.tr (sS _ _ (by omega) (by omega)), ?_, ⟨by rw [gx 7 (by decide)]; exact c0, by rw [gx 8 (by decide)]; exact c1, by rw [gx 9 (by decide)]; exact c2, by rw [gx 10 (by decide)]; exact c3, by rw [gx 11 (by decide)]; exact c4, by rw [gx 12 (by decide)]; exact c5⟩, fun j hj => (hln j hj).blk (sS _ _ (by omega) (by omega)), ⟨?_, by rw [gn_push]; omega, fun r hr => ?_, fun r s hr hs' hrs => ?_, ?_⟩, ?_, ⟨hsv.blk (sS _ _ (by omega) (by omega)), ?_⟩, fun j hj => ?_⟩
  · refine hsh.blk ?_ ?_ (fun a h1 h2 => (hs a (by omega) (by omega)).2.2)
    · show fw_r (fw_wr (fw_wi S10 (x + 3) 2 0) (x + 2) (gn g) (some (fw_z S))) x = _
      rw [fw_r_wr_ne (by omega)]; exact hx.2.1
    · show fw_r (fw_wr (fw_wi S10 (x + 3) 2 0) (x + 2) (gn g) (some (fw_z S))) (x + 1) = _
      rw [fw_r_wr_ne (by omega)]; exact hx1.2.1
  · rw [g_s, gn_push]
  · show fw_r (fw_wr (fw_wi S10 (x + 3) 2 0) (x + 2) (gn g) (some (fw_z S))) (x + 2) r = _ ∧ _
    show _ ∧ _ ∧ _ ∧ RqX _ _ r (va_up (gq g) (gn g) d r).1 (va_up (gq g) (gn g) d r).2.1 (va_up (gq g) (gn g) d r).2.2.1 (va_up (gq g) (gn g) d r).2.2.2.1 (va_up (gq g) (gn g) d r).2.2.2.2
    by_cases hc : r = gn g
    · subst hc
      simp only [if_true]
      rw [va_up_self]
      refine ⟨r_s, rz, by show _ ≤ fw_z S10; omega, hd.blk ?_⟩
      exact (sam_wi (by omega)).tr ((sam_wr (by omega)).tr (sam_wi (by omega)))
    · have hr' : r < gn g := by rw [gn_push] at hr; omega
      obtain ⟨d1, d2, d3, d4⟩ := rq r hr'
      simp only [if_neg hc]
      rw [va_up_ne _ _ hc]
      refine ⟨?_, d2, by show _ ≤ fw_z S10; omega, d4.blk (sS _ _ (by omega) (by omega))⟩
      rw [r_k hc]
      show fw_r S10 (x + 2) r = _
      rw [hx2.2.1]; exact d1
  · rw [gn_push] at hr hs'
    show (if r = gn g then fw_z S else q r) + 10 ≤ (if s = gn g then fw_z S else q s) ∨ (if s = gn g then fw_z S else q s) + 10 ≤ (if r = gn g then fw_z S else q r)
    by_cases hc : r = gn g
    · rw [if_pos hc, if_neg (by omega)]
      exact Or.inr (rq s (by omega)).2.2.1
    · by_cases hc' : s = gn g
      · rw [if_neg hc, if_pos hc']
        exact Or.inl (rq r (by omega)).2.2.1
      · rw [if_neg hc, if_neg hc']
        exact rd r s (by omega) (by omega) hrs
  · show x + 107 ≤ fw_z S10
    omega
  · have hP : PrX S10 (x + 3) 20 (gb g) := hnx.blk (hs.sub (by omega) (by omega))
    have := hP.clear.2
    exact (this.blk (sam_wr (by omega))).blk (sam_wi (by omega))
  · rw [g_a (by omega), fw_g_wr, g_a (by omega), (hs (x + 6) (by omega) (by omega)).1]; exact hrp
  · rw [g_a (by omega), fw_g_wr, g_a (by omega), (hs (x + 45) (by omega) (by omega)).1, g_a (by omega), fw_g_wr, g_a (by omega), (hs (x + 46) (by omega) (by omega)).1]; exact hes j hj
theorem RX.askA (h : RX S0 S x q p g) (hok : okG g) (v s : Int32) (hs : s = 0 ∨ s = 1) : ∃ S' q', F_FW_ask x v s S = some ((sAsk g v s).1, S') ∧ RX S0 S' x q' p (sAsk g v s).2 := by
  obtain ⟨⟨bu, hb1, hb8, hbe⟩, -, -, -, -, -, ⟨hgb20, hgb8⟩, -⟩ := id hok
  unfold F_FW_ask sAsk
  by_cases hv : v < 0 ∨ nI 4 ≤ v
  · rw [if_pos hv, h.houseNo hv]
    exact ⟨S, q, rfl, h⟩
  · obtain ⟨i, hi, rfl, hh⟩ := rng (by decide) hv
    rw [if_neg hv, h.house hi, Option.bind_some]
    obtain ⟨a, b, c, d, e, f, l1, l2, l3, l4, w⟩ := h.2.1
    obtain ⟨rn, r24, rq, rd, rz⟩ := h.2.2.2.2.1
    simp only [fw_om, fw_let]
    have e0 : ¬ nI (gn g) < 0 := nI_pos (by omega)
    rw [rn, if_neg e0, b]
    simp only
    rw [l2]
    by_cases hn : gn g = 24
    · rw [if_pos hn, if_neg (nI_nlt (by omega) (by omega))]
      exact ⟨S, q, rfl, h⟩
    · have hn' : gn g < 24 := by omega
      rw [if_neg hn, if_pos (nI_lt hn' (by omega))]
      have hx3 : fw_r (fw_nw S 0) x 3 = some (x + 3) := by rw [r_n rfl (by omega)]; exact c
      have hg7 : fw_g (fw_nw S 0) x 7 = gc g 0 := by rw [g_n rfl (by omega)]; exact h.2.2.1.1
      rw [hx3]
      simp only
      rw [hg7]
      have hP : PrX (fw_nw S 0) (x + 3) 20 (gb g) := h.2.2.2.2.2.1.blk (sam_nw (by omega))
      obtain ⟨S10, e10, r10, z10, s10⟩ := Req_new (S := fw_nw S 0) (q := fw_z S) (b := x + 3) (r := gn g) (v := nI i) (s := s) (bulk := gc g 0) (by rw [fw_z_nw]) hgb20 (by omega) hP hs
      have sam10 : sam S S10 0 (fw_z S) := (sam_nw (by omega)).tr s10
      rw [e10, Option.bind_some, (sam10 x (by omega) (by omega)).2.1, c]
      simp only
      have hcl : F_Pairs_clear (x + 3) S10 = some (fw_wi S10 (x + 3) 2 0) := rfl
      rw [hcl, Option.bind_some]
      have hb13 : fw_r (fw_wi S10 (x + 3) 2 0) x 1 = some (x + 2) := by
        show fw_r S10 x 1 = _
        rw [(sam10 x (by omega) (by omega)).2.1]; exact b
      have hl13 : fw_l (fw_wi S10 (x + 3) 2 0) (x + 2) = 24 := by
        show fw_l S10 (x + 2) = _
        rw [(sam10 (x + 2) (by omega) (by omega)).2.2]; exact l2
      have e1 : (nI (gn g)).toNatClampNeg = gn g := nI_clamp (by omega)
      have e2 : ¬ (nI (gn g) < 0 ∨ 24 ≤ gn g) := fun z => z.elim e0 (fun z => by omega)
      rw [hb13]
      simp only
      rw [hl13, e1, if_neg e2]
      have hg2 : fw_g (fw_wr (fw_wi S10 (x + 3) 2 0) (x + 2) (gn g) (some (fw_z S))) x 2 = nI (gn g) := by
        rw [fw_g_wr, g_a (by omega), (sam10 x (by omega) (by omega)).1]; exact rn
      rw [hg2, nI_1]
      have hR := h.push hn' sam10 z10 (d := sNewD g (nI i) s) r10
      have c4 := (hR.2.2.2.2.1.2.2.1 (gn g) (by rw [gn_push]; omega)).2.2.2
      rw [gq_push] at c4
      simp only [if_true] at c4
      have f6 : (sNewD g (nI i) s).1 6 = nI 0 := rfl
      have f2 : (sNewD g (nI i) s).1 2 = nI bu := hbe
      have hKl : (sNewD g (nI i) s).2.2.1 = sKeys (gb g) := rfl
      rw [c4.left f6 (Nat.zero_le _), Option.bind_some, hKl]
      by_cases hk : sKeys (gb g) = []
      · rw [if_pos hk, hk]
        simp only [List.length_nil, Nat.lt_irrefl, if_false, if_true]
        have hc := c4.sc 14 1 (by decide) (by decide) (by decide) (by decide)
        have := hR.req (r := gn g) (by rw [gn_push]; omega) (d := (va_up (sNewD g (nI i) s).1 14 1, (sNewD g (nI i) s).2)) (S' := fw_wi (fw_wi (fw_wr (fw_wi S10 (x + 3) 2 0) (x + 2) (gn g) (some (fw_z S))) x 2 (nI (gn g + 1))) (fw_z S) 14 1) (ot.of sm_wi (fun a ha => fw_g_wi_ne (by simp only [if_true] at ha; omega))) (by simp only [if_true]; exact hc)
        rw [pq_push] at this
        exact ⟨_, _, rfl, this⟩
      · rw [if_neg hk]
        have hlen : 0 < (sKeys (gb g)).length := List.length_pos_iff.mpr hk
        rw [if_pos hlen, if_neg (by decide)]
        obtain ⟨S2, p2, q2, s2, g2⟩ := c4.ask (sKeys_b8 hgb8) f6 f2 (Nat.zero_le _) hb8
        have hha : hN ((sNewD g (nI i) s).1 6) = 0 := rfl
        have hhb : hN ((sNewD g (nI i) s).1 2) = bu := by rw [f2]; exact nI_clamp (by omega)
        have h2 := hR.req (r := gn g) (by rw [gn_push]; omega) (d := sAskD (sNewD g (nI i) s) (gn g)) (S' := S2) (ot.of s2 (fun a ha => by simp only [if_true] at ha; exact g2 a (by omega) (by omega) (by omega))) (by
          simp only [if_true]
          unfold sAskD
          rw [hha, hhb]
          exact q2)
        rw [pq_push] at h2
        obtain ⟨S3, p3, q3, -⟩ := h2.sendF (r := gn g) (by rw [gn_push]; omega) (i := i) (by omega) (by rw [gq_push, sAskD_o (by decide) (by decide) (by decide) (by decide) (by decide)]; rfl) (by
          rw [gq_push, sAskD_1, va_up_ne _ _ (by decide), va_up_ne _ _ (by decide), sNext_21])
        simp only [if_true] at p3
        rw [p2, Option.bind_some, p3]
        simp only [fw_b2]
        exact ⟨S3, _, rfl, q3⟩
theorem okG.push (h : okG g) (hn : gn g < 24) {d : sR} (hd : okR (gn g) d) : okG (sPush g d) := by
  obtain ⟨a, b, c, e, f, i, j, k⟩ := h
  refine ⟨a, b, c, e, by rw [gn_push]; omega, fun s hs => ?_, ⟨by show (0 : Nat) ≤ 20; omega, fun y hy => by cases hy⟩, k⟩
  show okR s (va_up (gq g) (gn g) d s)
  rw [gn_push] at hs
  by_cases hc : s = gn g
  · subst hc; rw [va_up_self]; exact hd
  · rw [va_up_ne _ _ hc]; exact i s (by omega)
theorem okT.push (h : okT g B) {d : sR} (hd : d.1 14 = 0 → d.1 12 = nI 0) : okT (sPush g d) B := by
  obtain ⟨c, hc, hg, hq⟩ := h
  refine ⟨c, hc, hg, fun s hs hz => ?_⟩
  have hz' : (va_up (gq g) (gn g) d s).1 14 = 0 := hz
  show ∃ t, t ≤ c ∧ (va_up (gq g) (gn g) d s).1 12 = nI t
  rw [gn_push] at hs
  by_cases hsr : s = gn g
  · subst hsr
    rw [va_up_self] at hz' ⊢
    exact ⟨0, Nat.zero_le _, hd hz'⟩
  · rw [va_up_ne _ _ hsr] at hz' ⊢
    exact hq s (by omega) hz'
theorem sNext_up (f : Nat → Int32) (a b k : Int32) (r : Nat) : sNext (va_up (va_up f 20 a) 21 b) k r = sNext f k r := by
  funext j
  unfold sNext sStep
  by_cases h1 : j = 21
  · subst h1; rw [va_up_self, va_up_self]
  · by_cases h2 : j = 20
    · subst h2
      rw [va_up_ne _ _ (by decide), va_up_self, va_up_ne _ _ (by decide), va_up_self]
    · rw [va_up_ne _ _ h1, va_up_ne _ _ h2, va_up_ne _ _ h1, va_up_ne _ _ h2]
      by_cases h3 : j = 11
      · subst h3
        rw [va_up_self, va_up_self, va_up_ne _ _ (by decide), va_up_ne _ _ (by decide)]
      · rw [va_up_ne _ _ h3, va_up_ne _ _ h3, va_up_ne _ _ h1, va_up_ne _ _ h2]
theorem ok_ask (h : okG g) (ht : okT g B) (v s : Int32) (hs : s = 0 ∨ s = 1) : okG (sAsk g v s).2 ∧ okT (sAsk g v s).2 B := by
  unfold sAsk
  by_cases hv : v < 0 ∨ nI 4 ≤ v
  · rw [if_pos hv]; exact ⟨h, ht⟩
  · obtain ⟨i, hi, rfl, hh⟩ := rng (by decide) hv
    rw [if_neg hv]
    by_cases hn : gn g = 24
    · rw [if_pos hn]; exact ⟨h, ht⟩
    · rw [if_neg hn]
      obtain ⟨⟨bu, hb1, hb8, hbe⟩, -, -, -, hn24, -, ⟨hgb20, hgb8⟩, -⟩ := id h
      have hkl : (sKeys (gb g)).length ≤ (gb g).length := by
        have := sKeys_le (gb g) (gb g).length
        rw [List.take_length] at this
        exact this
      by_cases hk : sKeys (gb g) = []
      · rw [if_pos hk]
        refine ⟨h.push (by omega) ?_, ht.push (fun z => ?_)⟩
        · refine ⟨⟨i, hi, rfl⟩, hs, ⟨bu, hb1, hb8, hbe⟩, ⟨0, Nat.zero_le _, rfl⟩, fun x hx => sKeys_b8 hgb8 x hx, hkl, hgb20, by show (0 : Nat) ≤ 60; omega, fun z => absurd z (by show ¬ ((1 : Int32) = 0); decide), Or.inr (Or.inl rfl), ⟨Or.inl rfl, fun _ => rfl, fun _ _ => rfl⟩, by omega⟩
        · exact absurd z (by show ¬ ((1 : Int32) = 0); decide)
      · rw [if_neg hk]
        have hlen : 0 < (sKeys (gb g)).length := List.length_pos_iff.mpr hk
        have hd : okR (gn g) (sAskD (sNewD g (nI i) s) (gn g)) := by
          have h1 : okR (gn g) (va_up (va_up (sNewD g (nI i) s).1 20 1) 21 (nI (gn g)), (sNewD g (nI i) s).2) := by
            refine ⟨⟨i, hi, rfl⟩, hs, ⟨bu, hb1, hb8, hbe⟩, ⟨0, Nat.zero_le _, rfl⟩, fun x hx => sKeys_b8 hgb8 x hx, hkl, hgb20, by show (0 : Nat) ≤ 60; omega, fun z => ⟨rfl, hlen, Or.inl rfl, (fun b hb => by cases hb), by show (0 : Nat) ≤ 18; omega⟩, Or.inl rfl, ⟨Or.inl rfl, fun _ => rfl, fun _ _ => rfl⟩, by omega⟩
          have h2 := h1.ask
          have e : sAskD (va_up (va_up (sNewD g (nI i) s).1 20 1) 21 (nI (gn g)), (sNewD g (nI i) s).2) (gn g) = sAskD (sNewD g (nI i) s) (gn g) := by
            unfold sAskD sAskF sAskE sStep
            simp only [sNext_up, va_up_ne _ _ (show (6 : Nat) ≠ 21 by decide), va_up_ne _ _ (show (6 : Nat) ≠ 20 by decide), va_up_ne _ _ (show (2 : Nat) ≠ 21 by decide), va_up_ne _ _ (show (2 : Nat) ≠ 20 by decide), va_up_ne _ _ (show (11 : Nat) ≠ 21 by decide), va_up_ne _ _ (show (11 : Nat) ≠ 20 by decide)]
          rw [e] at h2
          exact h2
        have w : (sAskD (sNewD g (nI i) s) (gn g)).1 14 = 0 := by rw [sAskD_o (by decide) (by decide) (by decide) (by decide) (by decide)]; rfl
        have t12 : (sAskD (sNewD g (nI i) s) (gn g)).1 12 = nI 0 := by rw [sAskD_o (by decide) (by decide) (by decide) (by decide) (by decide)]; rfl
        have o1 := h.push (by omega) hd
        exact ⟨o1.sreq (by rw [gn_push]; omega) (by rw [gq_push]; exact w) 0, (ht.push (fun _ => t12)).sreq (by rw [gn_push]; omega) 0⟩
end AS
