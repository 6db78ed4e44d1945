/-! What always holds: calls. -/
section OK3
variable {g : sG} {B r : Nat} {d : sR}
theorem okO_nil : okO [] := ⟨fun b h => by simp at h, fun h => by simp at h, fun h => by simp at h⟩
theorem sAskHit_mem {ms : List sM} {num step : Int32} {m : sM} (h : sAskHit ms num step = some m) : m ∈ ms := by
  unfold sAskHit at h
  cases hp : sPlace ms num with
  | none => rw [hp] at h; cases h
  | some i =>
    rw [hp] at h
    simp only at h
    obtain ⟨m', h1, h2⟩ := Option.bind_eq_some_iff.mp h
    by_cases hc : m'.2.1 = step
    · rw [if_pos hc] at h2; cases h2; exact List.mem_of_getElem? h1
    · rw [if_neg hc] at h2; cases h2
theorem ok_serve (h : okG g) (ht : okT g B) {kind num : Int32} {bs : List Int32} (hn : b8 num) (hb : ∀ k, b8 (bs.getD k 0)) : okG (sServe g kind num bs).2 ∧ okT (sServe g kind num bs).2 B := by
  have hM : okM (gm g) := h.2.2.2.2.2.2.2.2
  have hF := h.2.2.2.2.2.2.2.1
  unfold sServe
  by_cases k1 : kind = 1
  · rw [if_pos k1]
    have hR : okPs (sAskRows (gf g) (gm g) num bs) := by
      unfold sAskRows
      cases hc : sAskHit (gm g) num (bs.getD 0 0) with
      | some m => exact (hM.2.1 m (sAskHit_mem hc)).1
      | none => exact hF.2.find _ (fun _ q => by simp at q)
    obtain ⟨r1, r2⟩ := sRowsB_ok hR (hb 0) 0
    exact ⟨((h.pm (hM.ask hF.2 hn bs)).pc (by decide) (by decide)).send (by decide) (b8_nI (n := 2) (by decide)) hn r1 r2, (okT.pc (g := pm g (sAskMs (gf g) (gm g) num bs)) ht (by decide)).send⟩
  · rw [if_neg k1]
    by_cases k3 : kind = 3
    · rw [if_pos k3]
      have hX : (∀ b ∈ sMoreB (gm g) num bs, b8 b) ∧ (sMoreB (gm g) num bs).length ≤ 18 ∧ b8 (sMoreK (gm g) num bs) := by
        unfold sMoreB sMoreK
        cases hc : sMoreHit (gm g) num (bs.getD 0 0) (bs.getD 1 0) with
        | none =>
          refine ⟨fun b q => ?_, by simp, b8_nI (n := 4) (by decide)⟩
          rw [List.mem_singleton.mp q]; exact hb 0
        | some i =>
          have hR : okPs ((gm g).getD i (0, 0, 0, [])).2.2.2 := by
            rw [List.getD_eq_getElem?_getD]
            cases hi : (gm g)[i]? with
            | none => exact fun x q => by simp at q
            | some m => exact (hM.2.1 m (List.mem_of_getElem? hi)).1
          obtain ⟨r1, r2⟩ := sRowsB_ok hR (hb 0) (bs.getD 1 0).toNatClampNeg
          exact ⟨r1, r2, b8_nI (n := 2) (by decide)⟩
      exact ⟨(h.pm (hM.more num bs)).send (by decide) hX.2.2 hn hX.1 hX.2.1, okT.send (g := pm g (sMoreMs (gm g) num bs)) ht⟩
    · rw [if_neg k3]; exact ⟨h, ht⟩
theorem ok_wrong (h : okG g) {i : Nat} (hi : i < 5) : okG (sWrong g i) := by
  unfold sWrong
  obtain ⟨o1, o2, o3, o4⟩ := h.2.2.1 i hi
  by_cases hc : i = 4
  · rw [if_pos hc]
    exact h.pl ⟨o1, o2, o3, okO_nil⟩ (fun _ => by rw [hc]; exact h.2.2.2.1)
  · rw [if_neg hc]
    exact h.pl ⟨Or.inl rfl, fun b q => by simp at q, by simp, okO_nil⟩ (fun q => absurd q hc)
theorem ok_drop {k : Int32} {u : Int32 × sG} (h : okG u.2 ∧ okT u.2 B) : okG (sDrop k u).2 ∧ okT (sDrop k u).2 B := by
  unfold sDrop
  split
  · exact ⟨h.1.pc (by decide) (by decide), h.2.pc (by decide)⟩
  · exact h
theorem okT_pl (h : okT g B) (i : Nat) (l : sL) : okT (pl g i l) B := h
theorem ok_wrongT (h : okT g B) (i : Nat) : okT (sWrong g i) B := by
  unfold sWrong
  split
  · exact h
  · exact h
theorem ok_come (h : okG g) (ht : okT g B) {i : Nat} (hi : i < 5) {b : Int32} (hb : b8 b) : okG (sCome g i b).2 ∧ okT (sCome g i b).2 B := by
  obtain ⟨o1, o2, o3, o4⟩ := h.2.2.1 i hi
  have h1 : okG (pl g i ((gl g i).1, (gl g i).2.1, [])) := h.pl ⟨o1, o2, o3, okO_nil⟩ (fun q => by subst q; exact h.2.2.2.1)
  have t1 : okT (pl g i ((gl g i).1, (gl g i).2.1, [])) B := ht
  unfold sCome
  by_cases hf : sFit (gl g i).2.2 b = true
  · rw [if_pos hf]
    by_cases hd : sDone (gl g i).2.2
    · rw [if_pos hd]
      by_cases h4 : i = 4
      · rw [if_pos h4]
        exact ok_drop (ok_serve h1 t1 (b8_getD o4.1 2) (b8_getD (fun b hb => o4.1 b (List.mem_of_mem_drop hb))))
      · rw [if_neg h4]
        exact ok_drop (ok_hear h1 t1 _ _ _ _)
    · rw [if_neg hd]
      exact ⟨h.pl ⟨o1, o2, o3, o4.app hb hf hd⟩ (fun q => by subst q; exact h.2.2.2.1), ht⟩
  · rw [if_neg hf]
    exact ⟨ok_wrong h hi, ok_wrongT ht i⟩
theorem ok_outQ (h : okG g) (ht : okT g B) {i : Nat} (hi : i < 5) : okG (sOutQ g i).2 ∧ okT (sOutQ g i).2 B := by
  obtain ⟨o1, o2, o3, o4⟩ := h.2.2.1 i hi
  unfold sOutQ
  cases hc : (gl g i).2.1 with
  | nil => exact ⟨h, ht⟩
  | cons b t =>
    rw [hc] at o2 o3
    refine ⟨h.pl ⟨o1, fun x hx => o2 x (List.mem_cons_of_mem _ hx), ?_, o4⟩ (fun q => by subst q; exact h.2.2.2.1), ht⟩
    simp only [List.length_cons] at o3
    show t.length ≤ 300
    omega
theorem ok_out (h : okG g) (ht : okT g B) (v : Int32) : okG (sOut g v).2 ∧ okT (sOut g v).2 B := by
  unfold sOut
  by_cases hv : v < 0 ∨ nI 5 ≤ v
  · rw [if_pos hv]; exact ⟨h, ht⟩
  · obtain ⟨i, hi, rfl, hh⟩ := rng (by decide) hv
    rw [if_neg hv, hh]; exact ok_outQ h ht hi
theorem ok_octet (h : okG g) (ht : okT g B) (v b : Int32) : okG (sOctet g v b).2 ∧ okT (sOctet g v b).2 B := by
  unfold sOctet
  by_cases hv : v < 0 ∨ nI 5 ≤ v
  · rw [if_pos hv]; exact ⟨h, ht⟩
  · obtain ⟨i, hi, rfl, hh⟩ := rng (by decide) hv
    rw [if_neg hv, hh]
    split
    · exact ⟨h, ht⟩
    · exact ok_come h ht hi (b8_and b)
theorem ok_down (h : okG g) (ht : okT g B) (v : Int32) : okG (sDown g v).2 ∧ okT (sDown g v).2 B := by
  unfold sDown
  by_cases hv : v < 0 ∨ nI 4 ≤ v
  · rw [if_pos hv]; exact ⟨h, ht⟩
  · obtain ⟨i, hi, rfl, hh⟩ := rng (by decide) hv
    rw [if_neg hv, hh]
    split
    · exact ⟨h, ht⟩
    · exact ⟨ok_wrong h (by omega), ok_wrongT ht i⟩
theorem nI_rng {w : Int32} {a b : Nat} (hb : b < 2 ^ 31) (h1 : nI a ≤ w) (h2 : w ≤ nI b) (ha : a < 2 ^ 31) : ∃ n, a ≤ n ∧ n ≤ b ∧ w = nI n := by
  have h0 : ¬ w < 0 := by
    intro q
    have : nI a < 0 := Int32.lt_of_le_of_lt h1 q
    exact nI_pos ha this
  obtain ⟨n, hn, rfl⟩ := nI_of h0
  exact ⟨n, Nat.not_lt.mp (fun q => absurd h1 (nI_ge q ha)), Nat.not_lt.mp (fun q => absurd h2 (nI_ge q hn)), rfl⟩
theorem ok_set (h : okG g) (ht : okT g B) (v w : Int32) : okG (sSet g v w).2 ∧ okT (sSet g v w).2 B := by
  unfold sSet
  by_cases c0 : v = 0 ∧ 1 ≤ w ∧ w ≤ 8
  · rw [if_pos c0]
    obtain ⟨a, b, c⟩ := h
    refine ⟨⟨?_, ?_, c⟩, ht.pc (by decide)⟩
    · show ∃ b, 1 ≤ b ∧ b ≤ 8 ∧ va_up (gc g) 0 w 0 = nI b
      rw [va_up_self]
      exact nI_rng (a := 1) (b := 8) (by decide) c0.2.1 c0.2.2 (by decide)
    · show ∃ t, 1 ≤ t ∧ t ≤ 100 ∧ va_up (gc g) 0 w 1 = nI t
      rw [va_up_ne _ _ (by decide)]; exact b
  · rw [if_neg c0]
    by_cases c1 : v = 1 ∧ 1 ≤ w ∧ w ≤ 100
    · rw [if_pos c1]
      obtain ⟨a, b, c⟩ := h
      refine ⟨⟨?_, ?_, c⟩, ht.pc (by decide)⟩
      · show ∃ b, 1 ≤ b ∧ b ≤ 8 ∧ va_up (gc g) 1 w 0 = nI b
        rw [va_up_ne _ _ (by decide)]; exact a
      · show ∃ t, 1 ≤ t ∧ t ≤ 100 ∧ va_up (gc g) 1 w 1 = nI t
        rw [va_up_self]
        exact nI_rng (a := 1) (b := 100) (by decide) c1.2.1 c1.2.2 (by decide)
    · rw [if_neg c1]
      split
      · exact ⟨h.pc (by decide) (by decide), ht.pc (by decide)⟩
      · exact ⟨h, ht⟩
theorem b8_rng {k : Int32} (h : ¬ (k < 0 ∨ 255 < k)) : b8 k := by
  obtain ⟨n, hn1, hn, rfl⟩ := nI_rng (w := k) (a := 0) (b := 255) (by decide) (Int32.not_lt.mp (fun q => h (Or.inl q))) (Int32.not_lt.mp (fun q => h (Or.inr q))) (by decide)
  exact b8_nI (by omega)
theorem ok_bind (h : okG g) (ht : okT g B) (k t : Int32) : okG (sBind g k t).2 ∧ okT (sBind g k t).2 B := by
  unfold sBind
  by_cases hk : k < 0 ∨ 255 < k
  · rw [if_pos hk]; exact ⟨h, ht⟩
  · rw [if_neg hk]
    by_cases hc : (gb g).length = 20
    · rw [if_pos hc]; exact ⟨h, ht⟩
    · rw [if_neg hc]
      obtain ⟨a, b, c, d, e, f, ⟨i1, i2⟩, j⟩ := h
      refine ⟨⟨a, b, c, d, e, f, ⟨?_, fun y hy => ?_⟩, j⟩, ht⟩
      · show (gb g ++ [(k, t)]).length ≤ 20
        simp; omega
      · have hy' : y ∈ gb g ++ [(k, t)] := hy
        rcases List.mem_append.mp hy' with q | q
        · exact i2 y q
        · rw [List.mem_singleton.mp q]; exact b8_rng hk
theorem ok_fact (h : okG g) (ht : okT g B) (k t : Int32) : okG (sFact g k t).2 ∧ okT (sFact g k t).2 B := by
  unfold sFact
  by_cases hk : k < 0 ∨ 255 < k
  · rw [if_pos hk]; exact ⟨h, ht⟩
  · rw [if_neg hk]
    by_cases hk2 : t < 0 ∨ 255 < t
    · rw [if_pos hk2]; exact ⟨h, ht⟩
    · rw [if_neg hk2]
      by_cases hc : (gf g).length = 60
      · rw [if_pos hc]; exact ⟨h, ht⟩
      · rw [if_neg hc]
        obtain ⟨a, b, c, d, e, f, i, ⟨j1, j2⟩, k'⟩ := h
        refine ⟨⟨a, b, c, d, e, f, i, ⟨?_, fun y hy => ?_⟩, k'⟩, ht⟩
        · show (gf g ++ [(k, t)]).length ≤ 60
          simp; omega
        · have hy' : y ∈ gf g ++ [(k, t)] := hy
          rcases List.mem_append.mp hy' with q | q
          · exact j2 y q
          · rw [List.mem_singleton.mp q]; exact ⟨b8_rng hk, b8_rng hk2⟩
theorem ok_upL (i : Nat) : ∀ (k r : Nat) (w : Int32) (g : sG), okG g → okT g B → r + k ≤ gn g → okG (sUpL i k r w g).2 ∧ okT (sUpL i k r w g).2 B := by
  intro k
  induction k with
  | zero => intro r w g h ht _; exact ⟨h, ht⟩
  | succ k ih =>
    intro r w g h ht hk
    unfold sUpL
    by_cases hc : (gq g r).1 0 = nI i ∧ (gq g r).1 14 = 0
    · rw [if_pos hc]
      exact ih _ _ _ (h.sreq (by omega) hc.2 0) (ht.sreq (by omega) 0) (by rw [gn_sreq]; omega)
    · rw [if_neg hc]
      exact ih _ _ _ h ht (by omega)
theorem ok_up (h : okG g) (ht : okT g B) (v : Int32) : okG (sUp g v).2 ∧ okT (sUp g v).2 B := by
  unfold sUp
  by_cases hv : v < 0 ∨ nI 4 ≤ v
  · rw [if_pos hv]; exact ⟨h, ht⟩
  · obtain ⟨i, hi, rfl, hh⟩ := rng (by decide) hv
    rw [if_neg hv, hh]
    split
    · obtain ⟨o1, o2, o3, o4⟩ := h.2.2.1 i (by omega)
      exact ok_upL i _ _ _ _ (h.pl ⟨Or.inr rfl, o2, o3, o4⟩ (fun q => by omega)) ht (by show 0 + gn g ≤ gn g; omega)
    · exact ⟨h, ht⟩
-- the clock
def sTickR : Nat → Nat → Int32 → sG → Int32 × sG
  | 0, _, w, g => (w, g)
  | k + 1, r, w, g => if (gq g r).1 14 = 0 ∧ gc g 1 ≤ gc g 3 - (gq g r).1 12 then (if (gq g r).1 13 < gc g 2 then sTickR k (r + 1) w (sSendReq g r ((gq g r).1 13 + 1)).2 else sTickR k (r + 1) (w + 1) (pq g r (sFailD (gq g r) 1))) else sTickR k (r + 1) w g
def sTickL : Nat → Int32 → sG → Int32 × sG
  | 0, w, g => (w, g)
  | n + 1, w, g => sTickL n (sTickR (gn g) 0 w (pc g 3 (gc g 3 + 1))).1 (sTickR (gn g) 0 w (pc g 3 (gc g 3 + 1))).2
def sTick (g : sG) (v : Int32) : Int32 × sG := if v < 0 ∨ 1000 < v then (-1, g) else sTickL (hN v) 0 g
theorem ok_tickR : ∀ (k r : Nat) (w : Int32) (g : sG), okG g → okT g B → r + k ≤ gn g → okG (sTickR k r w g).2 ∧ okT (sTickR k r w g).2 B ∧ gn (sTickR k r w g).2 = gn g ∧ gc (sTickR k r w g).2 1 = gc g 1 ∧ gc (sTickR k r w g).2 3 = gc g 3 := by
  intro k
  induction k with
  | zero => intro r w g h ht _; exact ⟨h, ht, rfl, rfl, rfl⟩
  | succ k ih =>
    intro r w g h ht hk
    unfold sTickR
    by_cases hc : (gq g r).1 14 = 0 ∧ gc g 1 ≤ gc g 3 - (gq g r).1 12
    · rw [if_pos hc]
      by_cases h2 : (gq g r).1 13 < gc g 2
      · rw [if_pos h2]
        obtain ⟨a, b, c, d, e⟩ := ih (r + 1) w _ (h.sreq (r := r) (by omega) hc.1 ((gq g r).1 13 + 1)) (ht.sreq (by omega) _) (by rw [gn_sreq]; omega)
        exact ⟨a, b, by rw [c, gn_sreq], by rw [d, gc_sreq _ _ _ _ (by decide)], by rw [e, gc_sreq _ _ _ _ (by decide)]⟩
      · rw [if_neg h2]
        exact ih _ _ _ (h.pq (by omega) ((h.2.2.2.2.2.1 r (by omega)).fail (Or.inl rfl))) (ht.pq (by omega) (fun z => absurd z (sFailD_14 _ _))) (by show r + 1 + k ≤ gn g; omega)
    · rw [if_neg hc]
      exact ih _ _ _ h ht (by omega)
theorem ok_second (h : okG g) (ht : okT g B) : okG (pc g 3 (gc g 3 + 1)) ∧ okT (pc g 3 (gc g 3 + 1)) (B + 1) := by
  refine ⟨h.pc (by decide) (by decide), ?_⟩
  obtain ⟨c, hc, hg, hr⟩ := ht
  refine ⟨c + 1, by omega, ?_, fun r h1 h2 => ?_⟩
  · show va_up (gc g) 3 (gc g 3 + 1) 3 = nI (c + 1)
    rw [va_up_self, hg, nI_1]
  · obtain ⟨s, hs, he⟩ := hr r h1 h2
    exact ⟨s, by omega, he⟩
theorem ok_tickL : ∀ (n : Nat) (w : Int32) (g : sG) (B : Nat), okG g → okT g B → okG (sTickL n w g).2 ∧ okT (sTickL n w g).2 (B + n) := by
  intro n
  induction n with
  | zero => intro w g B h ht; exact ⟨h, ht⟩
  | succ n ih =>
    intro w g B h ht
    unfold sTickL
    obtain ⟨h1, t1⟩ := ok_second h ht
    obtain ⟨a, b, -⟩ := ok_tickR (gn g) 0 w _ h1 t1 (by show 0 + gn g ≤ gn g; omega)
    obtain ⟨c, d⟩ := ih _ _ _ a b
    exact ⟨c, by rw [show B + (n + 1) = B + 1 + n by omega]; exact d⟩
theorem okT.up (h : okT g B) {B' : Nat} (hb : B ≤ B') : okT g B' := by
  obtain ⟨c, hc, q⟩ := h
  exact ⟨c, by omega, q⟩
theorem ok_tick (h : okG g) (ht : okT g B) (v : Int32) : okG (sTick g v).2 ∧ okT (sTick g v).2 (B + 1000) := by
  unfold sTick
  by_cases hv : v < 0 ∨ 1000 < v
  · rw [if_pos hv]; exact ⟨h, ht.up (by omega)⟩
  · rw [if_neg hv]
    obtain ⟨n, -, hn, rfl⟩ := nI_rng (w := v) (a := 0) (b := 1000) (by decide) (Int32.not_lt.mp (fun q => hv (Or.inl q))) (Int32.not_lt.mp (fun q => hv (Or.inr q))) (by decide)
    have hh : hN (nI n) = n := nI_clamp (by omega)
    rw [hh]
    obtain ⟨a, b⟩ := ok_tickL n 0 g B h ht
    exact ⟨a, b.up (by omega)⟩
end OK3
