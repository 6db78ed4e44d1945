/-! The out row of a line of the class: a list of bytes. -/
def QuX (S : fw_S) (w : Nat) (out : List Int32) : Prop :=
  fw_r S w 1 = some (w + 1) ∧ fw_l S (w + 1) = 300 ∧ (∃ f, f < 300 ∧ fw_g S w 2 = nI f ∧ ∀ (j : Nat) (b : Int32), out[j]? = some b → fw_g S (w + 1) ((f + j) % 300) = b) ∧ fw_g S w 3 = nI out.length ∧ out.length ≤ 300
theorem QuX.keep {S S' : fw_S} {w : Nat} {out : List Int32} (h : QuX S w out) (hs : sm S S') (h1 : fw_g S' w 2 = fw_g S w 2) (h3 : fw_g S' w 3 = fw_g S w 3) (h2 : fw_g S' (w + 1) = fw_g S (w + 1)) : QuX S' w out := by
  obtain ⟨r, l, ⟨f, hf, a, b⟩, c, d⟩ := h
  refine ⟨by rw [sm_r hs]; exact r, by rw [sm_l hs]; exact l, ⟨f, hf, by rw [h1]; exact a, fun j x hx => ?_⟩, by rw [h3]; exact c, d⟩
  rw [h2]; exact b j x hx
theorem QuX.push {S : fw_S} {w : Nat} {out : List Int32} (h : QuX S w out) (hlt : out.length < 300) (x : Int32) : ∃ S', F_Wire_push w x S = some S' ∧ QuX S' w (out ++ [x]) ∧ sm S S' ∧ (∀ a, a ≠ w → a ≠ w + 1 → fw_g S' a = fw_g S a) ∧ ∀ k, k ≠ 3 → fw_g S' w k = fw_g S w k := by
  obtain ⟨r, l, ⟨f, hf, a, b⟩, c, d⟩ := h
  refine ⟨fw_wi (fw_wi S (w + 1) ((f + out.length) % 300) x) w 3 (nI (out.length + 1)), ?_, ⟨r, l, ⟨f, hf, ?_, fun j y hy => ?_⟩, ?_, ?_⟩, rfl, fun a ha hb => ?_, fun k hk => ?_⟩
  · unfold F_Wire_push
    have hm : (f + out.length) % 300 < 300 := Nat.mod_lt _ (by decide)
    have e0 : nI f + nI out.length - (nI f + nI out.length) / 300 * 300 = nI ((f + out.length) % 300) := by
      rw [nI_add]
      exact nI_mod (b := 300) (by omega) (by decide) (by decide)
    have e1 : ¬ (300 : Int32) ≤ nI out.length := nI_ge (b := 300) hlt (by omega)
    have e2 : ¬ nI ((f + out.length) % 300) < 0 := nI_pos (by omega)
    have e3 : ¬ nI 300 ≤ nI ((f + out.length) % 300) := nI_ge hm (by omega)
    have e4 : (nI ((f + out.length) % 300)).toNatClampNeg = (f + out.length) % 300 := nI_clamp (by omega)
    have e5 : ¬ 300 ≤ (f + out.length) % 300 := by omega
    have e6 : nI out.length + 1 = nI (out.length + 1) := nI_1 _
    simp (disch := omega) only [fw_om, fw_let, a, c, r, l, e0, e1, e2, e3, e4, e5, e6, if_false, or_self, fw_r_wi, fw_l_wi, g_a]
  · simp (disch := omega) only [g_k, g_a]; exact a
  · by_cases hj : j = out.length
    · subst hj
      simp (disch := omega) only [g_a, g_s]
      simp at hy
      exact hy
    · have hl : j < out.length := by
        have := (List.getElem?_eq_some_iff.mp hy).1
        simp at this
        omega
      simp (disch := omega) only [g_a, g_k]
      rw [List.getElem?_append_left hl] at hy
      exact b j y hy
  · rw [g_s]; simp
  · simp; omega
  · rw [fw_g_wi_ne ha, fw_g_wi_ne hb]
  · simp (disch := omega) only [g_k, g_a]
theorem QuX.take {S : fw_S} {w : Nat} {x : Int32} {out : List Int32} (h : QuX S w (x :: out)) : ∃ S', F_Wire_takeFirst w S = some (x, S') ∧ QuX S' w out ∧ sm S S' ∧ (∀ a, a ≠ w → fw_g S' a = fw_g S a) ∧ ∀ k, k ≠ 2 → k ≠ 3 → fw_g S' w k = fw_g S w k := by
  obtain ⟨r, l, ⟨f, hf, a, b⟩, c, d⟩ := h
  simp only [List.length_cons] at c d
  refine ⟨fw_wi (fw_wi S w 2 (nI ((f + 1) % 300))) w 3 (nI out.length), ?_, ⟨r, l, ⟨(f + 1) % 300, Nat.mod_lt _ (by decide), ?_, fun j y hy => ?_⟩, ?_, by omega⟩, rfl, fun a ha => ?_, fun k hk hk' => ?_⟩
  · unfold F_Wire_takeFirst
    have e0 : nI f + 1 - (nI f + 1) / 300 * 300 = nI ((f + 1) % 300) := by
      rw [nI_1]
      exact nI_mod (b := 300) (by omega) (by decide) (by decide)
    have e1 : ¬ nI (out.length + 1) ≤ 0 := nI_nle (by omega) (by omega)
    have e2 : ¬ nI f < 0 := nI_pos (by omega)
    have e3 : nI f < nI 300 := nI_lt hf (by omega)
    have e4 : (nI f).toNatClampNeg = f := nI_clamp (by omega)
    have e5 : ¬ 300 ≤ f := by omega
    have e6 : nI (out.length + 1) - 1 = nI out.length := nI_pred _
    have e7 : fw_g S (w + 1) f = x := by
      have := b 0 x rfl
      rw [show (f + 0) % 300 = f by omega] at this
      exact this
    simp (disch := omega) only [fw_om, fw_let, a, c, r, l, e0, e1, e2, e3, e4, e5, e6, e7, if_false, if_true, or_self, g_k]
  · simp (disch := omega) only [g_k, g_s]
  · simp (disch := omega) only [g_a]
    have := b (j + 1) y (by simpa using hy)
    rw [show ((f + 1) % 300 + j) % 300 = (f + (j + 1)) % 300 by omega]
    exact this
  · rw [g_s]
  · rw [fw_g_wi_ne ha, fw_g_wi_ne ha]
  · simp (disch := omega) only [g_k]
theorem QuX.none {S : fw_S} {w : Nat} (h : QuX S w []) : F_Wire_takeFirst w S = some (-2, S) := by
  obtain ⟨r, l, ⟨f, hf, a, b⟩, c, d⟩ := h
  unfold F_Wire_takeFirst
  have e1 : (fw_g S w 3) ≤ 0 := by rw [c]; decide
  simp only [e1, if_true]
theorem QuX.clear {S : fw_S} {w : Nat} {out : List Int32} (h : QuX S w out) : ∃ S', F_Wire_clearOut w S = some S' ∧ QuX S' w [] ∧ sm S S' ∧ (∀ a, a ≠ w → fw_g S' a = fw_g S a) ∧ ∀ k, k ≠ 2 → k ≠ 3 → fw_g S' w k = fw_g S w k := by
  obtain ⟨r, l, ⟨f, hf, a, b⟩, c, d⟩ := h
  refine ⟨fw_wi (fw_wi S w 2 0) w 3 0, rfl, ⟨r, l, ⟨0, by decide, ?_, fun j y hy => by simp at hy⟩, ?_, by simp⟩, rfl, fun a ha => ?_, fun k hk hk' => ?_⟩
  · simp (disch := omega) only [g_k, g_s]; rfl
  · rw [g_s]; rfl
  · rw [fw_g_wi_ne ha, fw_g_wi_ne ha]
  · simp (disch := omega) only [g_k]
def sFrame (kind num : Int32) (bs : List Int32) : List Int32 := [126, kind, num, nI bs.length] ++ bs ++ [sSum kind num bs]
theorem sFrame_len (kind num : Int32) (bs : List Int32) : (sFrame kind num bs).length = bs.length + 5 := by simp [sFrame]
theorem QuX.sendL {w f : Nat} {kind num : Int32} {bs : List Int32} (hd1 : f ≠ w) (hd2 : f ≠ w + 1) (hd3 : f + 1 ≠ w) (hd4 : f + 1 ≠ w + 1) : ∀ (n i : Nat) (S : fw_S) (out : List Int32), FrX S f kind num bs → QuX S w out → i ≤ bs.length → bs.length < i + n → out.length + (bs.length - i) + 1 ≤ 300 →
    ∃ S', F_Wire_send_l60 n w f (nI i) S = some (1, S') ∧ QuX S' w (out ++ bs.drop i ++ [sSum kind num bs]) ∧ FrX S' f kind num bs ∧ sm S S' ∧ (∀ a, a ≠ w → a ≠ w + 1 → fw_g S' a = fw_g S a) ∧ ∀ k, k ≠ 3 → fw_g S' w k = fw_g S w k := by
  intro n
  induction n with
  | zero => intro i S out hF hQ h1 h2; omega
  | succ n ih =>
    intro i S out hF hQ h1 h2 h3
    have hn := hF.2.2.2.2.1
    have hl18 := hF.2.2.2.2.2.1
    rw [F_Wire_send_l60]
    by_cases hlt : i < bs.length
    · have e2 : ¬ nI bs.length ≤ nI i := nI_ge hlt (by omega)
      obtain ⟨S1, p1, q1, s1, g1, k1⟩ := hQ.push (by omega) (bs.getD i 0)
      have hF1 := hF.keep s1 (g1 f hd1 hd2) (g1 (f + 1) hd3 hd4)
      obtain ⟨S2, p2, q2, f2, s2, g2, k2⟩ := ih (i + 1) S1 _ hF1 q1 (by omega) (by omega) (by simp; omega)
      refine ⟨S2, ?_, ?_, f2, sm_tr s1 s2, fun a ha hb => (g2 a ha hb).trans (g1 a ha hb), fun k hk => (k2 k hk).trans (k1 k hk)⟩
      · rw [hn, if_neg e2, hF.at i (by omega)]
        show Option.bind (F_Wire_push w (bs.getD i 0) S) _ = _
        rw [p1]
        show F_Wire_send_l60 n w f (nI i + 1) S1 = _
        rw [nI_1, p2]
      · rw [List.drop_eq_getElem_cons hlt]
        have : bs.getD i 0 = bs[i] := by simp [hlt]
        rw [this] at q2
        simpa using q2
    · have e2 : nI bs.length ≤ nI i := nI_le (by omega) (by omega)
      obtain ⟨S1, p1, q1, s1, g1, k1⟩ := hQ.push (by omega) (sSum kind num bs)
      refine ⟨S1, ?_, ?_, hF.keep s1 (g1 f hd1 hd2) (g1 (f + 1) hd3 hd4), s1, g1, k1⟩
      · rw [hn, if_pos e2, hF.sum]
        show Option.bind (F_Wire_push w (sSum kind num bs) S) _ = _
        rw [p1]
        rfl
      · rw [List.drop_eq_nil_of_le (by omega), List.append_nil]
        exact q1
theorem QuX.send {S : fw_S} {w f : Nat} {kind num : Int32} {bs out : List Int32} (hQ : QuX S w out) (hF : FrX S f kind num bs) (hup : fw_g S w 0 ≠ 0) (hd1 : f ≠ w) (hd2 : f ≠ w + 1) (hd3 : f + 1 ≠ w) (hd4 : f + 1 ≠ w + 1) (hlen : out.length + bs.length + 5 ≤ 300) :
    ∃ S', F_Wire_send w f S = some (1, S') ∧ QuX S' w (out ++ sFrame kind num bs) ∧ FrX S' f kind num bs ∧ sm S S' ∧ (∀ a, a ≠ w → a ≠ w + 1 → fw_g S' a = fw_g S a) ∧ ∀ k, k ≠ 3 → fw_g S' w k = fw_g S w k := by
  obtain ⟨S1, p1, q1, s1, g1, k1⟩ := hQ.push (by omega) 126
  have hF1 := hF.keep s1 (g1 f hd1 hd2) (g1 (f + 1) hd3 hd4)
  obtain ⟨S2, p2, q2, s2, g2, k2⟩ := q1.push (by simp; omega) kind
  have hF2 := hF1.keep s2 (g2 f hd1 hd2) (g2 (f + 1) hd3 hd4)
  obtain ⟨S3, p3, q3, s3, g3, k3⟩ := q2.push (by simp; omega) num
  have hF3 := hF2.keep s3 (g3 f hd1 hd2) (g3 (f + 1) hd3 hd4)
  obtain ⟨S4, p4, q4, s4, g4, k4⟩ := q3.push (by simp; omega) (nI bs.length)
  have hF4 := hF3.keep s4 (g4 f hd1 hd2) (g4 (f + 1) hd3 hd4)
  obtain ⟨S5, p5, q5, f5, s5, g5, k5⟩ := QuX.sendL hd1 hd2 hd3 hd4 4096 0 S4 _ hF4 q4 (Nat.zero_le _) (by have := hF.2.2.2.2.2.1; omega) (by simp; omega)
  refine ⟨S5, ?_, by simpa [sFrame] using q5, f5, sm_tr s1 (sm_tr s2 (sm_tr s3 (sm_tr s4 s5))), fun a ha hb => by rw [g5 a ha hb, g4 a ha hb, g3 a ha hb, g2 a ha hb, g1 a ha hb], fun k hk => by rw [k5 k hk, k4 k hk, k3 k hk, k2 k hk, k1 k hk]⟩
  unfold F_Wire_send
  have hn := hQ.2.2.2.1
  have hm := hF.2.2.2.2.1
  have e1 : nI out.length + 4 + nI bs.length + 1 ≤ 300 := by
    rw [show (4 : Int32) = nI 4 from rfl, nI_add, nI_add, nI_1]
    exact nI_le (b := 300) (by omega) (by omega)
  rw [if_neg hup, hn, hm, if_pos e1, p1, Option.bind_some, hF1.2.2.1, p2, Option.bind_some, hF2.2.2.2.1, p3, Option.bind_some, hF3.2.2.2.2.1, p4, Option.bind_some]
  exact p5
theorem QuX.lost {S : fw_S} {w f : Nat} {kind num : Int32} {bs out : List Int32} (hQ : QuX S w out) (hF : FrX S f kind num bs) (h : fw_g S w 0 = 0 ∨ 300 < out.length + bs.length + 5) : F_Wire_send w f S = some (0, S) := by
  unfold F_Wire_send
  have hn := hQ.2.2.2.1
  have hm := hF.2.2.2.2.1
  have hl1 := hF.2.2.2.2.2.1
  have hl2 := hQ.2.2.2.2
  by_cases hup : fw_g S w 0 = 0
  · rw [if_pos hup]
  · have hlen : 300 < out.length + bs.length + 5 := h.resolve_left hup
    have e1 : ¬ nI out.length + 4 + nI bs.length + 1 ≤ 300 := by
      rw [show (4 : Int32) = nI 4 from rfl, nI_add, nI_add, nI_1]
      exact nI_ge (a := 300) (by omega) (by omega)
    rw [if_neg hup, hn, hm, if_neg e1]
