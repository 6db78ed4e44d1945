/-! Frames of the class: kind, number, bytes. -/
def FrX (S : fw_S) (f : Nat) (kind num : Int32) (bs : List Int32) : Prop :=
  fw_r S f 3 = some (f + 1) ∧ fw_l S (f + 1) = 18 ∧ fw_g S f 0 = kind ∧ fw_g S f 1 = num ∧ fw_g S f 2 = nI bs.length ∧ bs.length ≤ 18 ∧ ∀ (i : Nat) (b : Int32), bs[i]? = some b → fw_g S (f + 1) i = b
def sXor (a : Int32) (bs : List Int32) : Int32 := bs.foldl (fun x y => x ^^^ y) a
def sSum (kind num : Int32) (bs : List Int32) : Int32 := sXor (kind ^^^ num ^^^ nI bs.length) bs
theorem FrX.keep {S S' : fw_S} {f : Nat} {kind num : Int32} {bs : List Int32} (h : FrX S f kind num bs) (hs : sm S S') (h1 : fw_g S' f = fw_g S f) (h2 : fw_g S' (f + 1) = fw_g S (f + 1)) : FrX S' f kind num bs := by
  obtain ⟨r, l, a, b, c, d, e⟩ := h
  refine ⟨by rw [sm_r hs]; exact r, by rw [sm_l hs]; exact l, by rw [h1]; exact a, by rw [h1]; exact b, by rw [h1]; exact c, d, fun i x hx => ?_⟩
  rw [h2]; exact e i x hx
theorem FrX.begin {S : fw_S} {f : Nat} (hr : fw_r S f 3 = some (f + 1)) (hl : fw_l S (f + 1) = 18) (k n : Int32) : ∃ S', F_Frame_begin f k n S = some S' ∧ FrX S' f k n [] ∧ sm S S' ∧ ∀ a, a ≠ f → fw_g S' a = fw_g S a := by
  refine ⟨fw_wi (fw_wi (fw_wi S f 0 k) f 1 n) f 2 0, rfl, ⟨hr, hl, ?_, ?_, ?_, Nat.zero_le _, fun i b h => by simp at h⟩, rfl, fun a ha => ?_⟩
  · simp (disch := omega) only [g_k, g_s]
  · simp (disch := omega) only [g_k, g_s]
  · rw [g_s]; rfl
  · rw [fw_g_wi_ne ha, fw_g_wi_ne ha, fw_g_wi_ne ha]
theorem FrX.put {S : fw_S} {f : Nat} {kind num : Int32} {bs : List Int32} (h : FrX S f kind num bs) (hlt : bs.length < 18) (b : Int32) : ∃ S', F_Frame_put f b S = some S' ∧ FrX S' f kind num (bs ++ [b &&& 255]) ∧ sm S S' ∧ ∀ a, a ≠ f → a ≠ f + 1 → fw_g S' a = fw_g S a := by
  obtain ⟨r, l, hk, hm, hn, d, e⟩ := h
  refine ⟨fw_wi (fw_wi S (f + 1) bs.length (b &&& 255)) f 2 (nI (bs.length + 1)), ?_, ⟨r, l, ?_, ?_, ?_, ?_, fun i x hx => ?_⟩, rfl, fun a ha hb => ?_⟩
  · unfold F_Frame_put
    have e1 : ¬ nI bs.length < 0 := nI_pos (by omega)
    have e2 : ¬ nI 18 ≤ nI bs.length := nI_ge hlt (by omega)
    have e4 : (nI bs.length).toNatClampNeg = bs.length := nI_clamp (by omega)
    have e5 : ¬ 18 ≤ bs.length := by omega
    have e6 : nI bs.length + 1 = nI (bs.length + 1) := nI_1 _
    simp (disch := omega) only [fw_om, fw_let, hn, r, l, e1, e2, e4, e5, e6, if_false, or_self, fw_r_wi, fw_l_wi, g_a]
  · simp (disch := omega) only [g_k, g_a]; exact hk
  · simp (disch := omega) only [g_k, g_a]; exact hm
  · rw [g_s]; simp
  · simp; omega
  · by_cases hi : i = bs.length
    · subst hi
      simp (disch := omega) only [g_a, g_s]
      simp at hx
      exact hx
    · simp (disch := omega) only [g_a, g_k]
      rw [List.getElem?_append_left (by
        have := (List.getElem?_eq_some_iff.mp hx).1
        simp at this
        omega)] at hx
      exact e i x hx
  · rw [fw_g_wi_ne ha, fw_g_wi_ne hb]
theorem FrX.at {S : fw_S} {f : Nat} {kind num : Int32} {bs : List Int32} (h : FrX S f kind num bs) (i : Nat) (hi : i < 2 ^ 31) : F_Frame_byteAt f (nI i) S = some (bs.getD i 0) := by
  obtain ⟨r, l, hk, hm, hn, d, e⟩ := h
  unfold F_Frame_byteAt
  have e1 : ¬ nI i < 0 := nI_pos (by omega)
  by_cases hlt : i < bs.length
  · have e2 : ¬ nI bs.length ≤ nI i := nI_ge hlt (by omega)
    have e3 : ¬ nI 18 ≤ nI i := nI_ge (by omega) (by omega)
    have e4 : (nI i).toNatClampNeg = i := nI_clamp (by omega)
    have e5 : ¬ 18 ≤ i := by omega
    have e6 := e i bs[i] (List.getElem?_eq_getElem hlt)
    simp only [fw_om, hn, r, l, e1, e2, e3, e4, e5, if_false, or_self, e6]
    simp [hlt]
  · have e2 : nI bs.length ≤ nI i := nI_le (by omega) (by omega)
    simp only [hn, e1, e2, if_false, if_true]
    simp [hlt]
theorem FrX.sumL {S : fw_S} {f : Nat} {kind num : Int32} {bs : List Int32} (h : FrX S f kind num bs) : ∀ (n i : Nat) (x : Int32), i ≤ bs.length → bs.length < i + n → F_Frame_sum_l17 S n f x (nI i) = some (sXor x (bs.drop i)) := by
  obtain ⟨r, l, hk, hm, hn, d, e⟩ := h
  intro n
  induction n with
  | zero => intro i x h1 h2; omega
  | succ n ih =>
    intro i x h1 h2
    rw [F_Frame_sum_l17]
    by_cases hlt : i < bs.length
    · have e1 : ¬ nI i < 0 := nI_pos (by omega)
      have e2 : ¬ nI bs.length ≤ nI i := nI_ge hlt (by omega)
      have e3 : ¬ nI 18 ≤ nI i := nI_ge (by omega) (by omega)
      have e4 : (nI i).toNatClampNeg = i := nI_clamp (by omega)
      have e5 : ¬ 18 ≤ i := by omega
      have e6 := e i bs[i] (List.getElem?_eq_getElem hlt)
      have e7 : nI i + 1 = nI (i + 1) := nI_1 _
      simp only [fw_om, fw_let, hn, r, l, e1, e2, e3, e4, e5, e7, if_false, or_self, e6]
      rw [ih (i + 1) _ (by omega) (by omega), List.drop_eq_getElem_cons hlt]
      rfl
    · have e2 : nI bs.length ≤ nI i := nI_le (by omega) (by omega)
      simp only [hn, e2, if_true]
      rw [List.drop_eq_nil_of_le (by omega)]
      rfl
theorem FrX.sum {S : fw_S} {f : Nat} {kind num : Int32} {bs : List Int32} (h : FrX S f kind num bs) : F_Frame_sum f S = some (sSum kind num bs) := by
  have hl := h.sumL 4096 0 (kind ^^^ num ^^^ nI bs.length) (Nat.zero_le _) (by have := h.2.2.2.2.2.1; omega)
  obtain ⟨r, l, hk, hm, hn, d, e⟩ := h
  unfold F_Frame_sum fw_let
  rw [hk, hm, hn]
  exact hl
