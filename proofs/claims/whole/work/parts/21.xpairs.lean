/-! Pairs of the class: a list of keys with values. -/
def PrX (S : fw_S) (p cap : Nat) (l : List (Int32 × Int32)) : Prop :=
  fw_r S p 0 = some (p + 1) ∧ fw_r S p 1 = some (p + 2) ∧ fw_l S (p + 1) = cap ∧ fw_l S (p + 2) = cap ∧ cap ≤ 64 ∧ fw_g S p 2 = nI l.length ∧ l.length ≤ cap ∧ ∀ (i : Nat) (q : Int32 × Int32), l[i]? = some q → fw_g S (p + 1) i = q.1 ∧ fw_g S (p + 2) i = q.2
theorem PrX.keep {S S' : fw_S} {p cap : Nat} {l : List (Int32 × Int32)} (h : PrX S p cap l) (hs : sm S S') (hg : ∀ a, p ≤ a → a < p + 3 → fw_g S' a = fw_g S a) : PrX S' p cap l := by
  obtain ⟨h0, h1, l1, l2, hc, hn, hl, hd⟩ := h
  refine ⟨by rw [sm_r hs]; exact h0, by rw [sm_r hs]; exact h1, by rw [sm_l hs]; exact l1, by rw [sm_l hs]; exact l2, hc, by rw [hg p (by omega) (by omega)]; exact hn, hl, fun i q hq => ?_⟩
  rw [hg (p + 1) (by omega) (by omega), hg (p + 2) (by omega) (by omega)]
  exact hd i q hq
theorem PrX.add {S : fw_S} {p cap : Nat} {l : List (Int32 × Int32)} (h : PrX S p cap l) (hlt : l.length < cap) (k v : Int32) : ∃ S', F_Pairs_add p k v S = some (1, S') ∧ PrX S' p cap (l ++ [(k, v)]) ∧ sm S S' ∧ ∀ a, (a < p ∨ p + 3 ≤ a) → fw_g S' a = fw_g S a := by
  obtain ⟨h0, h1, l1, l2, hc, hn, hl, hd⟩ := h
  refine ⟨fw_wi (fw_wi (fw_wi S (p + 1) l.length k) (p + 2) l.length v) p 2 (nI (l.length + 1)), ?_, ⟨h0, h1, l1, l2, hc, ?_, ?_, fun i q hq => ?_⟩, rfl, fun a ha => ?_⟩
  · unfold F_Pairs_add
    have e1 : ¬ nI l.length < 0 := nI_pos (by omega)
    have e2 : ¬ nI cap ≤ nI l.length := nI_ge hlt (by omega)
    have e3 : nI l.length < nI cap := nI_lt hlt (by omega)
    have e4 : (nI l.length).toNatClampNeg = l.length := nI_clamp (by omega)
    have e5 : ¬ cap ≤ l.length := by omega
    have e6 : nI l.length + 1 = nI (l.length + 1) := nI_1 _
    simp (disch := omega) only [fw_om, fw_let, hn, h0, h1, l1, l2, e1, e2, e3, e4, e5, e6, if_false, if_true, or_self, fw_r_wi, fw_l_wi, g_a]
  · rw [g_s]; simp
  · simp; omega
  · by_cases hi : i = l.length
    · subst hi
      simp (disch := omega) only [g_a, g_s]
      simp at hq
      subst hq
      exact ⟨rfl, rfl⟩
    · simp (disch := omega) only [g_a, g_k]
      rw [List.getElem?_append_left (by
        have := (List.getElem?_eq_some_iff.mp hq).1
        simp at this
        omega)] at hq
      exact hd i q hq
  · rw [fw_g_wi_ne (by omega), fw_g_wi_ne (by omega), fw_g_wi_ne (by omega)]
theorem PrX.full {S : fw_S} {p cap : Nat} {l : List (Int32 × Int32)} (h : PrX S p cap l) (hlt : l.length = cap) (k v : Int32) : F_Pairs_add p k v S = some (0, S) := by
  obtain ⟨h0, h1, l1, l2, hc, hn, hl, hd⟩ := h
  unfold F_Pairs_add
  have e1 : ¬ nI l.length < 0 := nI_pos (by omega)
  have e2 : nI cap ≤ nI l.length := nI_le (by omega) (by omega)
  simp only [fw_om, hn, h0, l1, e1, e2, if_false, if_true]
theorem PrX.key {S : fw_S} {p cap : Nat} {l : List (Int32 × Int32)} (h : PrX S p cap l) {i : Nat} {q : Int32 × Int32} (hq : l[i]? = some q) : F_Pairs_keyAt p (nI i) S = some q.1 := by
  obtain ⟨h0, h1, l1, l2, hc, hn, hl, hd⟩ := h
  have hi := (List.getElem?_eq_some_iff.mp hq).1
  unfold F_Pairs_keyAt
  have e1 : ¬ nI i < 0 := nI_pos (by omega)
  have e2 : ¬ nI l.length ≤ nI i := nI_ge hi (by omega)
  have e3 : ¬ nI cap ≤ nI i := nI_ge (by omega) (by omega)
  have e4 : (nI i).toNatClampNeg = i := nI_clamp (by omega)
  have e5 : ¬ cap ≤ i := by omega
  simp only [fw_om, hn, h0, l1, e1, e2, e3, e4, e5, if_false, or_self, (hd i q hq).1]
theorem PrX.val {S : fw_S} {p cap : Nat} {l : List (Int32 × Int32)} (h : PrX S p cap l) {i : Nat} {q : Int32 × Int32} (hq : l[i]? = some q) : F_Pairs_valueAt p (nI i) S = some q.2 := by
  obtain ⟨h0, h1, l1, l2, hc, hn, hl, hd⟩ := h
  have hi := (List.getElem?_eq_some_iff.mp hq).1
  unfold F_Pairs_valueAt
  have e1 : ¬ nI i < 0 := nI_pos (by omega)
  have e2 : ¬ nI l.length ≤ nI i := nI_ge hi (by omega)
  have e3 : ¬ nI cap ≤ nI i := nI_ge (by omega) (by omega)
  have e4 : (nI i).toNatClampNeg = i := nI_clamp (by omega)
  have e5 : ¬ cap ≤ i := by omega
  simp only [fw_om, hn, h1, l2, e1, e2, e3, e4, e5, if_false, or_self, (hd i q hq).2]
theorem PrX.clear {S : fw_S} {p cap : Nat} {l : List (Int32 × Int32)} (h : PrX S p cap l) : F_Pairs_clear p S = some (fw_wi S p 2 0) ∧ PrX (fw_wi S p 2 0) p cap [] := by
  obtain ⟨h0, h1, l1, l2, hc, hn, hl, hd⟩ := h
  exact ⟨rfl, h0, h1, l1, l2, hc, by rw [g_s]; rfl, Nat.zero_le _, fun i q hq => by simp at hq⟩
