/-! The reference: settings, bindings, facts. -/
theorem isIn_or (v a b : Int32) (S : fw_S) : F_Mo_isIn v a b S = some (if v < a ∨ b < v then 0 else 1) := by
  unfold F_Mo_isIn
  by_cases h1 : v < a
  · rw [if_pos h1, if_pos (Or.inl h1)]
  · rw [if_neg h1]
    by_cases h2 : b < v
    · rw [if_pos h2, if_pos (Or.inr h2)]
    · rw [if_neg h2, if_neg (fun z => z.elim h1 h2)]
theorem out_iff (v a b : Int32) : (v < a ∨ b < v) ↔ ¬ (a ≤ v ∧ v ≤ b) := by
  constructor
  · intro z q
    exact z.elim (fun z => absurd q.1 (Int32.not_le.mpr z)) (fun z => absurd q.2 (Int32.not_le.mpr z))
  · intro z
    by_cases h1 : v < a
    · exact Or.inl h1
    · by_cases h2 : b < v
      · exact Or.inr h2
      · exact absurd ⟨Int32.not_lt.mp h1, Int32.not_lt.mp h2⟩ z
section MT
variable {S0 S S' : fw_S} {m : Nat} {g : sG}
theorem RM.same (h : RM S0 S m g) {f k : Nat} (hk : (f, k) ∈ [(5, 0), (6, 1), (7, 2), (8, 3), (9, 4), (10, 5), (42, 6)]) (hg : fw_g S m f = gc g k) : RM S0 (fw_wi S m f (fw_g S m f)) m g := by
  have := h.num hk (fw_g S m f)
  rw [pc_id g k hg] at this
  exact this
theorem RM.c5 (h : RM S0 S m g) : fw_g S m 5 = gc g 0 := h.2.1.1
theorem RM.c6 (h : RM S0 S m g) : fw_g S m 6 = gc g 1 := h.2.1.2.1
theorem RM.c7 (h : RM S0 S m g) : fw_g S m 7 = gc g 2 := h.2.1.2.2.1
theorem RM.set0 (h : RM S0 S m g) (w : Int32) : ∃ S', F_Mo_setting_j43 m 0 w S = some (gc g 0, S') ∧ RM S0 S' m (pc g 0 w) := by
  have h1 := h.num (f := 5) (k := 0) (by decide) w
  have h2 := h1.same (f := 6) (k := 1) (by decide) h1.c6
  have h3 := h2.same (f := 7) (k := 2) (by decide) h2.c7
  refine ⟨_, ?_, h3⟩
  unfold F_Mo_setting_j43 F_Mo_setting_j48
  rw [if_neg (by decide), if_pos rfl, h.c5]
  unfold F_Mo_setting_j82
  rw [if_pos rfl]
  unfold F_Mo_setting_j97
  rw [let_i, if_neg (by decide)]
  unfold F_Mo_setting_j114
  rw [let_i, if_neg (by decide), let_i]
theorem RM.set1 (h : RM S0 S m g) (w : Int32) : ∃ S', F_Mo_setting_j43 m 1 w S = some (gc g 1, S') ∧ RM S0 S' m (pc g 1 w) := by
  have h1 := h.same (f := 5) (k := 0) (by decide) h.c5
  have h2 := h1.num (f := 6) (k := 1) (by decide) w
  have h3 := h2.same (f := 7) (k := 2) (by decide) h2.c7
  refine ⟨_, ?_, h3⟩
  unfold F_Mo_setting_j43 F_Mo_setting_j48
  rw [if_neg (by decide), if_neg (by decide), if_pos rfl, h.c6]
  unfold F_Mo_setting_j82
  rw [if_neg (by decide)]
  unfold F_Mo_setting_j97
  rw [let_i, if_pos rfl]
  unfold F_Mo_setting_j114
  rw [let_i, if_neg (by decide), let_i]
theorem RM.set2 (h : RM S0 S m g) (w : Int32) : ∃ S', F_Mo_setting_j43 m 2 w S = some (gc g 2, S') ∧ RM S0 S' m (pc g 2 w) := by
  have h1 := h.same (f := 5) (k := 0) (by decide) h.c5
  have h2 := h1.same (f := 6) (k := 1) (by decide) h1.c6
  have h3 := h2.num (f := 7) (k := 2) (by decide) w
  refine ⟨_, ?_, h3⟩
  unfold F_Mo_setting_j43 F_Mo_setting_j48
  rw [if_neg (by decide), if_neg (by decide), if_neg (by decide), h.c7]
  unfold F_Mo_setting_j82
  rw [if_neg (by decide)]
  unfold F_Mo_setting_j97
  rw [let_i, if_neg (by decide)]
  unfold F_Mo_setting_j114
  rw [let_i, if_pos rfl, let_i]
theorem set_no (v w : Int32) : F_Mo_setting_j47 m v w S = some (-1, S) := by
  unfold F_Mo_setting_j47 F_Mo_setting_j48
  rw [if_pos rfl]
theorem RM.setA (h : RM S0 S m g) (v w : Int32) : ∃ S', F_Mo_setting m v w S = some ((sSet g v w).1, S') ∧ RM S0 S' m (sSet g v w).2 := by
  unfold F_Mo_setting sSet
  by_cases v0 : v = 0
  · subst v0
    have n1 : ¬ ((0 : Int32) = 1 ∧ 1 ≤ w ∧ w ≤ 100) := fun z => absurd z.1 (by decide)
    have n2 : ¬ ((0 : Int32) = 2 ∧ 0 ≤ w ∧ w ≤ 5) := fun z => absurd z.1 (by decide)
    rw [if_pos rfl, isIn_or, Option.bind_some, if_neg n1, if_neg n2]
    by_cases hc : 1 ≤ w ∧ w ≤ 8
    · rw [if_neg (fun z => (out_iff w 1 8).mp z hc), if_neg (by decide), if_pos ⟨rfl, hc⟩]
      exact h.set0 w
    · rw [if_pos ((out_iff w 1 8).mpr hc), if_pos rfl, if_neg (fun z => hc z.2)]
      unfold F_Mo_setting_j14
      rw [if_neg (by decide)]
      unfold F_Mo_setting_j29
      rw [if_neg (by decide), set_no]
      exact ⟨S, rfl, h⟩
  · rw [if_neg v0, if_neg (fun z => v0 z.1)]
    unfold F_Mo_setting_j14
    by_cases v1 : v = 1
    · subst v1
      have n2 : ¬ ((1 : Int32) = 2 ∧ 0 ≤ w ∧ w ≤ 5) := fun z => absurd z.1 (by decide)
      rw [if_pos rfl, isIn_or, Option.bind_some, if_neg n2]
      by_cases hc : 1 ≤ w ∧ w ≤ 100
      · rw [if_neg (fun z => (out_iff w 1 100).mp z hc), if_neg (by decide), if_pos ⟨rfl, hc⟩]
        exact h.set1 w
      · rw [if_pos ((out_iff w 1 100).mpr hc), if_pos rfl, if_neg (fun z => hc z.2)]
        unfold F_Mo_setting_j29
        rw [if_neg (by decide), set_no]
        exact ⟨S, rfl, h⟩
    · rw [if_neg v1, if_neg (fun z => v1 z.1)]
      unfold F_Mo_setting_j29
      by_cases v2 : v = 2
      · subst v2
        rw [if_pos rfl, isIn_or, Option.bind_some]
        by_cases hc : 0 ≤ w ∧ w ≤ 5
        · rw [if_neg (fun z => (out_iff w 0 5).mp z hc), if_neg (by decide), if_pos ⟨rfl, hc⟩]
          exact h.set2 w
        · rw [if_pos ((out_iff w 0 5).mpr hc), if_pos rfl, if_neg (fun z => hc z.2), set_no]
          exact ⟨S, rfl, h⟩
      · rw [if_neg v2, if_neg (fun z => v2 z.1), set_no]
        exact ⟨S, rfl, h⟩
theorem PsM.push {f a b cap : Nat} {l : sPs} (h : PsM S m f a b cap l) (h1 : 0 < a) (h2 : a < b) (hl : l.length < cap) (k t : Int32) : PsM (fw_wi (fw_wi (fw_wi S (m + a) l.length k) (m + b) l.length t) m f (nI (l.length + 1))) m f a b cap (l ++ [(k, t)]) := by
  obtain ⟨c1, c2, c3, c4⟩ := h
  have d3 := c3.push k
  have d4 := (c4.wi (b := m + a) (k := l.length) (v := k) (Or.inl (by omega))).push t
  rw [List.length_map, Nat.zero_add] at d3 d4
  refine ⟨by rw [g_s]; simp, by simp; omega, ?_, ?_⟩
  · rw [List.map_append]
    exact (d3.wi (Or.inl (by omega))).wi (Or.inl (by omega))
  · rw [List.map_append]
    exact d4.wi (Or.inl (by omega))
theorem RM.bindA (h : RM S0 S m g) (k t : Int32) : ∃ S', F_Mo_bind m k t S = some ((sBind g k t).1, S') ∧ RM S0 S' m (sBind g k t).2 := by
  have hS := h.1
  have hB := h.2.2.2.2.1
  unfold F_Mo_bind sBind
  rw [isIn_or, Option.bind_some]
  by_cases hk : k < 0 ∨ 255 < k
  · rw [if_pos hk, if_pos hk, if_pos rfl]; exact ⟨S, rfl, h⟩
  · rw [if_neg hk, if_neg hk, if_neg (by decide), hB.1]
    have h20 := hB.2.1
    by_cases hl : (gb g).length = 20
    · rw [if_pos hl, if_pos (show nI (gb g).length = 20 by rw [hl]; rfl)]
      exact ⟨S, rfl, h⟩
    · rw [if_neg hl, if_neg (show ¬ nI (gb g).length = 20 from nI_ne (b := 20) hl (by omega) (by decide))]
      have e11 : fw_g (fw_wi S (m + 6) (gb g).length k) m 11 = nI (gb g).length := by rw [g_a (by omega)]; exact hB.1
      have e11' : fw_g (fw_wi (fw_wi S (m + 6) (gb g).length k) (m + 7) (gb g).length t) m 11 = nI (gb g).length := by rw [g_a (by omega)]; exact e11
      rw [hS.o12, hS.l6, if_neg (nI_in (by omega) (by omega)), nI_clamp (n := (gb g).length) (by omega), let_i, om_wi, hS.o13, e11, fw_l_wi, hS.l7, if_neg (nI_in (by omega) (by omega)), nI_clamp (n := (gb g).length) (by omega), let_i, e11', let_i, nI_1, g_s]
      exact ⟨_, rfl, h.bnd ((df.wi (Or.inr (Or.inl rfl))).tr ((df.wi (Or.inr (Or.inr rfl))).tr (df.wi (Or.inl ⟨rfl, rfl⟩)))) (hB.push (by omega) (by omega) (by omega) k t)⟩
theorem RM.factA (h : RM S0 S m g) (k t : Int32) : ∃ S', F_Mo_fact m k t S = some ((sFact g k t).1, S') ∧ RM S0 S' m (sFact g k t).2 := by
  have hS := h.1
  have hB := h.2.2.2.2.2.1
  unfold F_Mo_fact sFact
  rw [isIn_or, Option.bind_some]
  by_cases hk : k < 0 ∨ 255 < k
  · rw [if_pos hk, if_pos hk, if_pos rfl]; exact ⟨S, rfl, h⟩
  · rw [if_neg hk, if_neg hk, if_neg (by decide), isIn_or, Option.bind_some]
    by_cases ht : t < 0 ∨ 255 < t
    · rw [if_pos ht, if_pos ht, if_pos rfl]; exact ⟨S, rfl, h⟩
    · rw [if_neg ht, if_neg ht, if_neg (by decide), hB.1]
      have h60 := hB.2.1
      by_cases hl : (gf g).length = 60
      · rw [if_pos hl, if_pos (show nI (gf g).length = 60 by rw [hl]; rfl)]
        exact ⟨S, rfl, h⟩
      · rw [if_neg hl, if_neg (show ¬ nI (gf g).length = 60 from nI_ne (b := 60) hl (by omega) (by decide))]
        have e11 : fw_g (fw_wi S (m + 31) (gf g).length k) m 38 = nI (gf g).length := by rw [g_a (by omega)]; exact hB.1
        have e11' : fw_g (fw_wi (fw_wi S (m + 31) (gf g).length k) (m + 32) (gf g).length t) m 38 = nI (gf g).length := by rw [g_a (by omega)]; exact e11
        rw [hS.o39, hS.l31, if_neg (nI_in (by omega) (by omega)), nI_clamp (n := (gf g).length) (by omega), let_i, om_wi, hS.o40, e11, fw_l_wi, hS.l32, if_neg (nI_in (by omega) (by omega)), nI_clamp (n := (gf g).length) (by omega), let_i, e11', let_i, nI_1, g_s]
        exact ⟨_, rfl, h.fac ((df.wi (Or.inr (Or.inl rfl))).tr ((df.wi (Or.inr (Or.inr rfl))).tr (df.wi (Or.inl ⟨rfl, rfl⟩)))) (hB.push (by omega) (by omega) (by omega) k t)⟩
end MT
