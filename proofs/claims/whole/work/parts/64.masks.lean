/-! The reference: a new request. -/
def KyM (S : fw_S) (m n : Nat) (K : List Int32) : Prop := fw_g S (m + 15) n = nI K.length ∧ Ar S (m + 16) (20 * n) K
def cC (m n a k : Nat) : Prop := (a = m + 15 ∧ k = n) ∨ ((a = m + 13 ∨ a = m + 14 ∨ a = m + 16) ∧ 20 * n ≤ k ∧ k < 20 * n + 20)
section MY
variable {S0 S S' : fw_S} {m n : Nat} {g : sG} {K : List Int32} {B : sPs} {T : Nat}
theorem KyM.addL (hS : ShM S m) (h : KyM S m n K) (hn : n < 24) (hK : K.length < 20) (key : Int32) : ∀ (k c i : Nat), i + k = K.length → k < c → (∀ x ∈ K.take i, ¬ x = key) →
    ∃ S', F_Mo_addKey_l2 c m (nI n) key (nI i) S = some S' ∧ KyM S' m n (sKey K key) ∧ df S S' (fun a k => (a = m + 15 ∧ k = n) ∨ (a = m + 16 ∧ 20 * n ≤ k ∧ k < 20 * n + 20)) := by
  obtain ⟨h1, h2⟩ := h
  have hno : ¬ (nI n < 0 ∨ 24 ≤ n) := fun z => z.elim (fun z => nI_pos (by omega) z) (fun z => by omega)
  intro k
  induction k with
  | zero =>
    intro c i hi hc hx
    obtain ⟨c, rfl⟩ : ∃ c', c = c' + 1 := ⟨c - 1, by omega⟩
    rw [List.take_of_length_le (by omega)] at hx
    have hkey : sKey K key = K ++ [key] := by
      unfold sKey
      rw [if_neg (fun z => hx key z rfl)]
    rw [F_Mo_addKey_l2, hS.o22, hS.l15, if_neg (nI_in (by omega) (by omega)), nI_clamp (n := n) (by omega), h1, if_pos (nI_le (by omega) (by omega))]
    unfold F_Mo_addKey_j34
    have e15 : fw_g (fw_wi S (m + 16) (20 * n + K.length) key) (m + 15) n = nI K.length := by rw [g_a (by omega)]; exact h1
    rw [hS.o23, hS.o22, hS.l15, if_neg (nI_in (by omega) (by omega)), nI_clamp (n := n) (by omega), h1, m20, nI_add, hS.l16, if_neg (nI_in (by omega) (by omega)), nI_clamp (n := 20 * n + K.length) (by omega), let_i, om_wi, hS.o22, fw_l_wi, hS.l15, if_neg hno, if_neg hno, e15, nI_1, let_i]
    refine ⟨_, rfl, ⟨?_, ?_⟩, (df.wi (Or.inr ⟨rfl, by omega, by omega⟩)).tr (df.wi (Or.inl ⟨rfl, rfl⟩))⟩
    · rw [g_s, hkey]; simp
    · rw [hkey]
      exact (h2.push key).wi (Or.inl (by omega))
  | succ k ih =>
    intro c i hi hc hx
    obtain ⟨c, rfl⟩ : ∃ c', c = c' + 1 := ⟨c - 1, by omega⟩
    have hil : i < K.length := by omega
    have e16 := h2.get hil
    rw [F_Mo_addKey_l2, hS.o22, hS.l15, if_neg (nI_in (by omega) (by omega)), nI_clamp (n := n) (by omega), h1, if_neg (nI_ge (by omega) (by omega)), hS.o23, m20, nI_add, hS.l16, if_neg (nI_in (by omega) (by omega)), nI_clamp (n := 20 * n + i) (by omega), e16]
    by_cases he : K[i] = key
    · have hkey : sKey K key = K := by
        unfold sKey
        rw [if_pos (by rw [← he]; exact List.getElem_mem hil)]
      rw [if_pos he, hkey]
      exact ⟨S, rfl, ⟨h1, h2⟩, df.rf⟩
    · rw [if_neg he, nI_1]
      refine ih c (i + 1) (by omega) (by omega) (fun x hx' => ?_)
      rw [List.take_succ_eq_append_getElem hil] at hx'
      rcases List.mem_append.mp hx' with q | q
      · exact hx x q
      · rw [List.mem_singleton.mp q]; exact he
theorem KyM.add (hS : ShM S m) (h : KyM S m n K) (hn : n < 24) (hK : K.length < 20) (key : Int32) : ∃ S', F_Mo_addKey m (nI n) key S = some S' ∧ KyM S' m n (sKey K key) ∧ df S S' (fun a k => (a = m + 15 ∧ k = n) ∨ (a = m + 16 ∧ 20 * n ≤ k ∧ k < 20 * n + 20)) := by
  have := KyM.addL hS h hn hK key K.length 4096 0 (by omega) (by omega) (fun x hx => by simp at hx)
  unfold F_Mo_addKey
  rw [show (0 : Int32) = nI 0 from rfl]
  exact this
theorem askC (hn : n < 24) : ∀ (k c j : Nat) (S : fw_S), ShM S m → PsM S m 11 6 7 20 B → Ar S (m + 13) (20 * n) ((B.take j).map (fun x => x.1)) → Ar S (m + 14) (20 * n) ((B.take j).map (fun x => x.2)) → KyM S m n (sKeys (B.take j)) → j + k = B.length → k < c →
    ∃ S', F_Mo_ask_l75 c m (nI n) (nI j) S = F_Mo_ask_j140 m (nI n) S' ∧ Ar S' (m + 13) (20 * n) (B.map (fun x => x.1)) ∧ Ar S' (m + 14) (20 * n) (B.map (fun x => x.2)) ∧ KyM S' m n (sKeys B) ∧ df S S' (cC m n) := by
  intro k
  induction k with
  | zero =>
    intro c j S hS hB h1 h2 hK hj hc
    obtain ⟨c, rfl⟩ : ∃ c', c = c' + 1 := ⟨c - 1, by omega⟩
    have h20 := hB.2.1
    rw [List.take_of_length_le (by omega)] at h1 h2 hK
    rw [F_Mo_ask_l75, hB.1, if_pos (nI_le (by omega) (by omega))]
    exact ⟨S, rfl, h1, h2, hK, df.rf⟩
  | succ k ih =>
    intro c j S hS hB h1 h2 hK hj hc
    obtain ⟨c, rfl⟩ : ∃ c', c = c' + 1 := ⟨c - 1, by omega⟩
    have h20 := hB.2.1
    have hjl : j < B.length := by omega
    obtain ⟨e6, e7⟩ := hB.at hjl
    rw [F_Mo_ask_l75, hB.1, if_neg (nI_ge (by omega) (by omega))]
    simp (disch := omega) only [↓reduceIte, ↓om_wi, ↓let_i, ↓hS.o20, ↓hS.o12, ↓hS.o21, ↓hS.o13, hS.l13, hS.l14, hS.l6, hS.l7, fw_l_wi, pF, lF, or_self, nI_clamp, m20, nI_add, e6, e7, g_a, nI_1]
    obtain ⟨U, hU⟩ : ∃ U, U = fw_wi (fw_wi S (m + 13) (20 * n + j) B[j].1) (m + 14) (20 * n + j) B[j].2 := ⟨_, rfl⟩
    rw [← hU]
    have hd : df S U (fun a k => (a = m + 13 ∨ a = m + 14) ∧ 20 * n ≤ k ∧ k < 20 * n + 20) := by
      rw [hU]
      exact (df.wi ⟨Or.inl rfl, by omega, by omega⟩).tr (df.wi ⟨Or.inr rfl, by omega, by omega⟩)
    have hSU := hS.keep hd.1
    have hKU : KyM U m n (sKeys (B.take j)) := ⟨by rw [hd.2 _ _ (fun z => by omega)]; exact hK.1, hK.2.keep (fun k _ _ => hd.2 _ _ (fun z => by omega))⟩
    have hle := sKeys_le B j
    obtain ⟨V, p1, q1, d1⟩ := hKU.add hSU hn (by omega) B[j].1
    rw [p1, Option.bind_some]
    rw [← sKeys_take hjl] at q1
    have hA1 : Ar U (m + 13) (20 * n) ((B.take (j + 1)).map (fun x => x.1)) := by
      have := h1.push B[j].1
      rw [List.length_map, List.length_take, Nat.min_eq_left (by omega)] at this
      rw [hU, List.take_succ_eq_append_getElem hjl, List.map_append]
      exact this.wi (Or.inl (by omega))
    have hA2 : Ar U (m + 14) (20 * n) ((B.take (j + 1)).map (fun x => x.2)) := by
      have := (h2.wi (b := m + 13) (k := 20 * n + j) (v := B[j].1) (Or.inl (by omega))).push B[j].2
      rw [List.length_map, List.length_take, Nat.min_eq_left (by omega)] at this
      rw [hU, List.take_succ_eq_append_getElem hjl, List.map_append]
      exact this
    have hBV : PsM V m 11 6 7 20 B := (hB.keep (hd.2 _ _ (fun z => by omega)) (fun k => hd.2 _ _ (fun z => by omega)) (fun k => hd.2 _ _ (fun z => by omega))).keep (d1.2 _ _ (fun z => by omega)) (fun k => d1.2 _ _ (fun z => by omega)) (fun k => d1.2 _ _ (fun z => by omega))
    obtain ⟨W, p2, w1, w2, w3, d2⟩ := ih c (j + 1) V (hSU.keep d1.1) hBV (hA1.keep (fun k _ _ => d1.2 _ _ (fun z => by omega))) (hA2.keep (fun k _ _ => d1.2 _ _ (fun z => by omega))) q1 (by omega) (by omega)
    exact ⟨W, p2, w1, w2, w3, (hd.up (fun a k z => by simp only [cC]; omega)).tr ((d1.up (fun a k z => by simp only [cC]; omega)).tr d2)⟩
theorem RM.push (h : RM S0 S m g) (hn : gn g < 24) {d : sR} (hd : df S S' (fun a k => (a = m ∧ (k = 14 ∨ k = 11)) ∨ cQ m (gn g) a k)) (h14 : fw_g S' m 14 = nI (gn g + 1)) (h11 : fw_g S' m 11 = 0) (hl : RqM S' m (gn g) d) : RM S0 S' m (sPush g d) := by
  obtain ⟨h1, h2, h3, ⟨n1, n2, n3, n4⟩, h5, h6, h7, h8, h9⟩ := h
  refine ⟨h1.keep hd.1, h2.keep (fun a k q => hd.2 a k (fun z => by simp only [cL, cQ, cS, cN, cB, cF, cM, cE, cK] at *; omega)), fun j hj => (h3 j hj).keep (fun a k q => hd.2 a k (fun z => by simp only [cL, cQ, cS, cN, cB, cF, cM, cE, cK] at *; omega)), ⟨h14, hn, fun s hs => ?_, fun s q1 q2 => (n4 s (by have q1' : gn g + 1 ≤ s := q1; omega) q2).keep (fun a k q => hd.2 a k (fun z => by have q1' : gn g + 1 ≤ s := q1; simp only [cL, cQ, cS, cN, cB, cF, cM, cE, cK] at *; omega))⟩, ⟨h11, by show (0 : Nat) ≤ 20; omega, Ar.nil, Ar.nil⟩, h6.keep (hd.2 _ _ (fun z => by simp only [cL, cQ, cS, cN, cB, cF, cM, cE, cK] at *; omega)) (fun k => hd.2 _ _ (fun z => by simp only [cL, cQ, cS, cN, cB, cF, cM, cE, cK] at *; omega)) (fun k => hd.2 _ _ (fun z => by simp only [cL, cQ, cS, cN, cB, cF, cM, cE, cK] at *; omega)), h7.keep (fun a k q => hd.2 a k (fun z => by simp only [cL, cQ, cS, cN, cB, cF, cM, cE, cK] at *; omega)), fun i hi => ?_, h9.step hd (fun a k q => by simp only [cL, cQ, cS, cN, cB, cF, cM, cE, cK] at *; omega)⟩
  · show RqM S' m s (va_up (gq g) (gn g) d s)
    by_cases hc : s = gn g
    · subst hc; rw [va_up_self]; exact hl
    · rw [va_up_ne _ _ hc]
      have hs' : s < gn g + 1 := hs
      exact (n3 s (by omega)).keep (fun a k q => hd.2 a k (fun z => by simp only [cL, cQ, cS, cN, cB, cF, cM, cE, cK] at *; omega))
  · rw [hd.2 _ _ (fun z => by simp only [cL, cQ, cS, cN, cB, cF, cM, cE, cK] at *; omega), hd.2 _ _ (fun z => by simp only [cL, cQ, cS, cN, cB, cF, cM, cE, cK] at *; omega)]
    exact h8 i hi
/-- the new request's frame is the one that the rules ask for -/
theorem newEq {v s bulk : Int32} {n X : Nat} : va_up (va_up (va_up (va_up (va_up (sF0 v s bulk) 11 0) 21 (nI n)) 6 (nI X)) 8 0) 20 1 = va_up (va_up (sNext (sF0 v s bulk) 1 n) 6 (nI X)) 8 0 := by
  funext j
  unfold sNext
  by_cases h20 : j = 20
  · subst h20
    rw [va_up_self, va_up_ne _ _ (by decide), va_up_ne _ _ (by decide), va_up_ne _ _ (by decide), va_up_self]
  · rw [va_up_ne _ _ h20]
    by_cases h8 : j = 8
    · subst h8; rw [va_up_self, va_up_self]
    · rw [va_up_ne _ _ h8, va_up_ne _ _ h8]
      by_cases h6 : j = 6
      · subst h6; rw [va_up_self, va_up_self]
      · rw [va_up_ne _ _ h6, va_up_ne _ _ h6]
        by_cases h21 : j = 21
        · subst h21; rw [va_up_self, va_up_self]
        · rw [va_up_ne _ _ h21, va_up_ne _ _ h21, va_up_ne _ _ h20]
          by_cases h11 : j = 11
          · subst h11
            rw [va_up_self, va_up_self]
            show (0 : Int32) = ((-1 : Int32) + 1) &&& 255
            decide
          · rw [va_up_ne _ _ h11, va_up_ne _ _ h11]
theorem RM.askA (h : RM S0 S m g) (hok : okG g) (v s : Int32) (hs : s = 0 ∨ s = 1) : ∃ S', F_Mo_ask m v s S = some ((sAsk g v s).1, S') ∧ RM S0 S' m (sAsk g v s).2 := by
  have hS := h.1
  have h24 := h.n24
  have h14 : fw_g S m 14 = nI (gn g) := h.2.2.2.1.1
  unfold F_Mo_ask sAsk
  have e := isIn_0 v (k := 3) (by decide) S
  rw [show nI 3 = (3 : Int32) from rfl] at e
  rw [e, Option.bind_some]
  by_cases hv : v < 0 ∨ nI 4 ≤ v
  · rw [if_pos hv, if_pos hv, if_pos rfl]; exact ⟨S, rfl, h⟩
  · rw [if_neg hv, if_neg hv, if_neg (by decide), h14]
    by_cases hn : gn g = 24
    · rw [if_pos hn, if_pos (show nI (gn g) = 24 by rw [hn]; rfl)]
      exact ⟨S, rfl, h⟩
    · rw [if_neg hn, if_neg (show ¬ nI (gn g) = 24 from nI_ne (b := 24) hn (by omega) (by decide))]
      obtain ⟨i, hi, rfl, hh⟩ := rng (by decide) hv
      obtain ⟨⟨bu, hb1, hb8, hbe⟩, -, -, -, -, -, ⟨hgb20, hgb8⟩, -⟩ := id hok
      have hB := h.2.2.2.2.1
      obtain ⟨n, hgn⟩ : ∃ n, gn g = n := ⟨_, rfl⟩
      have hn24 : n < 24 := by omega
      have hno : ¬ (nI n < 0 ∨ 24 ≤ n) := fun z => z.elim (fun z => nI_pos (by omega) z) (fun z => by omega)
      have hZ := h.2.2.2.1.2.2.2 n (by omega) hn24
      have c5 : fw_g S m 5 = gc g 0 := h.c5
      have c11 : fw_g S m 11 = nI (gb g).length := hB.1
      obtain ⟨U, hU⟩ : ∃ U, U = fw_wi (fw_wi (fw_wi (fw_wi (fw_wi S m 14 (nI (n + 1))) (m + 8) n (nI i)) (m + 9) n s) (m + 17) n (gc g 0)) (m + 12) n (nI (gb g).length) := ⟨_, rfl⟩
      have hdU : df S U (fun a k => (a = m ∧ (k = 14 ∨ k = 11)) ∨ ((a = m + 8 ∨ a = m + 9 ∨ a = m + 17 ∨ a = m + 12) ∧ k = n)) := by
        rw [hU]
        exact (df.wi (Or.inl ⟨rfl, Or.inl rfl⟩)).tr ((df.wi (Or.inr ⟨Or.inl rfl, rfl⟩)).tr ((df.wi (Or.inr ⟨Or.inr (Or.inl rfl), rfl⟩)).tr ((df.wi (Or.inr ⟨Or.inr (Or.inr (Or.inl rfl)), rfl⟩)).tr (df.wi (Or.inr ⟨Or.inr (Or.inr (Or.inr rfl)), rfl⟩)))))
      have u14 : fw_g U m 14 = nI (n + 1) := by rw [hU, g_a (by omega), g_a (by omega), g_a (by omega), g_a (by omega), g_s]
      have u11 : fw_g U m 11 = nI (gb g).length := by rw [hU, g_a (by omega), g_a (by omega), g_a (by omega), g_a (by omega), g_k (by omega)]; exact c11
      have u8 : fw_g U (m + 8) n = nI i := by rw [hU, g_a (by omega), g_a (by omega), g_a (by omega), g_s]
      have u9 : fw_g U (m + 9) n = s := by rw [hU, g_a (by omega), g_a (by omega), g_s]
      have u17 : fw_g U (m + 17) n = gc g 0 := by rw [hU, g_a (by omega), g_s]
      have u12 : fw_g U (m + 12) n = nI (gb g).length := by rw [hU, g_s]
      have uz : ∀ a, 8 ≤ a → a ≤ 27 → a ≠ 13 → a ≠ 14 → a ≠ 16 → a ≠ 20 → a ≠ 21 → a ≠ 8 → a ≠ 9 → a ≠ 17 → a ≠ 12 → fw_g U (m + a) n = 0 := fun a q1 q2 q3 q4 q5 q6 q7 q8 q9 q10 q11 => by
        rw [hdU.2 _ _ (fun z => by omega)]
        exact hZ a q1 q2 q3 q4 q5 q6 q7
      have hBU : PsM U m 11 6 7 20 (gb g) := ⟨u11, hB.2.1, hB.2.2.1.keep (fun k _ _ => hdU.2 _ _ (fun z => by omega)), hB.2.2.2.keep (fun k _ _ => hdU.2 _ _ (fun z => by omega))⟩
      obtain ⟨V, p1, v1, v2, v3, dV⟩ := askC (m := m) (n := n) (B := gb g) hn24 (gb g).length 4096 0 U (hS.keep hdU.1) hBU (by rw [List.take_zero]; exact Ar.nil) (by rw [List.take_zero]; exact Ar.nil) (by rw [List.take_zero]; exact ⟨by rw [uz 15 (by omega) (by omega) (by omega) (by omega) (by omega) (by omega) (by omega) (by omega) (by omega) (by omega) (by omega)]; rfl, Ar.nil⟩) (by omega) (by omega)
      have e5 : fw_g (fw_wi (fw_wi (fw_wi S m 14 (nI (n + 1))) (m + 8) n (nI i)) (m + 9) n s) m 5 = gc g 0 := by rw [g_a (by omega), g_a (by omega), g_k (by omega)]; exact c5
      have e11 : fw_g (fw_wi (fw_wi (fw_wi (fw_wi S m 14 (nI (n + 1))) (m + 8) n (nI i)) (m + 9) n s) (m + 17) n (gc g 0)) m 11 = nI (gb g).length := by rw [g_a (by omega), g_a (by omega), g_a (by omega), g_k (by omega)]; exact c11
      rw [hgn, let_i, let_i, nI_1, om_wi, hS.o15, fw_l_wi, hS.l8, nI_clamp (n := n) (by omega), if_neg hno, let_i, om_wi, om_wi, hS.o16, if_pos hs, fw_l_wi, fw_l_wi, hS.l9, if_neg hno, let_i, om_wi, om_wi, om_wi, hS.o24, fw_l_wi, fw_l_wi, fw_l_wi, hS.l17, if_neg hno, e5, let_i, om_wi, om_wi, om_wi, om_wi, hS.o19, fw_l_wi, fw_l_wi, fw_l_wi, fw_l_wi, hS.l12, if_neg hno, e11, let_i, ← hU, show (0 : Int32) = nI 0 from rfl, p1, show nI 0 = (0 : Int32) from rfl]
      -- the request stands
      have hSV : ShM V m := (hS.keep hdU.1).keep dV.1
      have kV : ∀ a, (¬ ∃ k, cC m n (m + a) k ∧ k = n ∧ (a = 15 ∨ a = 13 ∨ a = 14 ∨ a = 16)) → a ≠ 15 → a ≠ 13 → a ≠ 14 → a ≠ 16 → fw_g V (m + a) n = fw_g U (m + a) n := fun a _ q1 q2 q3 q4 => dV.2 _ _ (fun z => by simp only [cC] at z; omega)
      have kV' : ∀ a, a ≠ 15 → a ≠ 13 → a ≠ 14 → a ≠ 16 → fw_g (fw_wi V m 11 0) (m + a) n = if a = 0 then fw_g (fw_wi V m 11 0) m n else fw_g U (m + a) n := fun a q1 q2 q3 q4 => by
        by_cases ha : a = 0
        · subst ha; rw [if_pos rfl, Nat.add_zero]
        · rw [if_neg ha, g_a (by omega)]
          exact dV.2 _ _ (fun z => by simp only [cC] at z; omega)
      have hq : RqM (fw_wi V m 11 0) m n (va_up (sF0 (nI i) s (gc g 0)) 11 0, gb g, sKeys (gb g), [], []) := by
        have z0 : ∀ a, 8 ≤ a → a ≤ 27 → a ≠ 13 → a ≠ 14 → a ≠ 16 → a ≠ 20 → a ≠ 21 → a ≠ 8 → a ≠ 9 → a ≠ 17 → a ≠ 12 → a ≠ 15 → fw_g (fw_wi V m 11 0) (m + a) n = 0 := fun a q1 q2 q3 q4 q5 q6 q7 q8 q9 q10 q11 q12 => by
          rw [kV' a q12 q3 q4 q5, if_neg (by omega)]
          exact uz a q1 q2 q3 q4 q5 q6 q7 q8 q9 q10 q11
        refine ⟨?_, ⟨?_, ?_, ?_, ?_⟩, ⟨v1.wi (Or.inl (by omega)), v2.wi (Or.inl (by omega)), v3.2.wi (Or.inl (by omega)), Ar.nil, Ar.nil, Ar.nil⟩, hgb20, ?_, by show (0 : Nat) ≤ 60; omega, by show (0 : Nat) ≤ 20; omega⟩
        · intro p hp
          simp only [mqK, List.mem_cons, List.not_mem_nil, or_false] at hp
          rcases hp with rfl | rfl | rfl | rfl | rfl | rfl | rfl | rfl | rfl | rfl | rfl
          · exact (kV' 8 (by omega) (by omega) (by omega) (by omega)).trans u8
          · exact (kV' 9 (by omega) (by omega) (by omega) (by omega)).trans u9
          · exact z0 10 (by omega) (by omega) (by omega) (by omega) (by omega) (by omega) (by omega) (by omega) (by omega) (by omega) (by omega) (by omega)
          · exact z0 11 (by omega) (by omega) (by omega) (by omega) (by omega) (by omega) (by omega) (by omega) (by omega) (by omega) (by omega) (by omega)
          · exact (kV' 17 (by omega) (by omega) (by omega) (by omega)).trans u17
          · exact z0 18 (by omega) (by omega) (by omega) (by omega) (by omega) (by omega) (by omega) (by omega) (by omega) (by omega) (by omega) (by omega)
          · exact z0 22 (by omega) (by omega) (by omega) (by omega) (by omega) (by omega) (by omega) (by omega) (by omega) (by omega) (by omega) (by omega)
          · exact z0 23 (by omega) (by omega) (by omega) (by omega) (by omega) (by omega) (by omega) (by omega) (by omega) (by omega) (by omega) (by omega)
          · exact z0 24 (by omega) (by omega) (by omega) (by omega) (by omega) (by omega) (by omega) (by omega) (by omega) (by omega) (by omega) (by omega)
          · exact z0 25 (by omega) (by omega) (by omega) (by omega) (by omega) (by omega) (by omega) (by omega) (by omega) (by omega) (by omega) (by omega)
          · exact z0 26 (by omega) (by omega) (by omega) (by omega) (by omega) (by omega) (by omega) (by omega) (by omega) (by omega) (by omega) (by omega)
        · exact (kV' 12 (by omega) (by omega) (by omega) (by omega)).trans u12
        · rw [g_a (by omega)]; exact v3.1
        · exact z0 19 (by omega) (by omega) (by omega) (by omega) (by omega) (by omega) (by omega) (by omega) (by omega) (by omega) (by omega) (by omega)
        · exact z0 27 (by omega) (by omega) (by omega) (by omega) (by omega) (by omega) (by omega) (by omega) (by omega) (by omega) (by omega) (by omega)
        · have := sKeys_le (gb g) (gb g).length
          rw [List.take_length] at this
          show (sKeys (gb g)).length ≤ 20
          omega
      have hdV : df S (fw_wi V m 11 0) (fun a k => (a = m ∧ (k = 14 ∨ k = 11)) ∨ cQ m (gn g) a k) := by
        rw [hgn]
        exact (hdU.up (fun a k z => by simp only [cQ]; omega)).tr ((dV.up (fun a k z => by simp only [cC] at z; simp only [cQ]; omega)).tr (df.wi (Or.inl ⟨rfl, Or.inr rfl⟩)))
      have hP : RM S0 (fw_wi V m 11 0) m (sPush g (va_up (sF0 (nI i) s (gc g 0)) 11 0, gb g, sKeys (gb g), [], [])) := h.push (by omega) hdV (by rw [g_k (by omega), dV.2 _ _ (fun z => by simp only [cC] at z; omega), u14, hgn]) g_s (by rw [hgn]; exact hq)
      have hKl : (sKeys (gb g)).length ≤ 20 := hq.2.2.2.2.1
      have e15 : fw_g (fw_wi V m 11 0) (m + 15) n = nI (sKeys (gb g)).length := by rw [g_a (by omega)]; exact v3.1
      obtain ⟨W, hW⟩ : ∃ W, fw_wi V m 11 0 = W := ⟨_, rfl⟩
      unfold F_Mo_ask_j140
      rw [let_i]
      rw [hW] at hP e15 ⊢
      have hSW := hP.1
      have hrP : n < gn (sPush g (va_up (sF0 (nI i) s (gc g 0)) 11 0, gb g, sKeys (gb g), [], [])) := by rw [gn_push]; omega
      have hgqP : gq (sPush g (va_up (sF0 (nI i) s (gc g 0)) 11 0, gb g, sKeys (gb g), [], [])) n = (va_up (sF0 (nI i) s (gc g 0)) 11 0, gb g, sKeys (gb g), [], []) := by
        have := gq_push g (va_up (sF0 (nI i) s (gc g 0)) 11 0, gb g, sKeys (gb g), [], [])
        rw [hgn] at this
        exact this
      have hpp : ∀ d', pq (sPush g (va_up (sF0 (nI i) s (gc g 0)) 11 0, gb g, sKeys (gb g), [], [])) n d' = sPush g d' := fun d' => by
        have := pq_push g (va_up (sF0 (nI i) s (gc g 0)) 11 0, gb g, sKeys (gb g), [], []) d'
        rw [hgn] at this
        exact this
      rw [hSW.o22, hSW.l15, nI_clamp (n := n) (by omega), if_neg hno, e15]
      by_cases hk : sKeys (gb g) = []
      · have h1 := hP.rsc hrP (a := 10) (k := 14) (by decide) 1
        have h2 := h1.rsc hrP (a := 23) (k := 11) (by decide) (-1)
        rw [gq_pq, pq_pq, hgqP, hpp] at h2
        rw [if_pos hk, if_pos (by rw [hk]; rfl), hSW.o17, hSW.l10, if_neg hno, let_i, om_wi, hSW.o30, fw_l_wi, hSW.l23, if_neg hno, let_i]
        refine ⟨_, rfl, ?_⟩
        have eF : va_up (va_up (va_up (sF0 (nI i) s (gc g 0)) 11 0) 14 1) 11 (-1) = va_up (sF0 (nI i) s (gc g 0)) 14 1 := by
          funext j
          by_cases h11 : j = 11
          · subst h11
            rw [va_up_self, va_up_ne _ _ (by decide)]
            rfl
          · rw [va_up_ne _ _ h11]
            by_cases h14 : j = 14
            · subst h14; rw [va_up_self, va_up_self]
            · rw [va_up_ne _ _ h14, va_up_ne _ _ h14, va_up_ne _ _ h11]
        simp only [eF] at h2
        exact h2
      · have hlen : 0 < (sKeys (gb g)).length := List.length_pos_iff.mpr hk
        rw [if_neg hk, if_neg (show ¬ nI (sKeys (gb g)).length = 0 from nI_ne (b := 0) (by omega) (by omega) (by decide))]
        have h1 := hP.n21 hrP (nI n)
        rw [hgqP, hpp] at h1
        obtain ⟨g1, hg1⟩ : ∃ g1, sPush g (va_up (va_up (sF0 (nI i) s (gc g 0)) 11 0) 21 (nI n), gb g, sKeys (gb g), [], []) = g1 := ⟨_, rfl⟩
        have hq1 : gq g1 n = (va_up (va_up (sF0 (nI i) s (gc g 0)) 11 0) 21 (nI n), gb g, sKeys (gb g), [], []) := by
          rw [← hg1, ← hgn]
          exact gq_push _ _
        have hpq1 : ∀ d', pq g1 n d' = sPush g d' := fun d' => by
          rw [← hg1, ← hgn]
          exact pq_push _ _ _
        have hr1 : n < gn g1 := by rw [← hg1, gn_push]; omega
        have h1' : RM S0 W m g1 := by rw [← hg1]; exact h1
        obtain ⟨S4, p4, h4⟩ := h1'.askPart hr1 (by rw [hq1]; exact sKeys_b8 hgb8) (a := 0) (b := bu) (i := i) (by rw [hq1]; show va_up (va_up (sF0 (nI i) s (gc g 0)) 11 0) 21 (nI n) 6 = nI 0; rw [va_up_ne _ _ (by decide), va_up_ne _ _ (by decide)]; rfl) (Nat.zero_le _) (by rw [hq1]; show va_up (va_up (sF0 (nI i) s (gc g 0)) 11 0) 21 (nI n) 2 = nI bu; rw [va_up_ne _ _ (by decide), va_up_ne _ _ (by decide)]; exact hbe) hb8 (by omega) (by rw [hq1]; show va_up (va_up (sF0 (nI i) s (gc g 0)) 11 0) 21 (nI n) 0 = nI i; rw [va_up_ne _ _ (by decide), va_up_ne _ _ (by decide)]; rfl)
        rw [p4, Option.bind_some]
        refine ⟨S4, rfl, ?_⟩
        rw [hq1, hpq1] at h4
        have e6 : hN (sF0 (nI i) s (gc g 0) 6) = 0 := by
          have : sF0 (nI i) s (gc g 0) 6 = nI 0 := rfl
          rw [this]; exact nI_clamp (by omega)
        have e2 : hN (sF0 (nI i) s (gc g 0) 2) = bu := by
          have : sF0 (nI i) s (gc g 0) 2 = nI bu := hbe
          rw [this]; exact nI_clamp (by omega)
        have e11' : va_up (va_up (sF0 (nI i) s (gc g 0)) 11 0) 21 (nI n) 11 &&& 255 = sStep (sF0 (nI i) s (gc g 0)) := by
          rw [va_up_ne _ _ (by decide), va_up_self]
          have : sStep (sF0 (nI i) s (gc g 0)) = ((-1 : Int32) + 1) &&& 255 := rfl
          rw [this]
          decide
        have hfin : ((va_up (va_up (va_up (va_up (va_up (sF0 (nI i) s (gc g 0)) 11 0) 21 (nI n)) 6 (nI (min (0 + bu) (sKeys (gb g)).length))) 8 0) 20 1, gb g, sKeys (gb g), [], [va_up (va_up (sF0 (nI i) s (gc g 0)) 11 0) 21 (nI n) 11 &&& 255] ++ ((sKeys (gb g)).drop 0).take (min (0 + bu) (sKeys (gb g)).length - 0)) : sR) = sAskD (sNewD g (nI i) s) n := by
          unfold sAskD sAskF sAskE sNewD
          simp only
          rw [e6, e2, newEq, e11']
        simp only at h4
        rw [hfin] at h4
        exact h4
end MY
