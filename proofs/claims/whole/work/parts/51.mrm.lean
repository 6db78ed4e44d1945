/-! The reference: one part of it is changed. -/
section MR
variable {S0 S S' : fw_S} {m : Nat} {g : sG}
theorem RM.of (h : RM S0 S m g) {P : Nat → Nat → Prop} (hd : df S S' P) (hS : ∀ a k, P a k → ¬ cS m a k) (hL : ∀ i, i < 5 → ∀ a k, P a k → ¬ cL m i a k) (hN : ∀ a k, P a k → ¬ cN m a k) (hQ : ∀ r, r < 24 → ∀ a k, P a k → ¬ cQ m r a k) (hB : ∀ a k, P a k → ¬ cB m a k) (hF : ∀ a k, P a k → ¬ cF m a k) (hM : ∀ a k, P a k → ¬ cM m a k) (hE : ∀ a k, P a k → ¬ cE m a k) (hX : ∀ a k, P a k → m ≤ a ∧ a < m + 40) : RM S0 S' m g := by
  obtain ⟨h1, h2, h3, h4, h5, h6, h7, h8, h9⟩ := h
  refine ⟨h1.keep hd.1, h2.keep (fun a k q => hd.2 a k (fun z => hS a k z q)), fun i hi => (h3 i hi).keep (fun a k q => hd.2 a k (fun z => hL i hi a k z q)), h4.keep (hd.2 _ _ (fun z => hN _ _ z ⟨rfl, rfl⟩)) (fun r hr a k q => hd.2 a k (fun z => hQ r hr a k z q)), h5.keep (hd.2 _ _ (fun z => hB _ _ z (Or.inl ⟨rfl, rfl⟩))) (fun k => hd.2 _ _ (fun z => hB _ _ z (Or.inr (Or.inl rfl)))) (fun k => hd.2 _ _ (fun z => hB _ _ z (Or.inr (Or.inr rfl)))), h6.keep (hd.2 _ _ (fun z => hF _ _ z (Or.inl ⟨rfl, rfl⟩))) (fun k => hd.2 _ _ (fun z => hF _ _ z (Or.inr (Or.inl rfl)))) (fun k => hd.2 _ _ (fun z => hF _ _ z (Or.inr (Or.inr rfl)))), h7.keep (fun a k q => hd.2 a k (fun z => hM a k z q)), fun i hi => ?_, h9.step hd hX⟩
  rw [hd.2 _ _ (fun z => hE _ _ z (Or.inl rfl)), hd.2 _ _ (fun z => hE _ _ z (Or.inr rfl))]
  exact h8 i hi
theorem RM.mk (h : RM S0 S m g) (hd : df S S' (cK m)) : RM S0 S' m g := h.of hd (fun a k q z => by simp only [cL, cQ, cS, cN, cB, cF, cM, cE, cK] at *; omega) (fun i hi a k q z => by simp only [cL, cQ, cS, cN, cB, cF, cM, cE, cK] at *; omega) (fun a k q z => by simp only [cL, cQ, cS, cN, cB, cF, cM, cE, cK] at *; omega) (fun r hr a k q z => by simp only [cL, cQ, cS, cN, cB, cF, cM, cE, cK] at *; omega) (fun a k q z => by simp only [cL, cQ, cS, cN, cB, cF, cM, cE, cK] at *; omega) (fun a k q z => by simp only [cL, cQ, cS, cN, cB, cF, cM, cE, cK] at *; omega) (fun a k q z => by simp only [cL, cQ, cS, cN, cB, cF, cM, cE, cK] at *; omega) (fun a k q z => by simp only [cL, cQ, cS, cN, cB, cF, cM, cE, cK] at *; omega) (fun a k q => by simp only [cL, cQ, cS, cN, cB, cF, cM, cE, cK] at *; omega)
theorem RM.line (h : RM S0 S m g) {i : Nat} (hi : i < 5) {l : sL} (hd : df S S' (fun a k => cL m i a k ∨ cK m a k)) (hl : LnM S' m i l) : RM S0 S' m (pl g i l) := by
  obtain ⟨h1, h2, h3, h4, h5, h6, h7, h8, h9⟩ := h
  refine ⟨h1.keep hd.1, h2.keep (fun a k q => hd.2 a k (fun z => by simp only [cL, cQ, cS, cN, cB, cF, cM, cE, cK] at *; omega)), fun j hj => ?_, h4.keep (hd.2 _ _ (fun z => by simp only [cL, cQ, cS, cN, cB, cF, cM, cE, cK] at *; omega)) (fun r hr a k q => hd.2 a k (fun z => by simp only [cL, cQ, cS, cN, cB, cF, cM, cE, cK] at *; omega)), h5.keep (hd.2 _ _ (fun z => by simp only [cL, cQ, cS, cN, cB, cF, cM, cE, cK] at *; omega)) (fun k => hd.2 _ _ (fun z => by simp only [cL, cQ, cS, cN, cB, cF, cM, cE, cK] at *; omega)) (fun k => hd.2 _ _ (fun z => by simp only [cL, cQ, cS, cN, cB, cF, cM, cE, cK] at *; omega)), h6.keep (hd.2 _ _ (fun z => by simp only [cL, cQ, cS, cN, cB, cF, cM, cE, cK] at *; omega)) (fun k => hd.2 _ _ (fun z => by simp only [cL, cQ, cS, cN, cB, cF, cM, cE, cK] at *; omega)) (fun k => hd.2 _ _ (fun z => by simp only [cL, cQ, cS, cN, cB, cF, cM, cE, cK] at *; omega)), h7.keep (fun a k q => hd.2 a k (fun z => by simp only [cL, cQ, cS, cN, cB, cF, cM, cE, cK] at *; omega)), fun i hi => ?_, h9.step hd (fun a k q => by simp only [cL, cQ, cS, cN, cB, cF, cM, cE, cK] at *; omega)⟩
  · show LnM S' m j (va_up (gl g) i l j)
    by_cases hc : j = i
    · subst hc; rw [va_up_self]; exact hl
    · rw [va_up_ne _ _ hc]
      exact (h3 j hj).keep (fun a k q => hd.2 a k (fun z => by simp only [cL, cQ, cS, cN, cB, cF, cM, cE, cK] at *; omega))
  · rw [hd.2 _ _ (fun z => by simp only [cL, cQ, cS, cN, cB, cF, cM, cE, cK] at *; omega), hd.2 _ _ (fun z => by simp only [cL, cQ, cS, cN, cB, cF, cM, cE, cK] at *; omega)]
    exact h8 i hi
theorem RM.req (h : RM S0 S m g) {r : Nat} (hr : r < gn g) {d : sR} (hd : df S S' (fun a k => cQ m r a k ∨ cK m a k)) (hl : RqM S' m r d) : RM S0 S' m (pq g r d) := by
  obtain ⟨h1, h2, h3, ⟨n1, n2, n3, n4⟩, h5, h6, h7, h8, h9⟩ := h
  refine ⟨h1.keep hd.1, h2.keep (fun a k q => hd.2 a k (fun z => by simp only [cL, cQ, cS, cN, cB, cF, cM, cE, cK] at *; omega)), fun j hj => (h3 j hj).keep (fun a k q => hd.2 a k (fun z => by simp only [cL, cQ, cS, cN, cB, cF, cM, cE, cK] at *; omega)), ⟨by rw [hd.2 _ _ (fun z => by simp only [cL, cQ, cS, cN, cB, cF, cM, cE, cK] at *; omega)]; exact n1, n2, fun s hs => ?_, fun s q1 q2 => (n4 s q1 q2).keep (fun a k q => hd.2 a k (fun z => by have q1' : gn g ≤ s := q1; simp only [cL, cQ, cS, cN, cB, cF, cM, cE, cK] at *; omega))⟩, h5.keep (hd.2 _ _ (fun z => by simp only [cL, cQ, cS, cN, cB, cF, cM, cE, cK] at *; omega)) (fun k => hd.2 _ _ (fun z => by simp only [cL, cQ, cS, cN, cB, cF, cM, cE, cK] at *; omega)) (fun k => hd.2 _ _ (fun z => by simp only [cL, cQ, cS, cN, cB, cF, cM, cE, cK] at *; omega)), h6.keep (hd.2 _ _ (fun z => by simp only [cL, cQ, cS, cN, cB, cF, cM, cE, cK] at *; omega)) (fun k => hd.2 _ _ (fun z => by simp only [cL, cQ, cS, cN, cB, cF, cM, cE, cK] at *; omega)) (fun k => hd.2 _ _ (fun z => by simp only [cL, cQ, cS, cN, cB, cF, cM, cE, cK] at *; omega)), h7.keep (fun a k q => hd.2 a k (fun z => by simp only [cL, cQ, cS, cN, cB, cF, cM, cE, cK] at *; omega)), fun i hi => ?_, h9.step hd (fun a k q => by simp only [cL, cQ, cS, cN, cB, cF, cM, cE, cK] at *; omega)⟩
  · show RqM S' m s (va_up (gq g) r d s)
    by_cases hc : s = r
    · subst hc; rw [va_up_self]; exact hl
    · rw [va_up_ne _ _ hc]
      exact (n3 s hs).keep (fun a k q => hd.2 a k (fun z => by simp only [cL, cQ, cS, cN, cB, cF, cM, cE, cK] at *; omega))
  · rw [hd.2 _ _ (fun z => by simp only [cL, cQ, cS, cN, cB, cF, cM, cE, cK] at *; omega), hd.2 _ _ (fun z => by simp only [cL, cQ, cS, cN, cB, cF, cM, cE, cK] at *; omega)]
    exact h8 i hi
theorem RM.mem (h : RM S0 S m g) {ms : List sM} (hd : df S S' (cM m)) (hl : MsM S' m ms) : RM S0 S' m (pm g ms) := by
  obtain ⟨h1, h2, h3, h4, h5, h6, h7, h8, h9⟩ := h
  refine ⟨h1.keep hd.1, h2.keep (fun a k q => hd.2 a k (fun z => by simp only [cL, cQ, cS, cN, cB, cF, cM, cE, cK] at *; omega)), fun j hj => (h3 j hj).keep (fun a k q => hd.2 a k (fun z => by simp only [cL, cQ, cS, cN, cB, cF, cM, cE, cK] at *; omega)), h4.keep (hd.2 _ _ (fun z => by simp only [cL, cQ, cS, cN, cB, cF, cM, cE, cK] at *; omega)) (fun r hr a k q => hd.2 a k (fun z => by simp only [cL, cQ, cS, cN, cB, cF, cM, cE, cK] at *; omega)), h5.keep (hd.2 _ _ (fun z => by simp only [cL, cQ, cS, cN, cB, cF, cM, cE, cK] at *; omega)) (fun k => hd.2 _ _ (fun z => by simp only [cL, cQ, cS, cN, cB, cF, cM, cE, cK] at *; omega)) (fun k => hd.2 _ _ (fun z => by simp only [cL, cQ, cS, cN, cB, cF, cM, cE, cK] at *; omega)), h6.keep (hd.2 _ _ (fun z => by simp only [cL, cQ, cS, cN, cB, cF, cM, cE, cK] at *; omega)) (fun k => hd.2 _ _ (fun z => by simp only [cL, cQ, cS, cN, cB, cF, cM, cE, cK] at *; omega)) (fun k => hd.2 _ _ (fun z => by simp only [cL, cQ, cS, cN, cB, cF, cM, cE, cK] at *; omega)), hl, fun i hi => ?_, h9.step hd (fun a k q => by simp only [cL, cQ, cS, cN, cB, cF, cM, cE, cK] at *; omega)⟩
  rw [hd.2 _ _ (fun z => by simp only [cL, cQ, cS, cN, cB, cF, cM, cE, cK] at *; omega), hd.2 _ _ (fun z => by simp only [cL, cQ, cS, cN, cB, cF, cM, cE, cK] at *; omega)]
  exact h8 i hi
theorem RM.fac (h : RM S0 S m g) {l : sPs} (hd : df S S' (cF m)) (hl : PsM S' m 38 31 32 60 l) : RM S0 S' m (pf g l) := by
  obtain ⟨h1, h2, h3, h4, h5, h6, h7, h8, h9⟩ := h
  refine ⟨h1.keep hd.1, h2.keep (fun a k q => hd.2 a k (fun z => by simp only [cL, cQ, cS, cN, cB, cF, cM, cE, cK] at *; omega)), fun j hj => (h3 j hj).keep (fun a k q => hd.2 a k (fun z => by simp only [cL, cQ, cS, cN, cB, cF, cM, cE, cK] at *; omega)), h4.keep (hd.2 _ _ (fun z => by simp only [cL, cQ, cS, cN, cB, cF, cM, cE, cK] at *; omega)) (fun r hr a k q => hd.2 a k (fun z => by simp only [cL, cQ, cS, cN, cB, cF, cM, cE, cK] at *; omega)), h5.keep (hd.2 _ _ (fun z => by simp only [cL, cQ, cS, cN, cB, cF, cM, cE, cK] at *; omega)) (fun k => hd.2 _ _ (fun z => by simp only [cL, cQ, cS, cN, cB, cF, cM, cE, cK] at *; omega)) (fun k => hd.2 _ _ (fun z => by simp only [cL, cQ, cS, cN, cB, cF, cM, cE, cK] at *; omega)), hl, h7.keep (fun a k q => hd.2 a k (fun z => by simp only [cL, cQ, cS, cN, cB, cF, cM, cE, cK] at *; omega)), fun i hi => ?_, h9.step hd (fun a k q => by simp only [cL, cQ, cS, cN, cB, cF, cM, cE, cK] at *; omega)⟩
  rw [hd.2 _ _ (fun z => by simp only [cL, cQ, cS, cN, cB, cF, cM, cE, cK] at *; omega), hd.2 _ _ (fun z => by simp only [cL, cQ, cS, cN, cB, cF, cM, cE, cK] at *; omega)]
  exact h8 i hi
theorem RM.bnd (h : RM S0 S m g) {l : sPs} (hd : df S S' (cB m)) (hl : PsM S' m 11 6 7 20 l) : RM S0 S' m (pb g l) := by
  obtain ⟨h1, h2, h3, h4, h5, h6, h7, h8, h9⟩ := h
  refine ⟨h1.keep hd.1, h2.keep (fun a k q => hd.2 a k (fun z => by simp only [cL, cQ, cS, cN, cB, cF, cM, cE, cK] at *; omega)), fun j hj => (h3 j hj).keep (fun a k q => hd.2 a k (fun z => by simp only [cL, cQ, cS, cN, cB, cF, cM, cE, cK] at *; omega)), h4.keep (hd.2 _ _ (fun z => by simp only [cL, cQ, cS, cN, cB, cF, cM, cE, cK] at *; omega)) (fun r hr a k q => hd.2 a k (fun z => by simp only [cL, cQ, cS, cN, cB, cF, cM, cE, cK] at *; omega)), hl, h6.keep (hd.2 _ _ (fun z => by simp only [cL, cQ, cS, cN, cB, cF, cM, cE, cK] at *; omega)) (fun k => hd.2 _ _ (fun z => by simp only [cL, cQ, cS, cN, cB, cF, cM, cE, cK] at *; omega)) (fun k => hd.2 _ _ (fun z => by simp only [cL, cQ, cS, cN, cB, cF, cM, cE, cK] at *; omega)), h7.keep (fun a k q => hd.2 a k (fun z => by simp only [cL, cQ, cS, cN, cB, cF, cM, cE, cK] at *; omega)), fun i hi => ?_, h9.step hd (fun a k q => by simp only [cL, cQ, cS, cN, cB, cF, cM, cE, cK] at *; omega)⟩
  rw [hd.2 _ _ (fun z => by simp only [cL, cQ, cS, cN, cB, cF, cM, cE, cK] at *; omega), hd.2 _ _ (fun z => by simp only [cL, cQ, cS, cN, cB, cF, cM, cE, cK] at *; omega)]
  exact h8 i hi
theorem RM.est (h : RM S0 S m g) {i : Nat} (v : Int32) : RM S0 (fw_wi (fw_wi S (m + 29) i v) (m + 30) i 1) m (pe g i v) := by
  have hd : df S (fw_wi (fw_wi S (m + 29) i v) (m + 30) i 1) (cE m) := (df.wi (Or.inl rfl)).tr (df.wi (Or.inr rfl))
  obtain ⟨h1, h2, h3, h4, h5, h6, h7, h8, h9⟩ := h
  refine ⟨h1.keep hd.1, h2.keep (fun a k q => hd.2 a k (fun z => by simp only [cL, cQ, cS, cN, cB, cF, cM, cE, cK] at *; omega)), fun j hj => (h3 j hj).keep (fun a k q => hd.2 a k (fun z => by simp only [cL, cQ, cS, cN, cB, cF, cM, cE, cK] at *; omega)), h4.keep (hd.2 _ _ (fun z => by simp only [cL, cQ, cS, cN, cB, cF, cM, cE, cK] at *; omega)) (fun r hr a k q => hd.2 a k (fun z => by simp only [cL, cQ, cS, cN, cB, cF, cM, cE, cK] at *; omega)), h5.keep (hd.2 _ _ (fun z => by simp only [cL, cQ, cS, cN, cB, cF, cM, cE, cK] at *; omega)) (fun k => hd.2 _ _ (fun z => by simp only [cL, cQ, cS, cN, cB, cF, cM, cE, cK] at *; omega)) (fun k => hd.2 _ _ (fun z => by simp only [cL, cQ, cS, cN, cB, cF, cM, cE, cK] at *; omega)), h6.keep (hd.2 _ _ (fun z => by simp only [cL, cQ, cS, cN, cB, cF, cM, cE, cK] at *; omega)) (fun k => hd.2 _ _ (fun z => by simp only [cL, cQ, cS, cN, cB, cF, cM, cE, cK] at *; omega)) (fun k => hd.2 _ _ (fun z => by simp only [cL, cQ, cS, cN, cB, cF, cM, cE, cK] at *; omega)), h7.keep (fun a k q => hd.2 a k (fun z => by simp only [cL, cQ, cS, cN, cB, cF, cM, cE, cK] at *; omega)), fun j hj => ?_, h9.step hd (fun a k q => by simp only [cL, cQ, cS, cN, cB, cF, cM, cE, cK] at *; omega)⟩
  show _ = va_up (ge g) i v j ∧ _ = va_up (gd g) i 1 j
  by_cases hc : j = i
  · subst hc
    rw [va_up_self, va_up_self, g_a (by omega), g_s, g_s]
    exact ⟨rfl, rfl⟩
  · rw [va_up_ne _ _ hc, va_up_ne _ _ hc, g_a (by omega), g_k hc, g_k hc, g_a (by omega)]
    exact h8 j hj
theorem RM.num (h : RM S0 S m g) {f k : Nat} (hk : (f, k) ∈ [(5, 0), (6, 1), (7, 2), (8, 3), (9, 4), (10, 5), (42, 6)]) (v : Int32) : RM S0 (fw_wi S m f v) m (pc g k v) := by
  have hf : (5 ≤ f ∧ f ≤ 10) ∨ f = 42 := by
    simp only [List.mem_cons, Prod.mk.injEq, List.not_mem_nil, or_false] at hk
    omega
  have hd : df S (fw_wi S m f v) (cS m) := df.wi ⟨rfl, hf⟩
  obtain ⟨h1, ⟨a0, a1, a2, a3, a4, a5, a6⟩, h3, h4, h5, h6, h7, h8, h9⟩ := h
  refine ⟨h1.keep hd.1, ?_, fun j hj => (h3 j hj).keep (fun a k q => hd.2 a k (fun z => by simp only [cL, cQ, cS, cN, cB, cF, cM, cE, cK] at *; omega)), h4.keep (hd.2 _ _ (fun z => by simp only [cL, cQ, cS, cN, cB, cF, cM, cE, cK] at *; omega)) (fun r hr a k q => hd.2 a k (fun z => by simp only [cL, cQ, cS, cN, cB, cF, cM, cE, cK] at *; omega)), h5.keep (hd.2 _ _ (fun z => by simp only [cL, cQ, cS, cN, cB, cF, cM, cE, cK] at *; omega)) (fun k => hd.2 _ _ (fun z => by simp only [cL, cQ, cS, cN, cB, cF, cM, cE, cK] at *; omega)) (fun k => hd.2 _ _ (fun z => by simp only [cL, cQ, cS, cN, cB, cF, cM, cE, cK] at *; omega)), h6.keep (hd.2 _ _ (fun z => by simp only [cL, cQ, cS, cN, cB, cF, cM, cE, cK] at *; omega)) (fun k => hd.2 _ _ (fun z => by simp only [cL, cQ, cS, cN, cB, cF, cM, cE, cK] at *; omega)) (fun k => hd.2 _ _ (fun z => by simp only [cL, cQ, cS, cN, cB, cF, cM, cE, cK] at *; omega)), h7.keep (fun a k q => hd.2 a k (fun z => by simp only [cL, cQ, cS, cN, cB, cF, cM, cE, cK] at *; omega)), fun j hj => ?_, h9.step hd (fun a k q => by simp only [cL, cQ, cS, cN, cB, cF, cM, cE, cK] at *; omega)⟩
  · have key : ∀ f' k', fw_g S m f' = gc g k' → (f' = f ↔ k' = k) → fw_g (fw_wi S m f v) m f' = va_up (gc g) k v k' := by
      intro f' k' he hi
      by_cases hc : f' = f
      · have hk' := hi.mp hc
        subst hc; subst hk'
        rw [g_s, va_up_self]
      · rw [g_k hc, va_up_ne _ _ (fun z => hc (hi.mpr z))]; exact he
    simp only [List.mem_cons, Prod.mk.injEq, List.not_mem_nil, or_false] at hk
    exact ⟨key 5 0 a0 (by omega), key 6 1 a1 (by omega), key 7 2 a2 (by omega), key 8 3 a3 (by omega), key 9 4 a4 (by omega), key 10 5 a5 (by omega), key 42 6 a6 (by omega)⟩
  · rw [hd.2 _ _ (fun z => by simp only [cL, cQ, cS, cN, cB, cF, cM, cE, cK] at *; omega), hd.2 _ _ (fun z => by simp only [cL, cQ, cS, cN, cB, cF, cM, cE, cK] at *; omega)]
    exact h8 j hj
theorem RqM.a8 {r : Nat} {d : sR} (h : RqM S m r d) : fw_g S (m + 8) r = d.1 0 := h.1 (8, 0) (by decide)
theorem RqM.a9 {r : Nat} {d : sR} (h : RqM S m r d) : fw_g S (m + 9) r = d.1 1 := h.1 (9, 1) (by decide)
theorem RqM.a10 {r : Nat} {d : sR} (h : RqM S m r d) : fw_g S (m + 10) r = d.1 14 := h.1 (10, 14) (by decide)
theorem RqM.a11 {r : Nat} {d : sR} (h : RqM S m r d) : fw_g S (m + 11) r = d.1 15 := h.1 (11, 15) (by decide)
theorem RqM.a17 {r : Nat} {d : sR} (h : RqM S m r d) : fw_g S (m + 17) r = d.1 2 := h.1 (17, 2) (by decide)
theorem RqM.a18 {r : Nat} {d : sR} (h : RqM S m r d) : fw_g S (m + 18) r = d.1 6 := h.1 (18, 6) (by decide)
theorem RqM.a22 {r : Nat} {d : sR} (h : RqM S m r d) : fw_g S (m + 22) r = d.1 8 := h.1 (22, 8) (by decide)
theorem RqM.a23 {r : Nat} {d : sR} (h : RqM S m r d) : fw_g S (m + 23) r = d.1 11 := h.1 (23, 11) (by decide)
theorem RqM.a24 {r : Nat} {d : sR} (h : RqM S m r d) : fw_g S (m + 24) r = d.1 13 := h.1 (24, 13) (by decide)
theorem RqM.a25 {r : Nat} {d : sR} (h : RqM S m r d) : fw_g S (m + 25) r = d.1 12 := h.1 (25, 12) (by decide)
theorem RqM.a26 {r : Nat} {d : sR} (h : RqM S m r d) : fw_g S (m + 26) r = d.1 20 := h.1 (26, 20) (by decide)
theorem RqM.sc {r : Nat} {d : sR} (h : RqM S m r d) {a k : Nat} (hk : (a, k) ∈ mqK) (v : Int32) : RqM (fw_wi S (m + a) r v) m r (va_up d.1 k v, d.2) := by
  obtain ⟨q1, q2, q3, q4, q5, q6, q7, q8, q9, q10⟩ := mqK_in _ hk
  simp only at q1 q2 q3 q4 q5 q6 q7 q8 q9 q10
  obtain ⟨h1, ⟨a1, a2, a3, a4⟩, ⟨b1, b2, b3, b4, b5, b6⟩, hl⟩ := h
  refine ⟨fun p hp => ?_, ⟨by rw [g_a (by omega)]; exact a1, by rw [g_a (by omega)]; exact a2, by rw [g_a (by omega)]; exact a3, by rw [g_a (by omega)]; exact a4⟩, ⟨b1.wi (Or.inl (by omega)), b2.wi (Or.inl (by omega)), b3.wi (Or.inl (by omega)), b4.wi (Or.inl (by omega)), b5.wi (Or.inl (by omega)), b6.wi (Or.inl (by omega))⟩, hl⟩
  obtain ⟨i1, i2⟩ := mqK_inj p hp _ hk
  simp only at i1 i2
  by_cases hc : p.1 = a
  · rw [hc, g_s, i1 hc]; exact (va_up_self _ _ _).symm
  · rw [g_a (by omega)]
    show _ = va_up d.1 k v p.2
    rw [va_up_ne _ _ (fun z => hc (i2 z))]
    exact h1 p hp
theorem cQ_sc {r a k : Nat} (hk : (a, k) ∈ mqK) : cQ m r (m + a) r := by
  obtain ⟨q1, q2, q3, q4, q5, q6, q7, q8, q9, q10⟩ := mqK_in _ hk
  simp only at q1 q2 q3 q4 q5 q6 q7 q8 q9 q10
  exact Or.inr (Or.inr ⟨by omega, by omega, by omega, by omega, by omega, by omega, by omega, rfl⟩)
/-- a number of request r is changed -/
theorem RM.rsc (h : RM S0 S m g) {r : Nat} (hr : r < gn g) {a k : Nat} (hk : (a, k) ∈ mqK) (v : Int32) : RM S0 (fw_wi S (m + a) r v) m (pq g r (va_up (gq g r).1 k v, (gq g r).2)) := h.req hr (df.wi (Or.inl (cQ_sc hk))) ((h.2.2.2.1.2.2.1 r hr).sc hk v)
end MR
