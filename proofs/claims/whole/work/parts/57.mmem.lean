/-! The reference: what its serving end remembers. -/
def cMe (m j a k : Nat) : Prop := (m + 33 ≤ a ∧ a ≤ m + 36 ∧ k = j) ∨ ((a = m + 37 ∨ a = m + 38) ∧ 60 * j ≤ k ∧ k < 60 * j + 60)
section MM
variable {S0 S S' : fw_S} {m i : Nat} {g : sG} {ms : List sM} {o : List Int32}
theorem MeM.keep {j : Nat} {e : sM} (h : MeM S m j e) (hg : ∀ a k, cMe m j a k → fw_g S' a k = fw_g S a k) : MeM S' m j e := by
  obtain ⟨a, b, c, d, l, p, q⟩ := h
  have k1 : ∀ a, 33 ≤ a → a ≤ 36 → fw_g S' (m + a) j = fw_g S (m + a) j := fun a h1 h2 => hg _ _ (Or.inl ⟨by omega, by omega, rfl⟩)
  exact ⟨by rw [k1 33 (by omega) (by omega)]; exact a, by rw [k1 34 (by omega) (by omega)]; exact b, by rw [k1 35 (by omega) (by omega)]; exact c, by rw [k1 36 (by omega) (by omega)]; exact d, l, p.keep (fun k h1 h2 => hg _ _ (Or.inr ⟨Or.inl rfl, h1, by rw [List.length_map] at h2; omega⟩)), q.keep (fun k h1 h2 => hg _ _ (Or.inr ⟨Or.inr rfl, h1, by rw [List.length_map] at h2; omega⟩))⟩
theorem MsM.placeNo (h : MsM S m ms) (hS : ShM S m) (x v : Int32) : ∀ (c j : Nat), j ≤ ms.length → ms.length < j + c → (∀ (k : Nat) (e : sM), j ≤ k → ms[k]? = some e → e.1 ≠ x) → F_Mo_placeOf_l4 S c m x v (nI j) = some v := by
  obtain ⟨h1, h2, h3⟩ := h
  intro c
  induction c with
  | zero => intro j q1 q2; omega
  | succ c ih =>
    intro j q1 q2 q3
    rw [F_Mo_placeOf_l4, h1]
    by_cases hj : j < ms.length
    · have he := List.getElem?_eq_getElem hj
      have e33 : fw_g S (m + 33) j = ms[j].1 := (h3 j _ he).1
      have hne : ¬ ms[j].1 = x := q3 j _ (Nat.le_refl _) he
      rw [if_neg (nI_ge hj (by omega)), hS.o43, hS.l33, if_neg (nI_in (by omega) (by omega)), nI_clamp (by omega), e33, if_neg hne, nI_1]
      exact ih (j + 1) (by omega) (by omega) (fun k e hk => q3 k e (by omega))
    · rw [if_pos (nI_le (by omega) (by omega))]
theorem MsM.placeAt (h : MsM S m ms) (hS : ShM S m) (x : Int32) {p : Nat} {e : sM} (hp : ms[p]? = some e) (he : e.1 = x) (hu : ∀ (k : Nat) (e : sM), ms[k]? = some e → e.1 = x → k = p) : ∀ (c j : Nat) (v : Int32), j ≤ p → ms.length < j + c → F_Mo_placeOf_l4 S c m x v (nI j) = some (nI p) := by
  have h' := h
  obtain ⟨h1, h2, h3⟩ := h
  have hpl := (List.getElem?_eq_some_iff.mp hp).1
  intro c
  induction c with
  | zero => intro j v q1 q2; omega
  | succ c ih =>
    intro j v q1 q2
    have hj : j < ms.length := by omega
    have hej := List.getElem?_eq_getElem hj
    have e33 : fw_g S (m + 33) j = ms[j].1 := (h3 j _ hej).1
    rw [F_Mo_placeOf_l4, h1, if_neg (nI_ge hj (by omega)), hS.o43, hS.l33, if_neg (nI_in (by omega) (by omega)), nI_clamp (by omega), e33, nI_1]
    by_cases hjp : j = p
    · subst hjp
      have : ms[j] = e := by rw [hp] at hej; cases hej; rfl
      rw [this, if_pos he]
      exact h'.placeNo hS x (nI j) c (j + 1) (by omega) (by omega) (fun k e' hk hke hx => by
        have := hu k e' hke hx
        omega)
    · have hne : ¬ ms[j].1 = x := fun z => hjp (hu j _ hej z)
      rw [if_neg hne]
      exact ih (j + 1) v (by omega) (by omega)
theorem nodup_at {ms : List sM} (hn : (ms.map (fun m => m.1)).Nodup) {x : Int32} {k p : Nat} {e e' : sM} (h1 : ms[k]? = some e) (h2 : e.1 = x) (h3 : ms[p]? = some e') (h4 : e'.1 = x) : k = p := by
  have hkl := (List.getElem?_eq_some_iff.mp h1).1
  have e1 : (ms.map (fun m => m.1))[k]? = some x := by rw [List.getElem?_map, h1]; simp [h2]
  have e2 : (ms.map (fun m => m.1))[p]? = some x := by rw [List.getElem?_map, h3]; simp [h4]
  exact (List.getElem?_inj (by rw [List.length_map]; exact hkl) hn).mp (e1.trans e2.symm)
theorem MsM.place (h : MsM S m ms) (hS : ShM S m) (hn : (ms.map (fun m => m.1)).Nodup) (x : Int32) : F_Mo_placeOf m x S = some (match sPlace ms x with | some j => nI j | none => -1) := by
  unfold F_Mo_placeOf
  rw [show (0 : Int32) = nI 0 from rfl]
  have h8 := h.2.1
  cases hp : sPlace ms x with
  | some p =>
    obtain ⟨hpl, e, he, hx⟩ := sPlace_lt hp
    exact h.placeAt hS x he hx (fun k e' hk hx' => nodup_at hn hk hx' he hx) 4096 0 _ (Nat.zero_le _) (by omega)
  | none =>
    refine h.placeNo hS x (-1) 4096 0 (Nat.zero_le _) (by omega) (fun k e _ hk hx => ?_)
    unfold sPlace at hp
    have := List.findIdx?_eq_none_iff.mp hp e (List.mem_of_getElem? hk)
    simp [hx] at this
theorem copyL {t f : Nat} (ht : t < 9) (hf : f < 9) (htf : t ≠ f) : ∀ (n c k : Nat) (S : fw_S), ShM S m → k + n = 60 → n < c →
    ∃ S', F_Mo_copy_l50 c m (nI t) (nI f) (nI k) S = some S' ∧ (∀ j, k ≤ j → j < 60 → fw_g S' (m + 37) (60 * t + j) = fw_g S (m + 37) (60 * f + j) ∧ fw_g S' (m + 38) (60 * t + j) = fw_g S (m + 38) (60 * f + j)) ∧ df S S' (fun a q => (a = m + 37 ∨ a = m + 38) ∧ 60 * t + k ≤ q ∧ q < 60 * t + 60) := by
  intro n
  induction n with
  | zero =>
    intro c k S hS hk hc
    obtain ⟨c, rfl⟩ : ∃ c', c = c' + 1 := ⟨c - 1, by omega⟩
    rw [F_Mo_copy_l50, if_pos (show (60 : Int32) ≤ nI k from nI_le (a := 60) (by omega) (by omega))]
    exact ⟨S, rfl, fun j h1 h2 => by omega, df.rf⟩
  | succ n ih =>
    intro c k S hS hk hc
    obtain ⟨c, rfl⟩ : ∃ c', c = c' + 1 := ⟨c - 1, by omega⟩
    rw [F_Mo_copy_l50, if_neg (show ¬ (60 : Int32) ≤ nI k from nI_ge (b := 60) (by omega) (by omega))]
    simp (disch := omega) only [↓reduceIte, ↓om_wi, ↓let_i, ↓hS.o47, ↓hS.o48, hS.l37, hS.l38, fw_l_wi, m60, nI_add, pF, lF, or_self, nI_clamp, g_a, nI_1]
    obtain ⟨T, hT⟩ : ∃ T, T = fw_wi (fw_wi S (m + 37) (60 * t + k) (fw_g S (m + 37) (60 * f + k))) (m + 38) (60 * t + k) (fw_g S (m + 38) (60 * f + k)) := ⟨_, rfl⟩
    rw [← hT]
    have hd : df S T (fun a q => (a = m + 37 ∨ a = m + 38) ∧ q = 60 * t + k) := by
      rw [hT]
      exact (df.wi ⟨Or.inl rfl, rfl⟩).tr (df.wi ⟨Or.inr rfl, rfl⟩)
    obtain ⟨S2, p2, q2, d2⟩ := ih c (k + 1) T (hS.keep hd.1) (by omega) (by omega)
    refine ⟨S2, p2, fun j h1 h2 => ?_, (hd.up (fun a q z => ⟨z.1, by omega, by omega⟩)).tr (d2.up (fun a q z => ⟨z.1, by omega, by omega⟩))⟩
    by_cases hj : j = k
    · subst hj
      rw [d2.2 _ _ (fun z => by omega), d2.2 _ _ (fun z => by omega), hT, g_a (by omega), g_s, g_s]
      exact ⟨rfl, rfl⟩
    · obtain ⟨q3, q4⟩ := q2 j (by omega) h2
      rw [q3, q4, hd.2 _ _ (fun z => by omega), hd.2 _ _ (fun z => by omega)]
      exact ⟨rfl, rfl⟩
theorem copyM {t f : Nat} (ht : t < 9) (hf : f < 9) (htf : t ≠ f) {e : sM} (hS : ShM S m) (h : MeM S m f e) : ∃ S', F_Mo_copy m (nI t) (nI f) S = some S' ∧ MeM S' m t e ∧ df S S' (cMe m t) := by
  obtain ⟨T, hT⟩ : ∃ T, T = fw_wi (fw_wi (fw_wi (fw_wi S (m + 33) t (fw_g S (m + 33) f)) (m + 34) t (fw_g S (m + 34) f)) (m + 35) t (fw_g S (m + 35) f)) (m + 36) t (fw_g S (m + 36) f) := ⟨_, rfl⟩
  have hd : df S T (fun a k => m + 33 ≤ a ∧ a ≤ m + 36 ∧ k = t) := by
    rw [hT]
    exact (df.wi ⟨by omega, by omega, rfl⟩).tr ((df.wi ⟨by omega, by omega, rfl⟩).tr ((df.wi ⟨by omega, by omega, rfl⟩).tr (df.wi ⟨by omega, by omega, rfl⟩)))
  obtain ⟨S2, p2, q2, d2⟩ := copyL (m := m) ht hf htf 60 4096 0 T (hS.keep hd.1) (by omega) (by omega)
  obtain ⟨a, b, c, d, l, p, q⟩ := h
  refine ⟨S2, ?_, ⟨?_, ?_, ?_, ?_, l, fun j x hx => ?_, fun j x hx => ?_⟩, (hd.up (fun a k z => Or.inl z)).tr (d2.up (fun a k z => Or.inr ⟨z.1, by omega, z.2.2⟩))⟩
  · unfold F_Mo_copy
    simp (disch := omega) only [↓reduceIte, ↓om_wi, ↓let_i, ↓hS.o43, ↓hS.o44, ↓hS.o45, ↓hS.o46, hS.l33, hS.l34, hS.l35, hS.l36, fw_l_wi, pF, lF, or_self, nI_clamp, g_a]
    rw [← hT, show (0 : Int32) = nI 0 from rfl]
    exact p2
  · rw [d2.2 _ _ (fun z => by omega), hT, g_a (by omega), g_a (by omega), g_a (by omega), g_s]; exact a
  · rw [d2.2 _ _ (fun z => by omega), hT, g_a (by omega), g_a (by omega), g_s]; exact b
  · rw [d2.2 _ _ (fun z => by omega), hT, g_a (by omega), g_s]; exact c
  · rw [d2.2 _ _ (fun z => by omega), hT, g_s]; exact d
  · have hj : j < 60 := by
      have := (List.getElem?_eq_some_iff.mp hx).1
      rw [List.length_map] at this
      omega
    rw [(q2 j (Nat.zero_le _) hj).1, hd.2 _ _ (fun z => by omega)]; exact p j x hx
  · have hj : j < 60 := by
      have := (List.getElem?_eq_some_iff.mp hx).1
      rw [List.length_map] at this
      omega
    rw [(q2 j (Nat.zero_le _) hj).2, hd.2 _ _ (fun z => by omega)]; exact q j x hx
theorem forgetL {p N : Nat} (hN : N + 1 = ms.length) (h8 : ms.length ≤ 8) : ∀ (n c k : Nat) (S : fw_S), ShM S m → fw_g S m 41 = nI N → p ≤ k → k + n = N → n < c → (∀ (j : Nat) (e : sM), j < k → (ms.eraseIdx p)[j]? = some e → MeM S m j e) → (∀ (j : Nat) (e : sM), k < j → ms[j]? = some e → MeM S m j e) →
    ∃ S', F_Mo_forget_l12 c m (nI k) S = some S' ∧ (∀ (j : Nat) (e : sM), (ms.eraseIdx p)[j]? = some e → MeM S' m j e) ∧ df S S' (fun a k => ∃ j, cMe m j a k) := by
  intro n
  induction n with
  | zero =>
    intro c k S hS h41 hpk hk hc hA hB
    obtain ⟨c, rfl⟩ : ∃ c', c = c' + 1 := ⟨c - 1, by omega⟩
    rw [F_Mo_forget_l12, h41, if_pos (nI_le (by omega) (by omega))]
    refine ⟨S, rfl, fun j e he => hA j e ?_ he, df.rf⟩
    have := (List.getElem?_eq_some_iff.mp he).1
    rw [List.length_eraseIdx_of_lt (by omega)] at this
    omega
  | succ n ih =>
    intro c k S hS h41 hpk hk hc hA hB
    obtain ⟨c, rfl⟩ : ∃ c', c = c' + 1 := ⟨c - 1, by omega⟩
    have hk1 : k + 1 < ms.length := by omega
    have he := List.getElem?_eq_getElem hk1
    obtain ⟨S1, p1, q1, d1⟩ := copyM (m := m) (t := k) (f := k + 1) (by omega) (by omega) (by omega) hS (hB (k + 1) _ (by omega) he)
    rw [F_Mo_forget_l12, h41, if_neg (nI_ge (by omega) (by omega)), nI_1, p1, Option.bind_some]
    obtain ⟨S2, p2, q2, d2⟩ := ih c (k + 1) S1 (hS.keep d1.1) (by rw [d1.2 _ _ (fun z => by simp only [cMe] at z; omega)]; exact h41) (by omega) (by omega) (by omega) (fun j e hj hje => by
      by_cases hjk : j = k
      · subst hjk
        rw [List.getElem?_eraseIdx, if_neg (by omega), he] at hje
        cases hje
        exact q1
      · exact (hA j e (by omega) hje).keep (fun a k q => d1.2 a k (fun z => by simp only [cMe] at z q; omega))) (fun j e hj hje => (hB j e (by omega) hje).keep (fun a k q => d1.2 a k (fun z => by simp only [cMe] at z q; omega)))
    exact ⟨S2, p2, q2, (d1.up (fun a k z => ⟨_, z⟩)).tr d2⟩
theorem MsM.forget (h : MsM S m ms) (hS : ShM S m) {p : Nat} (hp : p < ms.length) : ∃ S', F_Mo_forget m (nI p) S = some S' ∧ MsM S' m (ms.eraseIdx p) ∧ df S S' (cM m) := by
  obtain ⟨h1, h2, h3⟩ := h
  have hlen : (ms.eraseIdx p).length = ms.length - 1 := List.length_eraseIdx_of_lt hp
  have h41 : fw_g (fw_wi S m 41 (nI (ms.length - 1))) m 41 = nI (ms.length - 1) := g_s
  have hk : ∀ (j : Nat) (e : sM), ms[j]? = some e → MeM (fw_wi S m 41 (nI (ms.length - 1))) m j e := fun j e he => (h3 j e he).keep (fun a k q => by simp only [cMe] at q; rw [g_a (by omega)])
  obtain ⟨S2, p2, q2, d2⟩ := forgetL (m := m) (ms := ms) (p := p) (N := ms.length - 1) (by omega) h2 (ms.length - 1 - p) 4096 p (fw_wi S m 41 (nI (ms.length - 1))) (hS.keep rfl) h41 (Nat.le_refl _) (by omega) (by omega) (fun j e hj he => by
    rw [List.getElem?_eraseIdx, if_pos hj] at he
    exact hk j e he) (fun j e hj he => hk j e he)
  refine ⟨S2, ?_, ⟨?_, by omega, q2⟩, (df.wi (Or.inl ⟨rfl, rfl⟩)).tr (d2.up (fun a k z => ?_))⟩
  · unfold F_Mo_forget
    have e1 : nI ms.length - 1 = nI (ms.length - 1) := by
      have := nI_pred (ms.length - 1)
      rw [show ms.length - 1 + 1 = ms.length by omega] at this
      exact this
    rw [h1, e1, let_i]
    exact p2
  · rw [d2.2 _ _ (fun z => by obtain ⟨j, z⟩ := z; simp only [cMe] at z; omega), h41, hlen]
  · obtain ⟨j, z⟩ := z
    simp only [cMe] at z
    exact Or.inr (by omega)
end MM
