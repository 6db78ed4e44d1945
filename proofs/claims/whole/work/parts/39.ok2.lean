/-! What always holds: requests, memories, bytes that come. -/
theorem sAdds_le (L : sPs) : ∀ {R : sPs}, R.length ≤ 60 → (L.foldl sAdd R).length ≤ 60 := by
  induction L with
  | nil => exact fun h => h
  | cons x L ih => exact fun h => ih (sAdd_le h)
theorem sFind_le (fa : sPs) : ∀ (ks : List Int32) {R : sPs}, R.length ≤ 60 → (sFind fa ks R).length ≤ 60 := by
  intro ks
  induction ks with
  | nil => exact fun h => h
  | cons k ks ih => exact fun h => ih (sAdds_le _ h)
theorem sNext_o {f : Nat → Int32} {k2 : Int32} {r k : Nat} (h1 : k ≠ 11) (h2 : k ≠ 20) (h3 : k ≠ 21) : sNext f k2 r k = f k := by rw [sNext, va_up_ne _ _ h3, va_up_ne _ _ h2, va_up_ne _ _ h1]
theorem sNext_20 {f : Nat → Int32} {k2 : Int32} {r : Nat} : sNext f k2 r 20 = k2 := by rw [sNext, va_up_ne _ _ (by decide), va_up_self]
theorem sNext_21 {f : Nat → Int32} {k2 : Int32} {r : Nat} : sNext f k2 r 21 = nI r := by rw [sNext, va_up_self]
theorem sAskD_1 (d : sR) (r : Nat) : (sAskD d r).1 = va_up (va_up (sNext d.1 1 r) 6 (nI (sAskE d.1 d.2.2.1 (hN (d.1 6)) (hN (d.1 2))))) 8 0 := rfl
theorem sFailD_1 (d : sR) (why : Int32) : (sFailD d why).1 = va_up (va_up d.1 15 why) 14 (if d.1 1 = 0 then 2 else 1) := rfl
theorem sAskD_o {d : sR} {r k : Nat} (q1 : k ≠ 11) (q2 : k ≠ 20) (q3 : k ≠ 21) (q4 : k ≠ 6) (q5 : k ≠ 8) : (sAskD d r).1 k = d.1 k := by
  rw [sAskD_1, va_up_ne _ _ q5, va_up_ne _ _ q4]; exact sNext_o q1 q2 q3
theorem sFailD_o {d : sR} {why : Int32} {k : Nat} (a : k ≠ 14) (b : k ≠ 15) : (sFailD d why).1 k = d.1 k := by
  rw [sFailD_1, va_up_ne _ _ a, va_up_ne _ _ b]
theorem sTook_o {d : sR} {bs : List Int32} {k : Nat} (h : k ≠ 8) : (sTook d bs).1 k = d.1 k := va_up_ne d.1 _ h
theorem sMoreD_o {d : sR} {r k : Nat} (a : k ≠ 11) (b : k ≠ 20) (c : k ≠ 21) : (sMoreD d r).1 k = d.1 k := sNext_o (f := d.1) (k2 := 3) (r := r) a b c
section OK2
variable {g : sG} {B r : Nat} {d : sR}
theorem okR.took (h : okR r d) (hw : d.1 14 = 0) (bs : List Int32) : okR r (sTook d bs) := by
  have e : ∀ k, k ≠ 8 → (sTook d bs).1 k = d.1 k := fun k hk => va_up_ne _ _ hk
  obtain ⟨h1, h2, h3, h4, h5, h6, h7, h8, h9, h10, h11, h12⟩ := h
  refine ⟨by rw [e 0 (by decide)]; exact h1, by rw [e 1 (by decide)]; exact h2, by rw [e 2 (by decide)]; exact h3, by rw [e 6 (by decide)]; exact h4, h5, h6, h7, sAdds_le _ h8, ?_, by rw [e 14 (by decide)]; exact h10, by rw [e 14 (by decide), e 15 (by decide)]; exact ⟨h11.1, h11.2.1, fun z => absurd (hw.symm.trans z) (by decide)⟩, h12⟩
  rw [e 14 (by decide), e 21 (by decide), e 20 (by decide)]
  exact h9
theorem okR.more (h : okR r d) : okR r (sMoreD d r) := by
  obtain ⟨h1, h2, h3, h4, h5, h6, h7, h8, h9, h10, h11, h12⟩ := h
  have e : ∀ k, k ≠ 11 → k ≠ 20 → k ≠ 21 → (sMoreD d r).1 k = d.1 k := fun k a b c => sNext_o a b c
  refine ⟨by rw [e 0 (by decide) (by decide) (by decide)]; exact h1, by rw [e 1 (by decide) (by decide) (by decide)]; exact h2, by rw [e 2 (by decide) (by decide) (by decide)]; exact h3, by rw [e 6 (by decide) (by decide) (by decide)]; exact h4, h5, h6, h7, h8, ?_, by rw [e 14 (by decide) (by decide) (by decide)]; exact h10, by rw [e 14 (by decide) (by decide) (by decide), e 15 (by decide) (by decide) (by decide)]; exact h11, h12⟩
  rw [e 14 (by decide) (by decide) (by decide)]
  intro hz
  refine ⟨sNext_21 (f := d.1) (k2 := 3), (h9 hz).2.1, Or.inr (sNext_20 (f := d.1) (r := r)), fun b hb => ?_, by show 2 ≤ 18; decide⟩
  have hb' : b ∈ [sStep d.1, d.1 8 &&& 255] := hb
  simp only [List.mem_cons, List.not_mem_nil, or_false] at hb'
  rcases hb' with rfl | rfl
  · exact b8_and _
  · exact b8_and _
theorem okR.ask (h : okR r d) : okR r (sAskD d r) := by
  obtain ⟨h1, h2, ⟨b, hb1, hb8, hbe⟩, ⟨a, haK, hae⟩, h5, h6, h7, h8, h9, h10, h11, h12⟩ := h
  have ha : hN (d.1 6) = a := by rw [hae]; exact nI_clamp (by omega)
  have hb : hN (d.1 2) = b := by rw [hbe]; exact nI_clamp (by omega)
  have e : ∀ k, k ≠ 11 → k ≠ 20 → k ≠ 21 → k ≠ 6 → k ≠ 8 → (sAskD d r).1 k = d.1 k := fun k q1 q2 q3 q4 q5 => sAskD_o q1 q2 q3 q4 q5
  have e20 : (sAskD d r).1 20 = 1 := by
    rw [sAskD_1, va_up_ne _ _ (by decide), va_up_ne _ _ (by decide)]; exact sNext_20
  have e21 : (sAskD d r).1 21 = nI r := by
    rw [sAskD_1, va_up_ne _ _ (by decide), va_up_ne _ _ (by decide)]; exact sNext_21
  have e6 : (sAskD d r).1 6 = nI (sAskE d.1 d.2.2.1 a b) := by
    rw [sAskD_1, va_up_ne _ _ (by decide), va_up_self, ha, hb]
  refine ⟨by rw [e 0 (by decide) (by decide) (by decide) (by decide) (by decide)]; exact h1, by rw [e 1 (by decide) (by decide) (by decide) (by decide) (by decide)]; exact h2, ⟨b, hb1, hb8, by rw [e 2 (by decide) (by decide) (by decide) (by decide) (by decide)]; exact hbe⟩, ⟨sAskE d.1 d.2.2.1 a b, Nat.min_le_right _ _, e6⟩, h5, h6, h7, h8, ?_, by rw [e 14 (by decide) (by decide) (by decide) (by decide) (by decide)]; exact h10, by rw [e 14 (by decide) (by decide) (by decide) (by decide) (by decide), e 15 (by decide) (by decide) (by decide) (by decide) (by decide)]; exact h11, h12⟩
  rw [e 14 (by decide) (by decide) (by decide) (by decide) (by decide), e20, e21]
  intro hz
  have hLB : (sAskD d r).2.2.2.2 = [sStep d.1] ++ (d.2.2.1.drop a).take (sAskE d.1 d.2.2.1 a b - a) := by
    show [sStep d.1] ++ (d.2.2.1.drop (hN (d.1 6))).take (sAskE d.1 d.2.2.1 (hN (d.1 6)) (hN (d.1 2)) - hN (d.1 6)) = _
    rw [ha, hb]
  rw [hLB]
  refine ⟨rfl, (h9 hz).2.1, Or.inl rfl, fun x hx => ?_, ?_⟩
  · rcases List.mem_append.mp hx with q | q
    · rw [List.mem_singleton.mp q]; exact b8_and _
    · exact h5 x (List.mem_of_mem_drop (List.mem_of_mem_take q))
  · rw [List.length_append, List.length_take]
    have : sAskE d.1 d.2.2.1 a b ≤ a + b := Nat.min_le_left _ _
    simp only [List.length_cons, List.length_nil]
    omega
theorem okR.fail (h : okR r d) {why : Int32} (hw : why = 1 ∨ why = 3) : okR r (sFailD d why) := by
  obtain ⟨h1, h2, h3, h4, h5, h6, h7, h8, h9, h10, h11, h12⟩ := h
  have e : ∀ k, k ≠ 14 → k ≠ 15 → (sFailD d why).1 k = d.1 k := fun k a b => sFailD_o a b
  have e14 : (sFailD d why).1 14 = if d.1 1 = 0 then 2 else 1 := by
    rw [sFailD_1, va_up_self]
  have e15 : (sFailD d why).1 15 = why := by
    rw [sFailD_1, va_up_ne _ _ (by decide), va_up_self]
  refine ⟨by rw [e 0 (by decide) (by decide)]; exact h1, by rw [e 1 (by decide) (by decide)]; exact h2, by rw [e 2 (by decide) (by decide)]; exact h3, by rw [e 6 (by decide) (by decide)]; exact h4, h5, h6, h7, ?_, ?_, ?_, ⟨by rw [e15]; exact Or.inr hw, ?_, ?_⟩, h12⟩
  · show (sFailR d.1 d.2.2.2.1).length ≤ 60
    unfold sFailR
    split
    · exact h8
    · simp
  · rw [e14]
    intro hz
    split at hz <;> exact absurd hz (by decide)
  · rw [e14]
    split
    · exact Or.inr (Or.inr rfl)
    · exact Or.inr (Or.inl rfl)
  · rw [e14]
    intro hz
    split at hz <;> exact absurd hz (by decide)
  · rw [e14]
    intro hz _
    show sFailR d.1 d.2.2.2.1 = []
    unfold sFailR
    by_cases hf : d.1 1 = 0
    · rw [if_pos hf] at hz; exact absurd hz (by decide)
    · rw [if_neg hf]
theorem okR.done (h : okR r d) (hw : d.1 14 = 0) : okR r (va_up d.1 14 1, d.2) := by
  obtain ⟨h1, h2, h3, h4, h5, h6, h7, h8, h9, h10, h11, h12⟩ := h
  have e : ∀ k, k ≠ 14 → va_up d.1 14 1 k = d.1 k := fun k a => va_up_ne _ _ a
  refine ⟨by simp only [e 0 (by decide)]; exact h1, by simp only [e 1 (by decide)]; exact h2, by simp only [e 2 (by decide)]; exact h3, by simp only [e 6 (by decide)]; exact h4, h5, h6, h7, h8, ?_, ?_, by simp only [e 15 (by decide)]; exact ⟨h11.1, fun _ => h11.2.1 hw, fun _ z => absurd (h11.2.1 hw) z⟩, h12⟩
  · intro hz
    simp only [va_up_self] at hz
    exact absurd hz (by decide)
  · simp [va_up_self]
theorem gc_pq (g : sG) (r : Nat) (d : sR) : gc (pq g r d) = gc g := rfl
theorem gn_pq (g : sG) (r : Nat) (d : sR) : gn (pq g r d) = gn g := rfl
theorem ok_rowsIn (h : okG g) (ht : okT g B) (hr : r < gn g) (hw : (gq g r).1 14 = 0) (bs : List Int32) : okG (sRowsIn g r bs) ∧ okT (sRowsIn g r bs) B := by
  have ho := h.2.2.2.2.2.1 r hr
  have w0 : (sTook (gq g r) bs).1 14 = 0 := by rw [sTook_o (by decide)]; exact hw
  have s0 : (sTook (gq g r) bs).1 12 = (gq g r).1 12 := sTook_o (by decide)
  unfold sRowsIn
  by_cases c1 : bs.getD 1 0 = 1
  · rw [if_pos c1]
    have w1 : (sMoreD (sTook (gq g r) bs) r).1 14 = 0 := by rw [sMoreD_o (by decide) (by decide) (by decide)]; exact w0
    have s1 : (sMoreD (sTook (gq g r) bs) r).1 12 = (gq g r).1 12 := by rw [sMoreD_o (by decide) (by decide) (by decide)]; exact s0
    have hg1 := h.pq hr (ho.took hw bs).more
    have ht1 := ht.pq (d := sMoreD (sTook (gq g r) bs) r) hr (fun _ => Or.inl ⟨hw, s1⟩)
    exact ⟨hg1.sreq hr (by rw [gq_pq]; exact w1) 0, ht1.sreq hr 0⟩
  · rw [if_neg c1]
    by_cases c2 : hN ((gq g r).1 6) < (gq g r).2.2.1.length
    · rw [if_pos c2]
      have e : ∀ k, k ≠ 11 → k ≠ 20 → k ≠ 21 → k ≠ 6 → k ≠ 8 → (sAskD (sTook (gq g r) bs) r).1 k = (sTook (gq g r) bs).1 k := fun k q1 q2 q3 q4 q5 => sAskD_o q1 q2 q3 q4 q5
      have w1 : (sAskD (sTook (gq g r) bs) r).1 14 = 0 := by rw [← w0]; exact e _ (by decide) (by decide) (by decide) (by decide) (by decide)
      have s1 : (sAskD (sTook (gq g r) bs) r).1 12 = (gq g r).1 12 := by rw [← s0]; exact e _ (by decide) (by decide) (by decide) (by decide) (by decide)
      have hg1 := h.pq hr (ho.took hw bs).ask
      have ht1 := ht.pq (d := sAskD (sTook (gq g r) bs) r) hr (fun _ => Or.inl ⟨hw, s1⟩)
      exact ⟨hg1.sreq hr (by rw [gq_pq]; exact w1) 0, ht1.sreq hr 0⟩
    · rw [if_neg c2]
      exact ⟨(h.pq hr ((ho.took hw bs).done w0)).pe, ht.pq hr (fun z => by
        have z' : va_up (sTook (gq g r) bs).1 14 1 14 = 0 := z
        rw [va_up_self] at z'
        exact absurd z' (by decide))⟩
theorem sFailD_14 (d : sR) (why : Int32) : (sFailD d why).1 14 ≠ 0 := by
  rw [sFailD_1, va_up_self]
  split <;> decide
theorem ok_hear (h : okG g) (ht : okT g B) (i : Nat) (kind num : Int32) (bs : List Int32) : okG (sHear g i kind num bs).2 ∧ okT (sHear g i kind num bs).2 B := by
  unfold sHear
  by_cases hr : hN num < gn g
  · rw [if_pos hr]
    by_cases hw : sWaits (gq g (hN num)) i kind bs
    · rw [if_pos hw]
      by_cases hk : kind = 4
      · rw [if_pos hk]
        exact ⟨h.pq hr ((h.2.2.2.2.2.1 _ hr).fail (Or.inr rfl)), ht.pq hr (fun z => absurd z (sFailD_14 _ _))⟩
      · rw [if_neg hk]
        exact ok_rowsIn h ht hr hw.1 bs
    · rw [if_neg hw]; exact ⟨h, ht⟩
  · rw [if_neg hr]; exact ⟨h, ht⟩
theorem okM.base {ms : List sM} (h : okM ms) (x : Int32) : (sBase ms x).length ≤ 7 ∧ (∀ m ∈ sBase ms x, m ∈ ms ∧ m.1 ≠ x) ∧ ((sBase ms x).map (fun m => m.1)).Nodup := by
  obtain ⟨h8, hm, hn⟩ := h
  unfold sBase
  have sub : ∀ i, ((ms.eraseIdx i).map (fun m => m.1)).Nodup := fun i => List.Nodup.sublist ((List.eraseIdx_sublist ms i).map _) hn
  cases hp : sPlace ms x with
  | some i =>
    obtain ⟨hi, m, hme, hmx⟩ := sPlace_lt hp
    simp only
    refine ⟨by rw [List.length_eraseIdx_of_lt hi]; omega, fun m' hm' => ⟨(List.eraseIdx_sublist ms i).subset hm', fun hq => ?_⟩, sub i⟩
    obtain ⟨j, hj⟩ := List.mem_iff_getElem?.mp hm'
    rw [List.getElem?_eraseIdx] at hj
    have key : ∀ k, k ≠ i → ms[k]? = some m' → False := by
      intro k hk hkm
      have hkl := (List.getElem?_eq_some_iff.mp hkm).1
      have e1 : (ms.map (fun m => m.1))[k]? = some x := by rw [List.getElem?_map, hkm]; simp [hq]
      have e2 : (ms.map (fun m => m.1))[i]? = some x := by rw [List.getElem?_map, hme]; simp [hmx]
      exact hk ((List.getElem?_inj (by rw [List.length_map]; exact hkl) hn).mp (e1.trans e2.symm))
    by_cases hji : j < i
    · rw [if_pos hji] at hj; exact key j (by omega) hj
    · rw [if_neg hji] at hj; exact key (j + 1) (by omega) hj
  | none =>
    have hno : ∀ m ∈ ms, m.1 ≠ x := by
      intro m hm' hq
      unfold sPlace at hp
      have := List.findIdx?_eq_none_iff.mp hp m hm'
      simp [hq] at this
    simp only
    by_cases h88 : ms.length = 8
    · rw [if_pos h88]
      exact ⟨by rw [List.length_eraseIdx_of_lt (by omega)]; omega, fun m' hm' => ⟨(List.eraseIdx_sublist ms 0).subset hm', hno _ ((List.eraseIdx_sublist ms 0).subset hm')⟩, sub 0⟩
    · rw [if_neg h88]
      exact ⟨by omega, fun m' hm' => ⟨hm', hno _ hm'⟩, hn⟩
theorem okM.ask {ms : List sM} (h : okM ms) {fa : sPs} (hfa : okPs fa) {num : Int32} (hn : b8 num) (bs : List Int32) : okM (sAskMs fa ms num bs) := by
  unfold sAskMs
  cases sAskHit ms num (bs.getD 0 0) with
  | some m => exact h
  | none =>
    obtain ⟨b1, b2, b3⟩ := h.base num
    refine ⟨by simp; omega, fun m hm => ?_, ?_⟩
    · rcases List.mem_append.mp hm with q | q
      · exact h.2.1 m (b2 m q).1
      · rw [List.mem_singleton.mp q]
        exact ⟨hfa.find _ (fun _ q => by simp at q), sFind_le _ _ (by simp), hn⟩
    · rw [List.map_append, List.nodup_append]
      refine ⟨b3, by simp, fun a ha b hb => ?_⟩
      obtain ⟨m, hm, rfl⟩ := List.mem_map.mp ha
      simp only [List.map_cons, List.map_nil, List.mem_singleton] at hb
      rw [hb]
      exact (b2 m hm).2
theorem okM.more {ms : List sM} (h : okM ms) (num : Int32) (bs : List Int32) : okM (sMoreMs ms num bs) := by
  unfold sMoreMs
  cases hp : sMoreHit ms num (bs.getD 0 0) (bs.getD 1 0) with
  | none => exact h
  | some i =>
    obtain ⟨h8, hm, hn⟩ := h
    simp only
    by_cases hi : i < ms.length
    · have hgd : ms.getD i (0, 0, 0, []) = ms[i] := by simp [hi]
      rw [hgd]
      refine ⟨by rw [List.length_set]; exact h8, fun m hm' => ?_, ?_⟩
      · rcases List.mem_or_eq_of_mem_set hm' with q | q
        · exact hm m q
        · rw [q]; exact hm ms[i] (List.getElem_mem hi)
      · have : (ms.set i (ms[i].1, ms[i].2.1, bs.getD 0 0, ms[i].2.2.2)).map (fun m => m.1) = ms.map (fun m => m.1) := by
          rw [List.map_set]
          apply List.ext_getElem?
          intro j
          by_cases hj : j = i
          · subst hj
            rw [List.getElem?_set_self (by rw [List.length_map]; exact hi)]
            simp [hi]
          · rw [List.getElem?_set_ne (Ne.symm hj)]
        rw [this]; exact hn
    · rw [List.set_eq_of_length_le (by omega)]; exact ⟨h8, hm, hn⟩
theorem sFlat_mem {R : sPs} (h : okPs R) : ∀ b ∈ sFlat R, b8 b := by
  intro b hb
  obtain ⟨x, hx, hq⟩ := List.mem_flatMap.mp hb
  simp only [List.mem_cons, List.not_mem_nil, or_false] at hq
  rcases hq with rfl | rfl
  · exact (h x hx).1
  · exact (h x hx).2
theorem sRowsB_ok {R : sPs} (h : okPs R) {step : Int32} (hs : b8 step) (t : Nat) : (∀ b ∈ sRowsB R step t, b8 b) ∧ (sRowsB R step t).length ≤ 18 := by
  unfold sRowsB
  refine ⟨fun b hb => ?_, ?_⟩
  · rcases List.mem_append.mp hb with q | q
    · simp only [List.mem_cons, List.not_mem_nil, or_false] at q
      rcases q with rfl | rfl
      · exact hs
      · split
        · exact b8_nI (n := 1) (by decide)
        · exact b8_nI (n := 0) (by decide)
    · exact sFlat_mem (fun x hx => h x (List.mem_of_mem_drop (List.mem_of_mem_take hx))) b q
  · rw [List.length_append, sFlat_len, List.length_take]
    simp only [List.length_cons, List.length_nil]
    omega
end OK2
