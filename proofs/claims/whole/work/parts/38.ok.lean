/-! What always holds, kept by every change. -/
def okT (g : sG) (B : Nat) : Prop := ∃ c, c ≤ B ∧ gc g 3 = nI c ∧ ∀ r, r < gn g → (gq g r).1 14 = 0 → ∃ s, s ≤ c ∧ (gq g r).1 12 = nI s
def okM (ms : List sM) : Prop := ms.length ≤ 8 ∧ (∀ m ∈ ms, okPs m.2.2.2 ∧ m.2.2.2.length ≤ 60 ∧ b8 m.1) ∧ (ms.map (fun m => m.1)).Nodup
section OK
variable {g : sG} {B : Nat}
theorem okG.pl (h : okG g) {i : Nat} {l : sL} (hl : okL l) (h4 : i = 4 → l.1 = 1) : okG (pl g i l) := by
  obtain ⟨a, b, c, d, e⟩ := h
  refine ⟨a, b, fun j hj => ?_, ?_, e⟩
  · show okL (va_up (gl g) i l j)
    by_cases hc : j = i
    · subst hc; rw [va_up_self]; exact hl
    · rw [va_up_ne _ _ hc]; exact c j hj
  · show (va_up (gl g) i l 4).1 = 1
    by_cases hc : 4 = i
    · subst hc; rw [va_up_self]; exact h4 rfl
    · rw [va_up_ne _ _ hc]; exact d
theorem okG.pc (h : okG g) {k : Nat} {v : Int32} (h0 : k ≠ 0) (h1 : k ≠ 1) : okG (pc g k v) := by
  obtain ⟨a, b, c⟩ := h
  refine ⟨?_, ?_, c⟩
  · show ∃ b, 1 ≤ b ∧ b ≤ 8 ∧ va_up (gc g) k v 0 = nI b
    rw [va_up_ne _ _ (Ne.symm h0)]; exact a
  · show ∃ t, 1 ≤ t ∧ t ≤ 100 ∧ va_up (gc g) k v 1 = nI t
    rw [va_up_ne _ _ (Ne.symm h1)]; exact b
theorem okT.pc (h : okT g B) {k : Nat} {v : Int32} (h3 : k ≠ 3) : okT (pc g k v) B := by
  obtain ⟨c, hc, hg, hr⟩ := h
  refine ⟨c, hc, ?_, hr⟩
  show va_up (gc g) k v 3 = nI c
  rw [va_up_ne _ _ (Ne.symm h3)]; exact hg
theorem okG.pq (h : okG g) {r : Nat} {d : sR} (hr : r < gn g) (hd : okR r d) : okG (pq g r d) := by
  obtain ⟨a, b, c, e, f, i, j⟩ := h
  refine ⟨a, b, c, e, f, fun s hs => ?_, j⟩
  show okR s (va_up (gq g) r d s)
  by_cases hc : s = r
  · subst hc; rw [va_up_self]; exact hd
  · rw [va_up_ne _ _ hc]; exact i s hs
theorem okT.pq (h : okT g B) {r : Nat} {d : sR} (hr : r < gn g) (hd : d.1 14 = 0 → ((gq g r).1 14 = 0 ∧ d.1 12 = (gq g r).1 12) ∨ d.1 12 = gc g 3) : okT (pq g r d) B := by
  obtain ⟨c, hc, hg, hq⟩ := h
  refine ⟨c, hc, hg, fun s hs hz => ?_⟩
  have hz' : (va_up (gq g) r d s).1 14 = 0 := hz
  show ∃ t, t ≤ c ∧ (va_up (gq g) r d s).1 12 = nI t
  by_cases hsr : s = r
  · subst hsr
    rw [va_up_self] at hz' ⊢
    rcases hd hz' with ⟨q1, q2⟩ | q
    · rw [q2]; exact hq s hs q1
    · exact ⟨c, Nat.le_refl _, by rw [q, hg]⟩
  · rw [va_up_ne _ _ hsr] at hz' ⊢
    exact hq s hs hz'
theorem okG.pm (h : okG g) {ms : List sM} (hm : okM ms) : okG (pm g ms) := by
  obtain ⟨a, b, c, d, e, f, i, j, k⟩ := h
  exact ⟨a, b, c, d, e, f, i, j, hm⟩
theorem okG.pe (h : okG g) {i : Nat} {v : Int32} : okG (pe g i v) := h
-- frames are bytes
theorem b8_sum {kind num : Int32} {bs : List Int32} (hk : b8 kind) (hn : b8 num) (hb : ∀ b ∈ bs, b8 b) (hl : bs.length ≤ 18) : b8 (sSum kind num bs) := by
  unfold sSum
  have key : ∀ (l : List Int32) (a : Int32), b8 a → (∀ b ∈ l, b8 b) → b8 (sXor a l) := by
    intro l
    induction l with
    | nil => exact fun a ha _ => ha
    | cons y l ih => exact fun a ha hl => ih _ (b8_xor ha (hl y List.mem_cons_self)) (fun b hb => hl b (List.mem_cons_of_mem _ hb))
  exact key bs _ (b8_xor (b8_xor hk hn) (b8_nI (by omega))) hb
theorem b8_frame {kind num : Int32} {bs : List Int32} (hk : b8 kind) (hn : b8 num) (hb : ∀ b ∈ bs, b8 b) (hl : bs.length ≤ 18) : ∀ b ∈ sFrame kind num bs, b8 b := by
  intro b hm
  simp only [sFrame, List.mem_append, List.mem_cons, List.not_mem_nil, or_false] at hm
  rcases hm with ((rfl | rfl | rfl | rfl) | hm) | rfl
  · exact b8_nI (n := 126) (by decide)
  · exact hk
  · exact hn
  · exact b8_nI (by omega)
  · exact hb b hm
  · exact b8_sum hk hn hb hl
theorem okG.send (h : okG g) {i : Nat} {kind num : Int32} {bs : List Int32} (hi : i < 5) (hk : b8 kind) (hn : b8 num) (hb : ∀ b ∈ bs, b8 b) (hl : bs.length ≤ 18) : okG (sSendTo g i kind num bs).2 := by
  unfold sSendTo
  by_cases hc : (gl g i).1 = 0 ∨ 300 < (gl g i).2.1.length + bs.length + 5
  · rw [if_pos hc]; exact h.pc (by decide) (by decide)
  · rw [if_neg hc]
    obtain ⟨o1, o2, o3, o4⟩ := h.2.2.1 i hi
    refine h.pl ⟨o1, fun b hm => ?_, ?_, o4⟩ (fun q => by subst q; exact h.2.2.2.1)
    · rcases List.mem_append.mp hm with q | q
      · exact o2 b q
      · exact b8_frame hk hn hb hl b q
    · show ((gl g i).2.1 ++ sFrame kind num bs).length ≤ 300
      rw [List.length_append, sFrame_len]
      exact Nat.not_lt.mp (fun q => hc (Or.inr (by omega)))
theorem okT.send (h : okT g B) {i : Nat} {kind num : Int32} {bs : List Int32} : okT (sSendTo g i kind num bs).2 B := by
  unfold sSendTo
  split
  · exact h.pc (by decide)
  · exact h
theorem b8_kind {k : Int32} (h : k = 1 ∨ k = 3) : b8 k := by
  rcases h with rfl | rfl
  · exact b8_nI (n := 1) (by decide)
  · exact b8_nI (n := 3) (by decide)
theorem okG.sreq (h : okG g) {r : Nat} (hr : r < gn g) (hw : (gq g r).1 14 = 0) (v : Int32) : okG (sSendReq g r v).2 := by
  have ho := h.2.2.2.2.2.1 r hr
  obtain ⟨⟨hh, hh4, hhe⟩, -⟩ := id ho
  obtain ⟨-, -, hk, hb, hl⟩ := ho.2.2.2.2.2.2.2.2.1 hw
  unfold sSendReq
  have hhN : hN ((gq g r).1 0) = hh := by rw [hhe]; exact nI_clamp (by omega)
  rw [hhN]
  have h24 := h.2.2.2.2.1
  exact (h.pq hr (ho.sent (gc g 3) v)).send (by omega) (b8_kind hk) (b8_nI (by omega)) hb hl
theorem okT.sreq (h : okT g B) {r : Nat} (hr : r < gn g) (v : Int32) : okT (sSendReq g r v).2 B := by
  unfold sSendReq
  exact (h.pq hr (fun _ => Or.inr (by show va_up (va_up (gq g r).1 12 (gc g 3)) 13 v 12 = gc g 3; rw [va_up_ne _ _ (by decide), va_up_self]))).send
end OK
