/-! The serving end of the class: the memory that a new asking may use. -/
def sg (i N k : Nat) : Nat := if k < i then k else if k + 1 < N then k + 1 else if k + 1 = N then i else k
theorem sg_lt {i N k : Nat} (hi : i < N) (hN : N ≤ 8) (hk : k < 8) : sg i N k < 8 := by
  unfold sg
  split
  · omega
  · split
    · omega
    · split <;> omega
theorem sg_inj {i N a b : Nat} (hi : i < N) (h : sg i N a = sg i N b) : a = b := by
  unfold sg at h
  repeat' split at h
  all_goals omega
theorem turn_at {α : Type} {l : List α} {i : Nat} (hi : i < l.length) (k : Nat) : (l.eraseIdx i ++ [l[i]])[k]? = if k < l.length then l[sg i l.length k]? else none := by
  have hle : (l.eraseIdx i).length = l.length - 1 := List.length_eraseIdx_of_lt hi
  by_cases h1 : k < l.length - 1
  · rw [List.getElem?_append_left (by omega), if_pos (by omega), List.getElem?_eraseIdx]
    unfold sg
    by_cases h2 : k < i
    · rw [if_pos h2, if_pos h2]
    · rw [if_neg h2, if_neg h2, if_pos (by omega)]
  · by_cases h2 : k = l.length - 1
    · rw [List.getElem?_append_right (by omega), hle, h2, Nat.sub_self, if_pos (by omega)]
      unfold sg
      rw [if_neg (by omega), if_neg (by omega), if_pos (by omega)]
      simp [hi]
    · rw [if_neg (by omega)]
      exact List.getElem?_eq_none (by simp; omega)
section SV2
variable {S S' : fw_S} {e : Nat} {p : Nat → Nat} {fa : sPs} {ms : List sM}
/-- stores that are alike but for the row of memories, and the count -/
def tw (e : Nat) (S S' : fw_S) : Prop := (∀ b, b ≠ e → fw_g S' b = fw_g S b) ∧ (∀ k, k ≠ 2 → fw_g S' e k = fw_g S e k) ∧ (∀ b, b ≠ e + 4 → fw_r S' b = fw_r S b) ∧ (∀ b, fw_l S' b = fw_l S b) ∧ fw_z S' = fw_z S
theorem tw.sam {S S' : fw_S} {e lo n : Nat} (h : tw e S S') (h1 : e < lo ∨ lo + n ≤ e) (h2 : e + 4 < lo ∨ lo + n ≤ e + 4) : sam S S' lo n := fun a h3 h4 => ⟨h.1 a (by omega), h.2.2.1 a (by omega), h.2.2.2.1 a⟩
theorem SvX.turn (h : SvX S e p fa ms) {i : Nat} (hi : i < ms.length) : ∃ S', F_ServingEnd_memoryFor_l45x 4096 e (e + 7 + 4 * p i) (nI i) S = some (some (e + 7 + 4 * p i), S') ∧ SvX S' e (fun k => p (sg i ms.length k)) fa (ms.eraseIdx i ++ [ms[i]]) ∧ tw e S S' := by
  obtain ⟨⟨r0, r1, r4, l4⟩, hf, hp, hj, hm, hn, hl, hms, k, n, bs, hF⟩ := h
  obtain ⟨S', p1, g1, r1', l1, z1, k1⟩ := SvX.turnL (e := e) (a := e + 7 + 4 * p i) (N := ms.length) (by omega) hl 4096 i S r1 l4 hn (fun k hk => ⟨_, (hp k hk).1⟩) (by omega) (by omega)
  have hg : ∀ b, fw_g S' b = fw_g S b := fun b => by unfold fw_g; rw [g1]
  have htw : tw e S S' := ⟨fun b _ => hg b, fun k _ => by rw [hg], r1', l1, z1⟩
  refine ⟨S', p1, ⟨⟨by rw [r1' _ (by omega)]; exact r0, by rw [r1' _ (by omega)]; exact r1, by rw [r1' _ (by omega)]; exact r4, by rw [l1]; exact l4⟩, hf.blk (htw.sam (by omega) (by omega)), fun j hj8 => ?_, fun a b ha hb hab => ?_, fun j hj8 => ?_, ?_, ?_, fun j m hjm => ?_, k, n, bs, hF.blk (htw.sam (by omega) (by omega))⟩, htw⟩
  · refine ⟨?_, (hp _ (sg_lt hi hl hj8)).2⟩
    rw [k1 j]
    show _ = some (e + 7 + 4 * p (sg i ms.length j))
    unfold sg
    by_cases c1 : j < i
    · rw [if_pos c1, if_pos c1]; exact (hp j hj8).1
    · by_cases c2 : j + 1 < ms.length
      · rw [if_neg c1, if_neg c1, if_pos c2, if_pos c2]; exact (hp (j + 1) (by omega)).1
      · by_cases c3 : j + 1 = ms.length
        · rw [if_neg c1, if_neg c1, if_neg c2, if_neg c2, if_pos c3, if_pos c3]
        · rw [if_neg c1, if_neg c1, if_neg c2, if_neg c2, if_neg c3, if_neg c3]; exact (hp j hj8).1
  · exact sg_inj hi (hj _ _ (sg_lt hi hl ha) (sg_lt hi hl hb) hab)
  · obtain ⟨m, hm1⟩ := hm j hj8
    exact ⟨m, hm1.blk (htw.sam (by omega) (by omega))⟩
  · rw [hg, hn]
    simp [List.length_eraseIdx_of_lt hi]
    congr 1
    omega
  · simp [List.length_eraseIdx_of_lt hi]
    omega
  · rw [turn_at hi] at hjm
    by_cases c : j < ms.length
    · rw [if_pos c] at hjm
      exact (hms _ m hjm).blk (htw.sam (by omega) (by omega))
    · rw [if_neg c] at hjm
      cases hjm
def sBase (ms : List sM) (x : Int32) : List sM := match sPlace ms x with
  | some i => ms.eraseIdx i
  | none => if ms.length = 8 then ms.eraseIdx 0 else ms
theorem SvX.memFor (h : SvX S e p fa ms) (x : Int32) : ∃ S' p' m, F_ServingEnd_memoryFor e x S = some (some (e + 7 + 4 * p' (sBase ms x).length), S') ∧ SvX S' e p' fa (sBase ms x ++ [m]) ∧ tw e S S' := by
  have hl := h.2.2.2.2.2.2.1
  unfold F_ServingEnd_memoryFor sBase
  rw [h.place x, Option.bind_some]
  cases hpl : sPlace ms x with
  | some i =>
    obtain ⟨hi, -⟩ := sPlace_lt hpl
    obtain ⟨S', p1, h1, t1⟩ := h.turn hi
    refine ⟨S', _, _, ?_, h1, t1⟩
    simp only
    rw [if_pos (nI_pos' (by omega)), h.memAt hi, Option.bind_some]
    simp only [fw_om]
    rw [p1]
    have : sg i ms.length (ms.eraseIdx i).length = i := by
      rw [List.length_eraseIdx_of_lt hi]
      unfold sg
      rw [if_neg (by omega), if_neg (by omega), if_pos (by omega)]
    rw [this]
  | none =>
    simp only
    rw [if_neg (by decide)]
    by_cases h8 : ms.length = 8
    · have hi : 0 < ms.length := by omega
      obtain ⟨S', p1, h1, t1⟩ := h.turn hi
      refine ⟨S', _, _, ?_, by rw [if_pos h8]; exact h1, t1⟩
      rw [if_pos (by rw [h.2.2.2.2.2.1, h8]; decide), show (0 : Int32) = nI 0 from rfl, h.memAt hi, Option.bind_some]
      simp only [fw_om]
      rw [p1, if_pos h8]
      have : sg 0 ms.length (ms.eraseIdx 0).length = 0 := by
        rw [List.length_eraseIdx_of_lt hi]
        unfold sg
        rw [if_neg (by omega), if_neg (by omega), if_pos (by omega)]
      rw [this]
    · have hlt : ms.length < 8 := by omega
      have e8 : ¬ (8 : Int32) ≤ nI ms.length := nI_ge (b := 8) hlt (by omega)
      obtain ⟨⟨r0, r1, r4, l4⟩, hf, hp, hj, hm, hn, -, hms, k, n, bs, hF⟩ := h
      obtain ⟨m, hm1⟩ := hm (p ms.length) (hp _ hlt).2
      have ht0 : tw e S (fw_wi S e 2 (nI (ms.length + 1))) := ⟨fun b hb => fw_g_wi_ne hb, fun k hk => g_k hk, fun _ _ => rfl, fun _ => rfl, rfl⟩
      have h1 : SvX (fw_wi S e 2 (nI (ms.length + 1))) e p fa (ms ++ [m]) := by
        refine ⟨⟨r0, r1, r4, l4⟩, hf.blk (ht0.sam (by omega) (by omega)), hp, hj, fun j hj8 => ?_, ?_, ?_, fun j m' hjm => ?_, k, n, bs, hF.blk (ht0.sam (by omega) (by omega))⟩
        · obtain ⟨m', hm'⟩ := hm j hj8
          exact ⟨m', hm'.blk (ht0.sam (by omega) (by omega))⟩
        · rw [g_s]; simp
        · simp; omega
        · by_cases c : j < ms.length
          · rw [List.getElem?_append_left c] at hjm
            exact (hms j m' hjm).blk (ht0.sam (by omega) (by omega))
          · have hjl := (List.getElem?_eq_some_iff.mp hjm).1
            simp at hjl
            have hje : j = ms.length := by omega
            subst hje
            simp at hjm
            subst hjm
            exact hm1.blk (ht0.sam (by omega) (by omega))
      have hi : ms.length < (ms ++ [m]).length := by simp
      obtain ⟨S', p1, h2, t1⟩ := h1.turn hi
      have hlast : (ms ++ [m]).eraseIdx ms.length = ms := by
        rw [List.eraseIdx_append_of_length_le (Nat.le_refl _)]
        simp
      have hget : (ms ++ [m])[ms.length] = m := by simp
      rw [hlast, hget] at h2
      refine ⟨S', _, _, ?_, by rw [if_neg h8]; exact h2, ?_⟩
      · simp only [fw_let]
        rw [hn, if_neg e8, nI_1, h1.memAt hi, Option.bind_some]
        simp only [fw_om]
        rw [p1, if_neg h8]
        have : sg ms.length (ms ++ [m]).length ms.length = ms.length := by
          unfold sg
          rw [if_neg (by omega), if_neg (by simp), if_pos (by simp)]
        rw [this]
      · exact ⟨fun b hb => by rw [t1.1 b hb, ht0.1 b hb], fun k hk => by rw [t1.2.1 k hk, ht0.2.1 k hk], fun b hb => by rw [t1.2.2.1 b hb, ht0.2.2.1 b hb], fun b => by rw [t1.2.2.2.1 b, ht0.2.2.2.1 b], by rw [t1.2.2.2.2, ht0.2.2.2.2]⟩
end SV2
