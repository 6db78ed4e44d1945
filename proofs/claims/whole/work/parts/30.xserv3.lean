/-! The serving end of the class: rows that are remembered and answered. -/
def sFind (fa : sPs) (ks : List Int32) (R : sPs) : sPs := ks.foldl (fun R k => (sHit k fa).foldl sAdd R) R
theorem sAdd_le {R : sPs} {x : Int32 × Int32} (h : R.length ≤ 60) : (sAdd R x).length ≤ 60 := by
  unfold sAdd
  split
  · simp; omega
  · exact h
section SV3
variable {e a fr : Nat} {fa : sPs} {kind num : Int32} {bs : List Int32}
theorem memI (k39 : Nat → Nat → Nat → Int32 → fw_S → Option fw_S) (hfr : fr + 1 < a + 1 ∨ a + 4 ≤ fr) (he : e + 3 < a ∨ a + 4 ≤ e) {i : Nat} (hi : i < 2 ^ 31) : ∀ (n j : Nat) (S : fw_S) (R : sPs), fw_r S e 0 = some (e + 1) → PrX S (e + 1) 60 fa → FrX S fr kind num bs → fw_r S a 3 = some (a + 1) → PrX S (a + 1) 60 R → j ≤ fa.length → fa.length < j + n →
    ∃ S', F_ServingEnd_remember_l50 k39 n e a fr (nI i) (nI j) S = k39 e a fr (nI (i + 1)) S' ∧ PrX S' (a + 1) 60 ((sHit (bs.getD i 0) (fa.drop j)).foldl sAdd R) ∧ sm S S' ∧ ∀ b, (b < a + 1 ∨ a + 1 + 3 ≤ b) → fw_g S' b = fw_g S b := by
  intro n
  induction n with
  | zero => intro j S R h1 h2 h3 h4 h5 h6 h7; omega
  | succ n ih =>
    intro j S R h1 h2 h3 h4 h5 h6 h7
    have hl := h2.2.2.2.2.2.2.1
    rw [F_ServingEnd_remember_l50, h1]
    simp only [fw_om]
    rw [h2.2.2.2.2.2.1]
    by_cases hlt : j < fa.length
    · have hgj := List.getElem?_eq_getElem hlt
      rw [if_neg (nI_ge hlt (by omega)), h2.key hgj, Option.bind_some, h3.at i hi, Option.bind_some, nI_1]
      rw [List.drop_eq_getElem_cons hlt, sHit_cons]
      by_cases hc : fa[j].1 = bs.getD i 0
      · rw [if_pos hc, if_pos hc, h4]
        simp only [Option.bind_some]
        rw [h2.val hgj, Option.bind_some]
        obtain ⟨v, S1, p1, q1, s1, g1⟩ := PrX.add60 h5 fa[j]
        rw [p1]
        simp only [fw_b2]
        obtain ⟨S2, p2, q2, s2, g2⟩ := ih (j + 1) S1 _ (by rw [sm_r s1]; exact h1) (h2.keep s1 (fun b _ _ => g1 b (by omega))) (h3.keep s1 (g1 _ (by omega)) (g1 _ (by omega))) (by rw [sm_r s1]; exact h4) q1 (by omega) (by omega)
        exact ⟨S2, p2, q2, sm_tr s1 s2, fun b hb => by rw [g2 b hb, g1 b hb]⟩
      · rw [if_neg hc, if_neg hc]
        obtain ⟨S2, p2, q2, s2, g2⟩ := ih (j + 1) S R h1 h2 h3 h4 h5 (by omega) (by omega)
        exact ⟨S2, p2, q2, s2, g2⟩
    · rw [if_pos (nI_le (by omega) (by omega)), List.drop_eq_nil_of_le (by omega), nI_1]
      exact ⟨S, rfl, h5, rfl, fun _ _ => rfl⟩
theorem memO (hfr : fr + 1 < a + 1 ∨ a + 4 ≤ fr) (he : e + 3 < a ∨ a + 4 ≤ e) : ∀ (n i : Nat) (S : fw_S) (R : sPs), fw_r S e 0 = some (e + 1) → PrX S (e + 1) 60 fa → FrX S fr kind num bs → fw_r S a 3 = some (a + 1) → PrX S (a + 1) 60 R → i ≤ bs.length → bs.length < i + n →
    ∃ S', F_ServingEnd_remember_l39 n e a fr (nI i) S = some S' ∧ PrX S' (a + 1) 60 (sFind fa (bs.drop i) R) ∧ sm S S' ∧ ∀ b, (b < a + 1 ∨ a + 1 + 3 ≤ b) → fw_g S' b = fw_g S b := by
  intro n
  induction n with
  | zero =>
    intro i S R h1 h2 h3 h4 h5 h6 h7
    omega
  | succ n ih =>
    intro i S R h1 h2 h3 h4 h5 h6 h7
    have hl18 := h3.2.2.2.2.2.1
    have hfl := h2.2.2.2.2.2.2.1
    rw [F_ServingEnd_remember_l39, h3.2.2.2.2.1]
    by_cases hlt : i < bs.length
    · rw [if_neg (nI_ge hlt (by omega)), show (0 : Int32) = nI 0 from rfl]
      obtain ⟨S1, p1, q1, s1, g1⟩ := memI (F_ServingEnd_remember_l39 n) hfr he (i := i) (by omega) 4096 0 S R h1 h2 h3 h4 h5 (Nat.zero_le _) (by omega)
      rw [p1]
      obtain ⟨S2, p2, q2, s2, g2⟩ := ih (i + 1) S1 _ (by rw [sm_r s1]; exact h1) (h2.keep s1 (fun b _ _ => g1 b (by omega))) (h3.keep s1 (g1 _ (by omega)) (g1 _ (by omega))) (by rw [sm_r s1]; exact h4) q1 (by omega) (by omega)
      refine ⟨S2, p2, ?_, sm_tr s1 s2, fun b hb => by rw [g2 b hb, g1 b hb]⟩
      rw [List.drop_eq_getElem_cons hlt]
      have hgd : bs.getD i 0 = bs[i] := by simp [hlt]
      rw [hgd, List.drop_zero] at q2
      exact q2
    · rw [if_pos (nI_le (by omega) (by omega)), List.drop_eq_nil_of_le (by omega)]
      exact ⟨S, rfl, h5, rfl, fun _ _ => rfl⟩
theorem memR {S : fw_S} (hfr : fr + 1 < a ∨ a + 4 ≤ fr) (he : e + 3 < a ∨ a + 4 ≤ e) (h1 : fw_r S e 0 = some (e + 1)) (h2 : PrX S (e + 1) 60 fa) (h3 : FrX S fr kind num bs) {m : sM} (h4 : MmX S a m) (hbs : 1 ≤ bs.length) :
    ∃ S', F_ServingEnd_remember e a fr S = some S' ∧ MmX S' a (num, bs.getD 0 0, bs.getD 0 0, sFind fa (bs.drop 1) []) ∧ sm S S' ∧ ∀ b, (b < a ∨ a + 4 ≤ b) → fw_g S' b = fw_g S b := by
  obtain ⟨m1, m2, m3, m4, m5⟩ := h4
  have hk : ∀ b, b ≠ a → b ≠ a + 1 → fw_g (fw_wi (fw_wi (fw_wi (fw_wi S a 0 num) a 1 (bs.getD 0 0)) a 2 (bs.getD 0 0)) (a + 1) 2 0) b = fw_g S b := fun b hb hb' => by rw [fw_g_wi_ne hb', fw_g_wi_ne hb, fw_g_wi_ne hb, fw_g_wi_ne hb]
  have c5 := (PrX.clear (m5.keep (S' := fw_wi (fw_wi (fw_wi S a 0 num) a 1 (bs.getD 0 0)) a 2 (bs.getD 0 0)) rfl (fun b h1 h2 => by rw [fw_g_wi_ne (by omega), fw_g_wi_ne (by omega), fw_g_wi_ne (by omega)])))
  have h3' : FrX (fw_wi S a 0 num) fr kind num bs := h3.keep rfl (fw_g_wi_ne (by omega)) (fw_g_wi_ne (by omega))
  obtain ⟨S1, p1, q1, s1, g1⟩ := memO (a := a) (fr := fr) (e := e) (by omega) he 4096 1 (fw_wi (fw_wi (fw_wi (fw_wi S a 0 num) a 1 (bs.getD 0 0)) a 2 (bs.getD 0 0)) (a + 1) 2 0) [] h1 (h2.keep rfl (fun b _ _ => hk b (by omega) (by omega))) (h3.keep rfl (hk _ (by omega) (by omega)) (hk _ (by omega) (by omega))) m1 c5.2 hbs (by have := h3.2.2.2.2.2.1; omega)
  refine ⟨S1, ?_, ⟨by rw [sm_r s1]; exact m1, ?_, ?_, ?_, q1⟩, s1, fun b hb => by rw [g1 b (by omega), hk b (by omega) (by omega)]⟩
  · unfold F_ServingEnd_remember
    simp only [fw_let]
    have e0 : F_Frame_byteAt fr 0 (fw_wi S a 0 num) = some (bs.getD 0 0) := h3'.at 0 (by decide)
    rw [h3.2.2.2.1, e0, Option.bind_some, g_s]
    show fw_om (fw_r S a 3) none _ = _
    rw [m1]
    simp only [fw_om]
    rw [c5.1, Option.bind_some]
    exact p1
  · rw [g1 a (by omega), g_a (by omega), g_k (by decide), g_k (by decide), g_s]
  · rw [g1 a (by omega), g_a (by omega), g_k (by decide), g_s]
  · rw [g1 a (by omega), g_a (by omega), g_s]
def sFlat (R : sPs) : List Int32 := R.flatMap (fun x => [x.1, x.2])
theorem sFlat_len (R : sPs) : (sFlat R).length = 2 * R.length := by
  induction R with
  | nil => rfl
  | cons x R ih =>
    have : sFlat (x :: R) = [x.1, x.2] ++ sFlat R := rfl
    rw [this, List.length_append, ih, List.length_cons]
    simp
    omega
theorem wrL {R : sPs} (hR : ∀ x ∈ R, b8 x.1 ∧ b8 x.2) (ha : e + 6 < a ∨ a + 4 ≤ e) {k2 n2 : Int32} {E : Nat} (hE : E ≤ R.length) : ∀ (n i : Nat) (S : fw_S) (bs : List Int32), fw_r S e 4 = some (e + 5) → fw_r S a 3 = some (a + 1) → PrX S (a + 1) 60 R → FrX S (e + 5) k2 n2 bs → i ≤ E → E < i + n → bs.length + 2 * (E - i) ≤ 18 →
    ∃ S', F_ServingEnd_writeRows_l68 n e a (nI E) (nI i) S = some S' ∧ FrX S' (e + 5) k2 n2 (bs ++ sFlat ((R.drop i).take (E - i))) ∧ sm S S' ∧ ∀ b, b ≠ e + 5 → b ≠ e + 6 → fw_g S' b = fw_g S b := by
  intro n
  induction n with
  | zero => intro i S bs h1 h2 h3 h4 h5 h6; omega
  | succ n ih =>
    intro i S bs h1 h2 h3 h4 h5 h6 h7
    have hl := h3.2.2.2.2.2.2.1
    rw [F_ServingEnd_writeRows_l68]
    by_cases hlt : i < E
    · have hi : i < R.length := by omega
      have hgi := List.getElem?_eq_getElem hi
      obtain ⟨S1, p1, q1, s1, g1⟩ := h4.put (by omega) R[i].1
      have b1 : R[i].1 &&& 255 = R[i].1 := (hR _ (List.getElem_mem hi)).1
      rw [b1] at q1
      have h3' : PrX S1 (a + 1) 60 R := h3.keep s1 (fun b _ _ => g1 b (by omega) (by omega))
      obtain ⟨S2, p2, q2, s2, g2⟩ := q1.put (by simp; omega) R[i].2
      have b2 : R[i].2 &&& 255 = R[i].2 := (hR _ (List.getElem_mem hi)).2
      rw [b2] at q2
      obtain ⟨S3, p3, q3, s3, g3⟩ := ih (i + 1) S2 _ (by rw [sm_r s2, sm_r s1]; exact h1) (by rw [sm_r s2, sm_r s1]; exact h2) (h3'.keep s2 (fun b _ _ => g2 b (by omega) (by omega))) q2 (by omega) (by omega) (by simp; omega)
      refine ⟨S3, ?_, ?_, sm_tr s1 (sm_tr s2 s3), fun b hb hb' => by rw [g3 b hb hb', g2 b hb hb', g1 b hb hb']⟩
      · rw [if_neg (nI_ge hlt (by omega)), h1, h2]
        simp only [fw_om]
        rw [h3.key hgi, Option.bind_some, p1, Option.bind_some, sm_r s1, sm_r s1, h1, h2]
        simp only
        rw [h3'.val hgi, Option.bind_some, p2, Option.bind_some, nI_1]
        exact p3
      · rw [List.drop_eq_getElem_cons hi, show E - i = (E - (i + 1)) + 1 by omega, List.take_succ_cons]
        have : sFlat (R[i] :: List.take (E - (i + 1)) (List.drop (i + 1) R)) = [R[i].1, R[i].2] ++ sFlat (List.take (E - (i + 1)) (List.drop (i + 1) R)) := rfl
        rw [this]
        simpa using q3
    · rw [if_pos (nI_le (by omega) (by omega)), show E - i = 0 by omega]
      exact ⟨S, rfl, by simpa [sFlat] using h4, rfl, fun _ _ _ => rfl⟩
def sRowsB (R : sPs) (step : Int32) (t : Nat) : List Int32 := [step, if t + 8 < R.length then 1 else 0] ++ sFlat ((R.drop t).take 8)
theorem wrR {S : fw_S} {m : sM} (hm : MmX S a m) (hR : ∀ x ∈ m.2.2.2, b8 x.1 ∧ b8 x.2) (ha : e + 6 < a ∨ a + 4 ≤ e) (h1 : fw_r S e 4 = some (e + 5)) {k2 n2 : Int32} {bs2 : List Int32} (hF : FrX S (e + 5) k2 n2 bs2) {step : Int32} (hst : b8 step) {t : Nat} (ht : t ≤ m.2.2.2.length) :
    ∃ S', F_ServingEnd_writeRows e a step (nI t) S = some S' ∧ FrX S' (e + 5) 2 m.1 (sRowsB m.2.2.2 step t) ∧ sm S S' ∧ ∀ b, b ≠ e + 5 → b ≠ e + 6 → fw_g S' b = fw_g S b := by
  obtain ⟨m1, m2, m3, m4, m5⟩ := hm
  have hl := m5.2.2.2.2.2.2.1
  have hn := m5.2.2.2.2.2.1
  obtain ⟨S1, p1, q1, s1, g1⟩ := FrX.begin hF.1 hF.2.1 2 m.1
  obtain ⟨S2, p2, q2, s2, g2⟩ := q1.put (by simp) step
  rw [hst] at q2
  have hb1 : b8 (if t + 8 < m.2.2.2.length then 1 else 0) := by split <;> (unfold b8; decide)
  obtain ⟨S3, p3, q3, s3, g3⟩ := q2.put (by simp) (if t + 8 < m.2.2.2.length then 1 else 0)
  rw [hb1] at q3
  have hE : (if nI m.2.2.2.length < nI (t + 8) then nI m.2.2.2.length else nI (t + 8)) = nI (min (t + 8) m.2.2.2.length) := by
    by_cases hc : m.2.2.2.length < t + 8
    · rw [if_pos (nI_lt hc (by omega)), Nat.min_eq_right (by omega)]
    · rw [if_neg (nI_nlt (by omega) (by omega)), Nat.min_eq_left (by omega)]
  have hk3 : ∀ b, b ≠ e + 5 → b ≠ e + 6 → fw_g S3 b = fw_g S b := fun b hb hb' => by rw [g3 b hb hb', g2 b hb hb', g1 b hb]
  have hk2 : ∀ b, b ≠ e + 5 → b ≠ e + 6 → fw_g S2 b = fw_g S b := fun b hb hb' => by rw [g2 b hb hb', g1 b hb]
  have s12 := sm_tr s1 s2
  have s13 := sm_tr s12 s3
  obtain ⟨S4, p4, q4, s4, g4⟩ := wrL hR ha (E := min (t + 8) m.2.2.2.length) (Nat.min_le_right _ _) 4096 t S3 _ (by rw [sm_r s13]; exact h1) (by rw [sm_r s13]; exact m1) (m5.keep s13 (fun b _ _ => hk3 b (by omega) (by omega))) q3 (by omega) (by omega) (by simp; omega)
  refine ⟨S4, ?_, ?_, sm_tr s13 s4, fun b hb hb' => by rw [g4 b hb hb', hk3 b hb hb']⟩
  · unfold F_ServingEnd_writeRows
    rw [m1]
    simp only [fw_om, fw_let]
    rw [hn, show (8 : Int32) = nI 8 from rfl, nI_add, hE, h1]
    simp only
    rw [m2, p1, Option.bind_some, sm_r s1, h1]
    simp only
    rw [p2, Option.bind_some, sm_r s12, sm_r s12, h1, m1]
    simp only
    rw [show fw_g S2 (a + 1) 2 = nI m.2.2.2.length by rw [hk2 _ (by omega) (by omega)]; exact hn]
    by_cases hc : t + 8 < m.2.2.2.length
    · rw [if_pos hc] at p3
      rw [if_neg (nI_ge (by omega) (by omega)), p3, Option.bind_some]
      exact p4
    · rw [if_neg hc] at p3
      rw [if_pos (nI_le (by omega) (by omega)), p3, Option.bind_some]
      exact p4
  · have : (m.2.2.2.drop t).take (min (t + 8) m.2.2.2.length - t) = (m.2.2.2.drop t).take 8 := by
      by_cases hc : t + 8 < m.2.2.2.length
      · rw [Nat.min_eq_left (by omega), Nat.add_sub_cancel_left]
      · rw [Nat.min_eq_right (by omega), List.take_of_length_le (by simp), List.take_of_length_le (by simp; omega)]
    rw [this] at q4
    unfold sRowsB
    simpa using q4
end SV3
