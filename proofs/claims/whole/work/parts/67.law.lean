/-! The run of calls: class and reference answer alike, turn by turn. -/
theorem law_run {L : Nat} (hL : L ≤ 2048) (xs : Nat → Int32) (x : Nat) : ∀ (n k : Nat) (S : fw_S), Go S x (250 * k) → k ≤ L → L < k + 4 * n → F_Law_l L xs n x (x + 67) (nI k) S = some 1 := by
  intro n
  induction n with
  | zero => intro k S _ h1 h2; omega
  | succ n ih =>
    intro k S h h1 h2
    rw [F_Law_l]
    by_cases hk : k + 4 ≤ L
    · have e4 : nI L - 4 = nI (L - 4) := nI_sub (a := L) (b := 4) (by omega)
      rw [e4, if_neg (nI_nlt (by omega) (by omega))]
      have hG : Go S x (250 * (k + 4)) := h.up (by omega)
      have hT : ∀ v, Two (F_FW_tick x v S) (F_Mo_tick (x + 67) v) x (250 * (k + 4)) := fun v => by
        have := h.tickT (by omega) v
        rw [show 250 * k + 1000 = 250 * (k + 4) by omega] at this
        exact this
      have hK : ∀ S', Go S' x (250 * (k + 4)) → F_Law_l L xs n x (x + 67) (nI (k + 4)) S' = some 1 := fun S' hS' => ih (k + 4) S' hS' (by omega) (by omega)
      have k0 : (nI k).toNatClampNeg = k := nI_clamp (by omega)
      have k1 : (nI (k + 1)).toNatClampNeg = k + 1 := nI_clamp (by omega)
      have k2 : (nI (k + 2)).toNatClampNeg = k + 2 := nI_clamp (by omega)
      have k3 : (nI (k + 3)).toNatClampNeg = k + 3 := nI_clamp (by omega)
      have n0 : (nI k < 0 ∨ L ≤ k) = False := eq_false (fun z => z.elim (fun z => nI_pos (by omega) z) (fun z => by omega))
      have n1 : (nI (k + 1) < 0 ∨ L ≤ k + 1) = False := eq_false (fun z => z.elim (fun z => nI_pos (by omega) z) (fun z => by omega))
      have n2 : (nI (k + 2) < 0 ∨ L ≤ k + 2) = False := eq_false (fun z => z.elim (fun z => nI_pos (by omega) z) (fun z => by omega))
      have n3 : (nI (k + 3) < 0 ∨ L ≤ k + 3) = False := eq_false (fun z => z.elim (fun z => nI_pos (by omega) z) (fun z => by omega))
      simp only [nI_1, a2, a3, a4, k0, k1, k2, k3, n0, n1, n2, n3, if_false]
      by_cases c0 : xs k &&& 15 = 0
      · rw [if_pos c0]
        exact two_fin (hG.upT _) hK
      rw [if_neg c0]
      by_cases c1 : xs k &&& 15 = 1
      · rw [if_pos c1]
        exact two_fin (hG.downT _) hK
      rw [if_neg c1]
      by_cases c2 : xs k &&& 15 = 2
      · rw [if_pos c2]
        exact two_fin (hG.setT _ _) hK
      rw [if_neg c2]
      by_cases c3 : xs k &&& 15 = 3
      · rw [if_pos c3]
        exact two_fin (hG.bindT _ _) hK
      rw [if_neg c3]
      by_cases c4 : xs k &&& 15 = 4
      · rw [if_pos c4]
        by_cases hs : xs (k + 2) = 0
        · simp only [hs, ↓reduceIte]
          exact two_fin (hG.askT _ 0 (Or.inl rfl)) hK
        · simp only [hs, ↓reduceIte]
          exact two_fin (hG.askT _ 1 (Or.inr rfl)) hK
      rw [if_neg c4]
      by_cases c5 : xs k &&& 15 = 5
      · rw [if_pos c5]
        exact two_fin (hG.octT _ _) hK
      rw [if_neg c5]
      by_cases c6 : xs k &&& 15 = 6
      · rw [if_pos c6]
        exact two_fin (hG.outT _) hK
      rw [if_neg c6]
      by_cases c7 : xs k &&& 15 = 7
      · rw [if_pos c7]
        exact two_fin (hG.loopT _ _) hK
      rw [if_neg c7]
      by_cases c8 : xs k &&& 15 = 8
      · rw [if_pos c8]
        exact two_fin (hT _) hK
      rw [if_neg c8]
      by_cases c9 : xs k &&& 15 = 9
      · rw [if_pos c9]
        exact tel_fin (hG.toldT _ _) (hK S hG)
      rw [if_neg c9]
      by_cases c10 : xs k &&& 15 = 10
      · rw [if_pos c10]
        exact tel_fin (hG.rowT _ _ _) (hK S hG)
      rw [if_neg c10]
      by_cases c11 : xs k &&& 15 = 11
      · rw [if_pos c11]
        exact tel_fin (hG.joinT _ _ _) (hK S hG)
      rw [if_neg c11]
      by_cases c12 : xs k &&& 15 = 12
      · rw [if_pos c12]
        exact tel_fin (hG.estT _) (hK S hG)
      rw [if_neg c12]
      by_cases c13 : xs k &&& 15 = 13
      · rw [if_pos c13]
        exact two_fin (hG.factT _ _) hK
      rw [if_neg c13]
      by_cases c14 : xs k &&& 15 = 14
      · rw [if_pos c14]
        exact tel_fin (hG.countT _) (hK S hG)
      rw [if_neg c14]
      by_cases c15 : xs k &&& 15 = 15
      · rw [if_pos c15]
        exact tel_fin (hG.lineT _ _) (hK S hG)
      rw [if_neg c15]
      exact hK S hG
    · have hlt : nI L - 4 < nI k := by
        by_cases h4 : 4 ≤ L
        · have e4 : nI L - 4 = nI (L - 4) := nI_sub (a := L) (b := 4) h4
          rw [e4]
          exact nI_lt (by omega) (by omega)
        · have hneg : nI L - 4 < 0 := by
            rcases (show L = 0 ∨ L = 1 ∨ L = 2 ∨ L = 3 by omega) with rfl | rfl | rfl | rfl <;> decide
          exact Int32.lt_of_lt_of_le hneg (Int32.not_lt.mp (nI_pos (by omega)))
      rw [if_pos hlt]
theorem ok0 : okG sG0 ∧ okT sG0 0 := by
  refine ⟨⟨⟨4, by decide, by decide, rfl⟩, ⟨10, by decide, by decide, rfl⟩, fun i _ => ⟨?_, fun b hb => (by cases hb), by show (0 : Nat) ≤ 300; omega, okO_nil⟩, rfl, by show (0 : Nat) ≤ 24; omega, fun r hr => absurd hr (Nat.not_lt_zero r), ⟨by show (0 : Nat) ≤ 20; omega, fun y hy => (by cases hy)⟩, ⟨by show (0 : Nat) ≤ 60; omega, fun y hy => (by cases hy)⟩, by show (0 : Nat) ≤ 8; omega, fun y hy => (by cases hy), List.nodup_nil⟩, ⟨0, Nat.le_refl _, rfl, fun r hr => absurd hr (Nat.not_lt_zero r)⟩⟩
  show (if i = 4 then (1 : Int32) else 0) = 0 ∨ (if i = 4 then (1 : Int32) else 0) = 1
  split
  · exact Or.inr rfl
  · exact Or.inl rfl
theorem fw_sim (z L : Nat) (xs : Nat → Int32) (hL : L ≤ 2048) : F_Law L xs (fw_S0 z) = some 1 := by
  have z0 : fw_z (fw_S0 z) = z := rfl
  obtain ⟨S1, e1, hz1, s1, hsh, hsc, hln, g2, hP, ⟨hV, hv3⟩, hE⟩ := FW_new (S := fw_nw (fw_S0 z) 0) (x := z) (by rw [fw_z_nw, z0])
  obtain ⟨S2, e2, hM, z2, s2⟩ := Mo_new (S := fw_nw S1 0) (m := z + 67) (by rw [fw_z_nw, hz1]) (fun k => g_ns hz1)
  have hs : sam S1 S2 0 (z + 67) := (sam_nw (by omega)).tr s2
  have hX : RX S2 S2 z id id sG0 := by
    refine ⟨fun b _ _ => ⟨rfl, rfl, rfl⟩, hsh.blk (hs z (by omega) (by omega)).2.1 (hs (z + 1) (by omega) (by omega)).2.1 (fun a _ _ => (hs a (by omega) (by omega)).2.2), hsc.blk (hs z (by omega) (by omega)).1, fun i hi => (hln i hi).blk (hs.sub (by omega) (by omega)), ⟨?_, by show (0 : Nat) ≤ 24; omega, fun r hr => absurd hr (Nat.not_lt_zero r), fun r s hr => absurd hr (Nat.not_lt_zero r), by rw [z2]; omega⟩, hP.blk (hs.sub (by omega) (by omega)), ⟨hV.blk (hs.sub (by omega) (by omega)), ?_⟩, fun i hi => ?_⟩
    · rw [(hs z (by omega) (by omega)).1]; exact g2
    · rw [(hs (z + 6) (by omega) (by omega)).1]; exact hv3
    · rw [(hs (z + 45) (by omega) (by omega)).1, (hs (z + 46) (by omega) (by omega)).1]; exact hE i hi
  have hrun := law_run hL xs z 600 0 S2 ⟨id, id, sG0, hX, hM, ok0.1, ok0.2⟩ (by omega) (by omega)
  unfold F_Law
  rw [let_i, let_i, z0, e1, Option.bind_some, let_i, let_i, hz1, e2, Option.bind_some, show (0 : Int32) = nI 0 from rfl]
  exact hrun
