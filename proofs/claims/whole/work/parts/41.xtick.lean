/-! The class: the clock. -/
theorem sTickR_no : ∀ (k r : Nat) (w : Int32) (g : sG), (∀ s, r ≤ s → s < r + k → ¬ ((gq g s).1 14 = 0 ∧ gc g 1 ≤ gc g 3 - (gq g s).1 12)) → sTickR k r w g = (w, g) := by
  intro k
  induction k with
  | zero => intro r w g _; rfl
  | succ k ih =>
    intro r w g h
    unfold sTickR
    rw [if_neg (h r (Nat.le_refl _) (by omega))]
    exact ih _ _ _ (fun s h1 h2 => h s (by omega) (by omega))
theorem sTickR_add : ∀ (k r : Nat) (a w : Int32) (g : sG), sTickR k r (a + w) g = (a + (sTickR k r w g).1, (sTickR k r w g).2) := by
  intro k
  induction k with
  | zero => intro r a w g; rfl
  | succ k ih =>
    intro r a w g
    unfold sTickR
    split
    · split
      · exact ih _ _ _ _
      · rw [Int32.add_assoc]; exact ih _ _ _ _
    · exact ih _ _ _ _
section XC
variable {S0 S S' : fw_S} {x : Nat} {q p p' : Nat → Nat} {g : sG} {B : Nat}
theorem RX.dueL (h : RX S0 S x q p g) : ∀ (n r : Nat) (v : Int32), r ≤ gn g → gn g < r + n → ∃ due, F_FW_earliestDue_l5 S n x v (nI r) = some due ∧ due ≤ v ∧ ∀ s, r ≤ s → s < gn g → (gq g s).1 14 = 0 → due ≤ (gq g s).1 12 + gc g 1 := by
  intro n
  induction n with
  | zero => intro r v h1 h2; omega
  | succ n ih =>
    intro r v h1 h2
    have h24 := h.2.2.2.2.1.2.1
    rw [F_FW_earliestDue_l5, h.2.2.2.2.1.1]
    by_cases hr : r < gn g
    · obtain ⟨c1, c2, c3, c4⟩ := h.2.2.2.2.1.2.2.1 r hr
      rw [if_neg (nI_ge hr (by omega)), h.reqAt hr, Option.bind_some]
      simp only [fw_om, fw_let]
      rw [c4.2.1 14 (by decide), c4.2.1 12 (by decide), h.2.2.1.2.1, nI_1]
      by_cases hz : (gq g r).1 14 = 0
      · rw [if_pos hz]
        obtain ⟨due, e1, e2, e3⟩ := ih (r + 1) (if (gq g r).1 12 + gc g 1 < v then (gq g r).1 12 + gc g 1 else v) (by omega) (by omega)
        have hle : (if (gq g r).1 12 + gc g 1 < v then (gq g r).1 12 + gc g 1 else v) ≤ v ∧ (if (gq g r).1 12 + gc g 1 < v then (gq g r).1 12 + gc g 1 else v) ≤ (gq g r).1 12 + gc g 1 := by
          split
          · rename_i hlt
            exact ⟨Int32.le_of_lt hlt, Int32.le_refl _⟩
          · rename_i hlt
            exact ⟨Int32.le_refl _, Int32.not_lt.mp hlt⟩
        refine ⟨due, e1, Int32.le_trans e2 hle.1, fun s h1 h2 h3 => ?_⟩
        by_cases hs : s = r
        · subst hs; exact Int32.le_trans e2 hle.2
        · exact e3 s (by omega) h2 h3
      · rw [if_neg hz]
        obtain ⟨due, e1, e2, e3⟩ := ih (r + 1) v (by omega) (by omega)
        refine ⟨due, e1, e2, fun s h1 h2 h3 => ?_⟩
        by_cases hs : s = r
        · subst hs; exact absurd h3 hz
        · exact e3 s (by omega) h2 h3
    · rw [if_pos (nI_le (by omega) (by omega))]
      exact ⟨v, rfl, Int32.le_refl _, fun s h1 h2 => by omega⟩
theorem RX.due (h : RX S0 S x q p g) : ∃ due, F_FW_earliestDue x S = some due ∧ ∀ s, s < gn g → (gq g s).1 14 = 0 → due ≤ (gq g s).1 12 + gc g 1 := by
  have h24 := h.2.2.2.2.1.2.1
  obtain ⟨due, e1, -, e3⟩ := h.dueL 4096 0 2147483647 (Nat.zero_le _) (by omega)
  exact ⟨due, e1, fun s hs => e3 s (Nat.zero_le _) hs⟩
theorem RX.settL : ∀ (k n r : Nat) (w : Int32) (S : fw_S) (g : sG), RX S0 S x q p g → okG g → r + k = gn g → k < n → ∃ S', F_FW_settleDue_l4 n x w (nI r) S = some ((sTickR k r w g).1, S') ∧ RX S0 S' x q p (sTickR k r w g).2 := by
  intro k
  induction k with
  | zero =>
    intro n r w S g h hok hrk hkn
    obtain ⟨n, rfl⟩ : ∃ m, n = m + 1 := ⟨n - 1, by omega⟩
    have h24 := h.2.2.2.2.1.2.1
    rw [F_FW_settleDue_l4, h.2.2.2.2.1.1, if_pos (nI_le (by omega) (by omega))]
    exact ⟨S, rfl, h⟩
  | succ k ih =>
    intro n r w S g h hok hrk hkn
    obtain ⟨n, rfl⟩ : ∃ m, n = m + 1 := ⟨n - 1, by omega⟩
    have h24 := h.2.2.2.2.1.2.1
    have hr : r < gn g := by omega
    obtain ⟨c1, c2, c3, c4⟩ := h.2.2.2.2.1.2.2.1 r hr
    have ho := hok.2.2.2.2.2.1 r hr
    obtain ⟨s0, s1, s2, s3, s4, s5⟩ := h.2.2.1
    rw [F_FW_settleDue_l4, h.2.2.2.2.1.1, if_neg (nI_ge hr (by omega)), h.reqAt hr, Option.bind_some]
    simp only [fw_om]
    rw [c4.2.1 14 (by decide), c4.2.1 12 (by decide), c4.2.1 13 (by decide), s1, s2, s3, nI_1]
    unfold sTickR
    by_cases hz : (gq g r).1 14 = 0
    · rw [if_pos hz]
      by_cases hp : gc g 1 ≤ gc g 3 - (gq g r).1 12
      · have hzp : (gq g r).1 14 = 0 ∧ gc g 1 ≤ gc g 3 - (gq g r).1 12 := ⟨hz, hp⟩
        rw [if_pos hp, if_pos hzp]
        by_cases h2 : (gq g r).1 13 < gc g 2
        · rw [if_pos h2, if_pos h2]
          obtain ⟨⟨hh, hh4, hhe⟩, -⟩ := id ho
          obtain ⟨S1, e1, v1, -⟩ := h.again hr hh4 hhe (ho.2.2.2.2.2.2.2.2.1 hz).1
          rw [e1, Option.bind_some]
          exact ih n (r + 1) w S1 _ v1 (hok.sreq hr hz _) (by rw [gn_sreq]; omega) (by omega)
        · rw [if_neg h2, if_neg h2]
          obtain ⟨S1, p1, q1, s1', g1⟩ := c4.fail 1
          rw [p1, Option.bind_some]
          exact ih n (r + 1) (w + 1) S1 _ (h.req hr (d := sFailD (gq g r) 1) (ot.of s1' (fun a ha => g1 a (by omega))) q1) (hok.pq hr (ho.fail (Or.inl rfl))) (by show r + 1 + k = gn g; omega) (by omega)
      · have hn : ¬ ((gq g r).1 14 = 0 ∧ gc g 1 ≤ gc g 3 - (gq g r).1 12) := fun z => hp z.2
        rw [if_neg hp, if_neg hn]
        exact ih n (r + 1) w S g h hok (by omega) (by omega)
    · have hn : ¬ ((gq g r).1 14 = 0 ∧ gc g 1 ≤ gc g 3 - (gq g r).1 12) := fun z => hz z.1
      rw [if_neg hz, if_neg hn]
      exact ih n (r + 1) w S g h hok (by omega) (by omega)
theorem RX.sett (h : RX S0 S x q p g) (hok : okG g) : ∃ S', F_FW_settleDue x S = some ((sTickR (gn g) 0 0 g).1, S') ∧ RX S0 S' x q p (sTickR (gn g) 0 0 g).2 := by
  have h24 := h.2.2.2.2.1.2.1
  have := RX.settL (gn g) 4096 0 0 S g h hok (by omega) (by omega)
  unfold F_FW_settleDue
  exact this
theorem RX.tickL {N : Nat} (hN : N ≤ 1000) : ∀ (k n i : Nat) (w due : Int32) (S : fw_S) (g : sG) (B : Nat), RX S0 S x q p g → okG g → okT g B → B + k + 200 < 2 ^ 31 → (∀ s, s < gn g → (gq g s).1 14 = 0 → due ≤ (gq g s).1 12 + gc g 1) → i + k = N → k < n → ∃ S', F_FW_tick_l23 n x (nI N) w due (nI i) S = some ((sTickL k w g).1, S') ∧ RX S0 S' x q p (sTickL k w g).2 := by
  intro k
  induction k with
  | zero =>
    intro n i w due S g B h hok ht hB hdue hik hkn
    obtain ⟨n, rfl⟩ : ∃ m, n = m + 1 := ⟨n - 1, by omega⟩
    rw [F_FW_tick_l23, if_pos (nI_le (by omega) (by omega))]
    exact ⟨S, rfl, h⟩
  | succ k ih =>
    intro n i w due S g B h hok ht hB hdue hik hkn
    obtain ⟨n, rfl⟩ : ∃ m, n = m + 1 := ⟨n - 1, by omega⟩
    have hck : fw_g S x 10 = gc g 3 := h.2.2.1.2.2.2.1
    rw [F_FW_tick_l23, if_neg (nI_ge (by omega) (by omega))]
    simp only [fw_let]
    rw [hck, g_s, nI_1]
    have h1 : RX S0 (fw_wi S x 10 (gc g 3 + 1)) x q p (pc g 3 (gc g 3 + 1)) := h.num 3 (by decide) _
    obtain ⟨o1, t1⟩ := ok_second hok ht
    unfold sTickL
    by_cases hc : gc g 3 + 1 < due
    · rw [if_pos hc]
      obtain ⟨c, hcB, hgc, hrs⟩ := ht
      obtain ⟨-, ⟨t, ht1, ht100, hpt⟩, -⟩ := id hok
      have hno : sTickR (gn g) 0 w (pc g 3 (gc g 3 + 1)) = (w, pc g 3 (gc g 3 + 1)) := by
        apply sTickR_no
        intro s _ hs
        rintro ⟨z1, z2⟩
        have hs' : s < gn g := by omega
        have z1' : (gq g s).1 14 = 0 := z1
        obtain ⟨u, hu, hue⟩ := hrs s hs' z1'
        have z2' : va_up (gc g) 3 (gc g 3 + 1) 1 ≤ va_up (gc g) 3 (gc g 3 + 1) 3 - (gq g s).1 12 := z2
        rw [va_up_self, va_up_ne _ _ (by decide), hpt, hgc, hue, nI_1, nI_sub (by omega)] at z2'
        have hd := hdue s hs' z1'
        rw [hue, hpt, nI_add] at hd
        have hlt : nI (c + 1) < nI (u + t) := Int32.lt_of_lt_of_le (by rw [← nI_1, ← hgc]; exact hc) hd
        have hlt' : c + 1 < u + t := Nat.not_le.mp (fun z => absurd hlt (nI_nlt z (by omega)))
        exact absurd z2' (nI_ge (by omega) (by omega))
      rw [hno]
      exact ih n (i + 1) w due _ _ (B + 1) h1 o1 t1 (by omega) (fun s hs hz => by
        have := hdue s hs hz
        show due ≤ (gq g s).1 12 + va_up (gc g) 3 (gc g 3 + 1) 1
        rw [va_up_ne _ _ (by decide)]; exact this) (by omega) (by omega)
    · rw [if_neg hc]
      obtain ⟨S1, e1, v1⟩ := h1.sett o1
      obtain ⟨o2, t2, -⟩ := ok_tickR (gn g) 0 0 _ o1 t1 (by show 0 + gn g ≤ gn g; omega)
      rw [e1]
      simp only [fw_b2]
      obtain ⟨due', d1, d2⟩ := v1.due
      rw [d1, Option.bind_some]
      have hadd := sTickR_add (gn g) 0 w 0 (pc g 3 (gc g 3 + 1))
      rw [Int32.add_zero] at hadd
      rw [hadd]
      exact ih n (i + 1) _ due' S1 _ (B + 1) v1 o2 t2 (by omega) d2 (by omega) (by omega)
theorem RX.tickA (h : RX S0 S x q p g) (hok : okG g) (ht : okT g B) (hB : B + 2000 < 2 ^ 31) (v : Int32) : ∃ S', F_FW_tick x v S = some ((sTick g v).1, S') ∧ RX S0 S' x q p (sTick g v).2 := by
  unfold F_FW_tick sTick
  by_cases h0 : v < 0
  · rw [if_pos h0, if_pos (Or.inl h0)]
    exact ⟨S, rfl, h⟩
  · rw [if_neg h0]
    by_cases h1 : v ≤ 1000
    · have hv : ¬ (v < 0 ∨ 1000 < v) := fun z => z.elim h0 (fun z => absurd h1 (Int32.not_le.mpr z))
      rw [if_pos h1, if_neg hv]
      obtain ⟨n, -, hn, rfl⟩ := nI_rng (w := v) (a := 0) (b := 1000) (by decide) (Int32.not_lt.mp h0) h1 (by decide)
      have hh : hN (nI n) = n := nI_clamp (by omega)
      rw [hh]
      obtain ⟨due, d1, d2⟩ := h.due
      rw [d1, Option.bind_some]
      exact RX.tickL hn n 4096 0 0 due S g B h hok ht (by omega) d2 (by omega) (by omega)
    · rw [if_neg h1, if_pos (Or.inr (Int32.not_le.mp h1))]
      exact ⟨S, rfl, h⟩
end XC
