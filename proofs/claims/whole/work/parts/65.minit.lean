/-! The reference at its start. -/
set_option maxRecDepth 20000 in
theorem mF_inj : ∀ p ∈ mF, ∀ q ∈ mF, (p.1 = q.1 → p.2 = q.2) ∧ (p.2 = q.2 → p.1 = q.1) := by decide
set_option maxRecDepth 20000 in
theorem mL_inj : ∀ p ∈ mL, ∀ q ∈ mL, p.1 = q.1 → p.2 = q.2 := by decide
theorem mL_1 : ∀ p ∈ mL, 1 ≤ p.1 := by decide
theorem mF_39 : ∀ p ∈ mF, p.2 ≤ 39 := by decide
theorem mL_39 : ∀ p ∈ mL, p.1 ≤ 39 := by decide
def MoP (S0 S : fw_S) (m j : Nat) (V : Nat → Nat → Int32) : Prop :=
  fw_z S = m + 1 + j ∧ sam S0 S 0 m ∧ (∀ p ∈ mF, p.2 ≤ j → fw_r S m p.1 = some (m + p.2)) ∧ (∀ p ∈ mL, 1 ≤ p.1 → p.1 ≤ j → fw_l S (m + p.1) = p.2) ∧ ∀ a k, a ≤ j → fw_g S (m + a) k = V a k
def mV0 : Nat → Nat → Int32 := fun _ _ => 0
def mV1 : Nat → Nat → Int32 := fun a k => if a = 0 then (if k = 5 then 4 else if k = 6 then 10 else if k = 7 then 2 else 0) else 0
def mV2 : Nat → Nat → Int32 := fun a k => if a = 29 then (if k < 4 then 1000 else 0) else mV1 a k
section MN
variable {S0 S T : fw_S} {m j f N : Nat} {V V' : Nat → Nat → Int32}
theorem mF_pos : ∀ p ∈ mF, 1 ≤ p.2 := by decide
theorem MoP.next (h : MoP S0 S m j V) (hf : (f, j + 1) ∈ mF) (hl : (j + 1, N) ∈ mL) (hz : fw_z T = m + 1 + j + 1) (hs : sam S T 0 (m + 1 + j)) (hlen : fw_l T (m + 1 + j) = N) (hV : ∀ a k, a ≤ j → V' a k = V a k) (hg : ∀ k, fw_g T (m + 1 + j) k = V' (j + 1) k) : MoP S0 (fw_wr T m f (some (m + 1 + j))) m (j + 1) V' := by
  obtain ⟨z, s, r, l, g⟩ := h
  have e : m + (j + 1) = m + 1 + j := by omega
  refine ⟨by rw [fw_z_wr, hz]; omega, s.tr ((hs.sub (by omega) (by omega)).tr (sam_wr (by omega))), fun p hp hle => ?_, fun p hp h1 hle => ?_, fun a k ha => ?_⟩
  · by_cases hc : p.2 = j + 1
    · have := (mF_inj p hp _ hf).2 hc
      simp only at this
      rw [this, r_s, hc, e]
    · have hne : p.1 ≠ f := fun q => hc ((mF_inj p hp _ hf).1 q)
      rw [r_k hne, (hs m (by omega) (by omega)).2.1]
      exact r p hp (by omega)
  · by_cases hc : p.1 = j + 1
    · have := mL_inj p hp _ hl hc
      simp only at this
      rw [fw_l_wr, hc, e, hlen, this]
    · rw [fw_l_wr, (hs _ (by omega) (by omega)).2.2]
      exact l p hp h1 (by omega)
  · by_cases hc : a = j + 1
    · subst hc
      rw [fw_g_wr, e, hg]
    · rw [fw_g_wr, (hs _ (by omega) (by omega)).1, hV a k (by omega)]
      exact g a k (by omega)
theorem MoP.step {n : Int32} (h : MoP S0 S m j V) (hf : (f, j + 1) ∈ mF) (hl : (j + 1, N) ∈ mL) (hn : n.toNatClampNeg = N) (hV : ∀ k, V (j + 1) k = 0) {Q : fw_S → Prop} {K : fw_S → Option fw_S} (hK : ∀ S', MoP S0 S' m (j + 1) V → Wp (K S') Q) :
    Wp (fw_let (fw_z S) (fun b => fw_let (fw_nw S n.toNatClampNeg) (fun S1 => fw_let (fw_wr S1 m f (some b)) K))) Q := by
  have hz := h.1
  have := hK _ (h.next (T := fw_nw S N) (V' := V) hf hl (by rw [fw_z_nw, hz]) (sam_nw (by omega)) (l_ns hz) (fun a k _ => rfl) (fun k => by rw [g_ns hz, hV]))
  simp only [fw_let, hz, hn]
  exact this
theorem MoP.w567 (h : MoP S0 S m 5 mV0) : MoP S0 (fw_wi (fw_wi (fw_wi S m 5 4) m 6 10) m 7 2) m 5 mV1 := by
  obtain ⟨z, s, r, l, g⟩ := h
  refine ⟨z, s.tr ((sam_wi (by omega)).tr ((sam_wi (by omega)).tr (sam_wi (by omega)))), r, l, fun a k ha => ?_⟩
  by_cases hc : a = 0
  · subst hc
    show _ = (if k = 5 then (4 : Int32) else if k = 6 then 10 else if k = 7 then 2 else 0)
    rw [Nat.add_zero]
    by_cases h5 : k = 5
    · subst h5; rw [g_k (by decide), g_k (by decide), g_s]; rfl
    · rw [if_neg h5]
      by_cases h6 : k = 6
      · subst h6; rw [g_k (by decide), g_s]; rfl
      · rw [if_neg h6]
        by_cases h7 : k = 7
        · subst h7; rw [g_s]; rfl
        · rw [if_neg h7, g_k h7, g_k h6, g_k h5]
          have := g 0 k (by omega)
          rw [Nat.add_zero] at this
          exact this
  · rw [g_a (by omega), g_a (by omega), g_a (by omega), g a k ha]
    show (0 : Int32) = if a = 0 then _ else 0
    rw [if_neg hc]
theorem MoP.s29 (h : MoP S0 S m 28 mV1) : MoP S0 (fw_wr (fw_wi (fw_wi (fw_wi (fw_wi (fw_nw S (4 : Int32).toNatClampNeg) (m + 1 + 28) (0 : Int32).toNatClampNeg 1000) (m + 1 + 28) (1 : Int32).toNatClampNeg 1000) (m + 1 + 28) (2 : Int32).toNatClampNeg 1000) (m + 1 + 28) (3 : Int32).toNatClampNeg 1000) m 36 (some (m + 1 + 28))) m 29 mV2 := by
  have hz := h.1
  have c0 : (0 : Int32).toNatClampNeg = 0 := nI_clamp (n := 0) (by decide)
  have c1 : (1 : Int32).toNatClampNeg = 1 := nI_clamp (n := 1) (by decide)
  have c2 : (2 : Int32).toNatClampNeg = 2 := nI_clamp (n := 2) (by decide)
  have c3 : (3 : Int32).toNatClampNeg = 3 := nI_clamp (n := 3) (by decide)
  have c4 : (4 : Int32).toNatClampNeg = 4 := nI_clamp (n := 4) (by decide)
  rw [c0, c1, c2, c3, c4]
  refine h.next (N := 4) (by decide) (by decide) ?_ ?_ ?_ (fun a k ha => ?_) (fun k => ?_)
  · rw [fw_z_wi, fw_z_wi, fw_z_wi, fw_z_wi, fw_z_nw, hz]
  · exact (sam_nw (by omega)).tr ((sam_wi (by omega)).tr ((sam_wi (by omega)).tr ((sam_wi (by omega)).tr (sam_wi (by omega)))))
  · rw [fw_l_wi, fw_l_wi, fw_l_wi, fw_l_wi, l_ns hz]
  · show (if a = 29 then _ else mV1 a k) = mV1 a k
    rw [if_neg (by omega)]
  · show _ = if k < 4 then (1000 : Int32) else 0
    by_cases h4 : k < 4
    · rw [if_pos h4]
      rcases (show k = 0 ∨ k = 1 ∨ k = 2 ∨ k = 3 by omega) with rfl | rfl | rfl | rfl
      · rw [g_k (by decide), g_k (by decide), g_k (by decide), g_s]
      · rw [g_k (by decide), g_k (by decide), g_s]
      · rw [g_k (by decide), g_s]
      · rw [g_s]
    · rw [if_neg h4, g_k (by omega), g_k (by omega), g_k (by omega), g_k (by omega), g_ns hz]
/-- the reference after its constructor -/
theorem Mo_new (hz : fw_z S = m + 1) (hg : ∀ k, fw_g S m k = 0) : ∃ S', F_Mo_init m S = some S' ∧ RM S' S' m sG0 ∧ fw_z S' = m + 40 ∧ sam S S' 0 m := by
  have h : MoP S S m 0 mV0 := ⟨by rw [hz], fun b _ _ => ⟨rfl, rfl, rfl⟩, fun p hp hle => by have := mF_pos p hp; omega, fun p hp h1 hle => by omega, fun a k ha => by
    have : a = 0 := by omega
    subst this
    exact hg k⟩
  have goal : Wp (F_Mo_init m S) (fun S' => RM S' S' m sG0 ∧ fw_z S' = m + 40 ∧ sam S S' 0 m) := by
    unfold F_Mo_init
    refine h.step (f := 0) (j := 0) (N := 5) (n := 5) (by decide) (by decide) (nI_clamp (n := 5) (by decide)) (fun k => rfl) (fun S1 h => ?_)
    refine h.step (f := 1) (j := 1) (N := 1500) (n := 1500) (by decide) (by decide) (nI_clamp (n := 1500) (by decide)) (fun k => rfl) (fun S2 h => ?_)
    refine h.step (f := 2) (j := 2) (N := 5) (n := 5) (by decide) (by decide) (nI_clamp (n := 5) (by decide)) (fun k => rfl) (fun S3 h => ?_)
    refine h.step (f := 3) (j := 3) (N := 150) (n := 150) (by decide) (by decide) (nI_clamp (n := 150) (by decide)) (fun k => rfl) (fun S4 h => ?_)
    refine h.step (f := 4) (j := 4) (N := 5) (n := 5) (by decide) (by decide) (nI_clamp (n := 5) (by decide)) (fun k => rfl) (fun S5 h => ?_)
    refine Wp_let rfl ?_
    refine Wp_let rfl ?_
    refine Wp_let rfl ?_
    have h := h.w567
    obtain ⟨U, hU⟩ : ∃ U, fw_wi (fw_wi (fw_wi S5 m 5 4) m 6 10) m 7 2 = U := ⟨_, rfl⟩
    rw [hU] at h ⊢
    refine h.step (f := 12) (j := 5) (N := 20) (n := 20) (by decide) (by decide) (nI_clamp (n := 20) (by decide)) (fun k => rfl) (fun S6 h => ?_)
    refine h.step (f := 13) (j := 6) (N := 20) (n := 20) (by decide) (by decide) (nI_clamp (n := 20) (by decide)) (fun k => rfl) (fun S7 h => ?_)
    refine h.step (f := 15) (j := 7) (N := 24) (n := 24) (by decide) (by decide) (nI_clamp (n := 24) (by decide)) (fun k => rfl) (fun S8 h => ?_)
    refine h.step (f := 16) (j := 8) (N := 24) (n := 24) (by decide) (by decide) (nI_clamp (n := 24) (by decide)) (fun k => rfl) (fun S9 h => ?_)
    refine h.step (f := 17) (j := 9) (N := 24) (n := 24) (by decide) (by decide) (nI_clamp (n := 24) (by decide)) (fun k => rfl) (fun S10 h => ?_)
    refine h.step (f := 18) (j := 10) (N := 24) (n := 24) (by decide) (by decide) (nI_clamp (n := 24) (by decide)) (fun k => rfl) (fun S11 h => ?_)
    refine h.step (f := 19) (j := 11) (N := 24) (n := 24) (by decide) (by decide) (nI_clamp (n := 24) (by decide)) (fun k => rfl) (fun S12 h => ?_)
    refine h.step (f := 20) (j := 12) (N := 480) (n := 480) (by decide) (by decide) (nI_clamp (n := 480) (by decide)) (fun k => rfl) (fun S13 h => ?_)
    refine h.step (f := 21) (j := 13) (N := 480) (n := 480) (by decide) (by decide) (nI_clamp (n := 480) (by decide)) (fun k => rfl) (fun S14 h => ?_)
    refine h.step (f := 22) (j := 14) (N := 24) (n := 24) (by decide) (by decide) (nI_clamp (n := 24) (by decide)) (fun k => rfl) (fun S15 h => ?_)
    refine h.step (f := 23) (j := 15) (N := 480) (n := 480) (by decide) (by decide) (nI_clamp (n := 480) (by decide)) (fun k => rfl) (fun S16 h => ?_)
    refine h.step (f := 24) (j := 16) (N := 24) (n := 24) (by decide) (by decide) (nI_clamp (n := 24) (by decide)) (fun k => rfl) (fun S17 h => ?_)
    refine h.step (f := 25) (j := 17) (N := 24) (n := 24) (by decide) (by decide) (nI_clamp (n := 24) (by decide)) (fun k => rfl) (fun S18 h => ?_)
    refine h.step (f := 26) (j := 18) (N := 24) (n := 24) (by decide) (by decide) (nI_clamp (n := 24) (by decide)) (fun k => rfl) (fun S19 h => ?_)
    refine h.step (f := 27) (j := 19) (N := 1440) (n := 1440) (by decide) (by decide) (nI_clamp (n := 1440) (by decide)) (fun k => rfl) (fun S20 h => ?_)
    refine h.step (f := 28) (j := 20) (N := 1440) (n := 1440) (by decide) (by decide) (nI_clamp (n := 1440) (by decide)) (fun k => rfl) (fun S21 h => ?_)
    refine h.step (f := 29) (j := 21) (N := 24) (n := 24) (by decide) (by decide) (nI_clamp (n := 24) (by decide)) (fun k => rfl) (fun S22 h => ?_)
    refine h.step (f := 30) (j := 22) (N := 24) (n := 24) (by decide) (by decide) (nI_clamp (n := 24) (by decide)) (fun k => rfl) (fun S23 h => ?_)
    refine h.step (f := 31) (j := 23) (N := 24) (n := 24) (by decide) (by decide) (nI_clamp (n := 24) (by decide)) (fun k => rfl) (fun S24 h => ?_)
    refine h.step (f := 32) (j := 24) (N := 24) (n := 24) (by decide) (by decide) (nI_clamp (n := 24) (by decide)) (fun k => rfl) (fun S25 h => ?_)
    refine h.step (f := 33) (j := 25) (N := 24) (n := 24) (by decide) (by decide) (nI_clamp (n := 24) (by decide)) (fun k => rfl) (fun S26 h => ?_)
    refine h.step (f := 34) (j := 26) (N := 24) (n := 24) (by decide) (by decide) (nI_clamp (n := 24) (by decide)) (fun k => rfl) (fun S27 h => ?_)
    refine h.step (f := 35) (j := 27) (N := 480) (n := 480) (by decide) (by decide) (nI_clamp (n := 480) (by decide)) (fun k => rfl) (fun S28 h => ?_)
    have hz28 := h.1
    refine Wp_let hz28 ?_
    refine Wp_let rfl ?_
    refine Wp_no (by rw [l_ns hz28]; decide) ?_
    refine Wp_let rfl ?_
    refine Wp_no (by rw [fw_l_wi, l_ns hz28]; decide) ?_
    refine Wp_let rfl ?_
    refine Wp_no (by rw [fw_l_wi, fw_l_wi, l_ns hz28]; decide) ?_
    refine Wp_let rfl ?_
    refine Wp_no (by rw [fw_l_wi, fw_l_wi, fw_l_wi, l_ns hz28]; decide) ?_
    refine Wp_let rfl ?_
    refine Wp_let rfl ?_
    have h := h.s29
    obtain ⟨U2, hU2⟩ : ∃ U, fw_wr (fw_wi (fw_wi (fw_wi (fw_wi (fw_nw S28 (4 : Int32).toNatClampNeg) (m + 1 + 28) (0 : Int32).toNatClampNeg 1000) (m + 1 + 28) (1 : Int32).toNatClampNeg 1000) (m + 1 + 28) (2 : Int32).toNatClampNeg 1000) (m + 1 + 28) (3 : Int32).toNatClampNeg 1000) m 36 (some (m + 1 + 28)) = U := ⟨_, rfl⟩
    rw [hU2] at h ⊢
    refine h.step (f := 37) (j := 29) (N := 4) (n := 4) (by decide) (by decide) (nI_clamp (n := 4) (by decide)) (fun k => rfl) (fun S30 h => ?_)
    refine h.step (f := 39) (j := 30) (N := 60) (n := 60) (by decide) (by decide) (nI_clamp (n := 60) (by decide)) (fun k => rfl) (fun S31 h => ?_)
    refine h.step (f := 40) (j := 31) (N := 60) (n := 60) (by decide) (by decide) (nI_clamp (n := 60) (by decide)) (fun k => rfl) (fun S32 h => ?_)
    refine h.step (f := 43) (j := 32) (N := 9) (n := 9) (by decide) (by decide) (nI_clamp (n := 9) (by decide)) (fun k => rfl) (fun S33 h => ?_)
    refine h.step (f := 44) (j := 33) (N := 9) (n := 9) (by decide) (by decide) (nI_clamp (n := 9) (by decide)) (fun k => rfl) (fun S34 h => ?_)
    refine h.step (f := 45) (j := 34) (N := 9) (n := 9) (by decide) (by decide) (nI_clamp (n := 9) (by decide)) (fun k => rfl) (fun S35 h => ?_)
    refine h.step (f := 46) (j := 35) (N := 9) (n := 9) (by decide) (by decide) (nI_clamp (n := 9) (by decide)) (fun k => rfl) (fun S36 h => ?_)
    refine h.step (f := 47) (j := 36) (N := 540) (n := 540) (by decide) (by decide) (nI_clamp (n := 540) (by decide)) (fun k => rfl) (fun S37 h => ?_)
    refine h.step (f := 48) (j := 37) (N := 540) (n := 540) (by decide) (by decide) (nI_clamp (n := 540) (by decide)) (fun k => rfl) (fun S38 h => ?_)
    refine h.step (f := 50) (j := 38) (N := 24) (n := 24) (by decide) (by decide) (nI_clamp (n := 24) (by decide)) (fun k => rfl) (fun S39 h => ?_)
    obtain ⟨z, s, r, l, g⟩ := h
    have r0 : fw_r S39 m 0 = some (m + 1) := r (0, 1) (by decide) (by decide)
    have l1 : fw_l S39 (m + 1) = 5 := l (1, 5) (by decide) (by decide) (by decide)
    refine Wp_om (a := m + 1) r0 ?_
    refine Wp_no (by rw [l1]; decide) ?_
    refine Wp_let rfl ?_
    have c4 : (4 : Int32).toNatClampNeg = 4 := nI_clamp (n := 4) (by decide)
    rw [c4]
    have gm0 : ∀ k, fw_g (fw_wi S39 (m + 1) 4 1) m k = mV1 0 k := fun k => by
      rw [g_a (by omega)]
      exact g 0 k (by omega)
    have gz : ∀ a k, 2 ≤ a → a ≤ 39 → a ≠ 29 → fw_g (fw_wi S39 (m + 1) 4 1) (m + a) k = 0 := fun a k q1 q2 q3 => by
      rw [g_a (by omega), g a k q2]
      show (if a = 29 then _ else (if a = 0 then _ else (0 : Int32))) = 0
      rw [if_neg q3, if_neg (by omega)]
    have g1 : ∀ k, fw_g (fw_wi S39 (m + 1) 4 1) (m + 1) k = if k = 4 then 1 else 0 := fun k => by
      by_cases hk : k = 4
      · subst hk; rw [g_s, if_pos rfl]
      · rw [if_neg hk, g_k hk, g 1 k (by omega)]; rfl
    have g29 : ∀ k, k < 4 → fw_g (fw_wi S39 (m + 1) 4 1) (m + 29) k = 1000 := fun k hk => by
      rw [g_a (by omega), g 29 k (by omega)]
      show (if k < 4 then (1000 : Int32) else 0) = 1000
      rw [if_pos hk]
    refine ⟨_, rfl, ⟨⟨fun p hp => r p hp (mF_39 p hp), fun p hp => l p hp (mL_1 p hp) (mL_39 p hp)⟩, ⟨gm0 5, gm0 6, gm0 7, gm0 8, gm0 9, gm0 10, gm0 42⟩, fun i hi => ⟨g1 i, gz 3 i (by omega) (by omega) (by omega), gz 5 i (by omega) (by omega) (by omega), Ar.nil, Ar.nil, by show (0 : Nat) ≤ 300; omega, by show (0 : Nat) ≤ 30; omega⟩, ⟨gm0 14, by show (0 : Nat) ≤ 24; omega, fun r hr => absurd hr (Nat.not_lt_zero r), fun r _ hr a q1 q2 _ _ _ _ _ => gz a r (by omega) (by omega) (by omega)⟩, ⟨gm0 11, by show (0 : Nat) ≤ 20; omega, Ar.nil, Ar.nil⟩, ⟨gm0 38, by show (0 : Nat) ≤ 60; omega, Ar.nil, Ar.nil⟩, ⟨gm0 41, by show (0 : Nat) ≤ 8; omega, fun j e he => by simp [gm, sG0] at he⟩, fun i hi => ⟨g29 i hi, gz 30 i (by omega) (by omega) (by omega)⟩, df.rf⟩, by rw [fw_z_wi, z], s.tr (sam_wi (by omega))⟩
  exact goal
end MN
