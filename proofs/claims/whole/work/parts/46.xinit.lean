/-! The class at its start. -/
def sC0 : Nat → Int32 := fun k => if k = 0 then 4 else if k = 1 then 10 else if k = 2 then 2 else 0
def sG0 : sG := (sC0, (fun i => (if i = 4 then 1 else 0, [], [])), (0, fun _ => ((fun _ => 0), [], [], [], [])), [], [], [], (fun _ => 1000), (fun _ => 0))
theorem Wp_om {α : Type} {o : Option α} {a : α} {D : Option fw_S} {f : α → Option fw_S} {Q : fw_S → Prop} (ho : o = some a) (h : Wp (f a) Q) : Wp (fw_om o D f) Q := by subst ho; exact h
theorem Wp_no {c : Prop} [Decidable c] {a b : Option fw_S} {Q : fw_S → Prop} (hc : ¬ c) (h : Wp b Q) : Wp (if c then a else b) Q := by rw [if_neg hc]; exact h
def FwN (S0 S : fw_S) (x j : Nat) : Prop :=
  fw_z S = x + 47 + 4 * j ∧ sam S0 S 0 x ∧ (fw_r S x 0 = some (x + 1) ∧ fw_r S x 1 = some (x + 2) ∧ fw_r S x 3 = some (x + 3) ∧ fw_r S x 4 = some (x + 6) ∧ fw_r S x 5 = some (x + 45) ∧ fw_r S x 6 = some (x + 46)) ∧ (fw_l S (x + 1) = 5 ∧ fw_l S (x + 2) = 24 ∧ fw_l S (x + 45) = 4 ∧ fw_l S (x + 46) = 4) ∧ fw_g S x 2 = 0 ∧ ScX S x sC0 ∧ PrX S (x + 3) 20 [] ∧ (SvX S (x + 6) id [] [] ∧ fw_g S (x + 6) 3 = 0) ∧ (∀ i, fw_g S (x + 45) i = 0 ∧ fw_g S (x + 46) i = 0) ∧
  ∀ i, i < j → fw_r S (x + 1) i = some (x + 47 + 4 * i) ∧ LnX S (x + 47 + 4 * i) (if i = 4 then 1 else 0) [] []
section XI
variable {S0 S S' : fw_S} {x : Nat}
theorem FwN.step {j : Nat} {v u : Int32} (h : FwN S0 S x j) (hj : j < 5) (hv : v = nI j) (hu : u = if j = 4 then 1 else 0) {Q : fw_S → Prop} {K : fw_S → Option fw_S} {D : Option fw_S} (hK : ∀ S', FwN S0 S' x (j + 1) → Wp (K S') Q) :
    Wp (fw_om (fw_r S x 0) D (fun b19 => fw_let (fw_z S) (fun b26 => fw_let (fw_nw S 0) (fun S25 => Option.bind (F_Wire_init b26 u S25) (fun S28 => if v < 0 ∨ fw_l S28 b19 ≤ v.toNatClampNeg then none else fw_let (fw_wr S28 b19 v.toNatClampNeg (some b26)) K))))) Q := by
  subst hv
  obtain ⟨hz, hs, ⟨r0, r1, r3, r4, r5, r6⟩, ⟨l1, l2, l3, l4⟩, g2, hsc, hP, ⟨hV, hv3⟩, hE, hw⟩ := h
  have hu01 : u = 0 ∨ u = 1 := by
    rw [hu]
    split
    · exact Or.inr rfl
    · exact Or.inl rfl
  obtain ⟨S7, e7, p7, z7, s7⟩ := Wire_new (S := fw_nw S 0) (w := x + 47 + 4 * j) (up := u) (by rw [fw_z_nw, hz]) hu01
  have s8 : sam S S7 0 (x + 47 + 4 * j) := (sam_nw (by omega)).tr s7
  have s9 : ∀ lo n, (x + 1 < lo ∨ lo + n ≤ x + 1) → lo + n ≤ x + 47 + 4 * j → sam S (fw_wr S7 (x + 1) j (some (x + 47 + 4 * j))) lo n := fun lo n h1 h2 => (s8.sub (by omega) (by omega)).tr (sam_wr (by omega))
  have e4 : (nI j).toNatClampNeg = j := nI_clamp (by omega)
  have e0 : ¬ nI j < 0 := nI_pos (by omega)
  have e5 : ¬ 5 ≤ j := by omega
  have l1' : fw_l S7 (x + 1) = 5 := by rw [(s8 (x + 1) (by omega) (by omega)).2.2, l1]
  have ge := s8 x (by omega) (by omega)
  have hP' : FwN S0 (fw_wr S7 (x + 1) j (some (x + 47 + 4 * j))) x (j + 1) := by
    refine ⟨by rw [fw_z_wr, z7]; omega, hs.tr (s9 0 x (by omega) (by omega)), ⟨?_, ?_, ?_, ?_, ?_, ?_⟩, ⟨l1', ?_, ?_, ?_⟩, ?_, hsc.blk ge.1, hP.blk (s9 _ _ (by omega) (by omega)), ⟨hV.blk (s9 _ _ (by omega) (by omega)), ?_⟩, fun i => ?_, fun i hi => ?_⟩
    · rw [r_a (by omega), ge.2.1]; exact r0
    · rw [r_a (by omega), ge.2.1]; exact r1
    · rw [r_a (by omega), ge.2.1]; exact r3
    · rw [r_a (by omega), ge.2.1]; exact r4
    · rw [r_a (by omega), ge.2.1]; exact r5
    · rw [r_a (by omega), ge.2.1]; exact r6
    · rw [fw_l_wr, (s8 _ (by omega) (by omega)).2.2]; exact l2
    · rw [fw_l_wr, (s8 _ (by omega) (by omega)).2.2]; exact l3
    · rw [fw_l_wr, (s8 _ (by omega) (by omega)).2.2]; exact l4
    · rw [fw_g_wr, ge.1]; exact g2
    · rw [fw_g_wr, (s8 _ (by omega) (by omega)).1]; exact hv3
    · rw [fw_g_wr, fw_g_wr, (s8 (x + 45) (by omega) (by omega)).1, (s8 (x + 46) (by omega) (by omega)).1]; exact hE i
    · by_cases hc : i = j
      · subst hc
        refine ⟨r_s, ?_⟩
        rw [← hu]
        exact p7.blk (sam_wr (by omega))
      · refine ⟨?_, (hw i (by omega)).2.blk (s9 _ _ (by omega) (by omega))⟩
        rw [r_k hc, (s8 (x + 1) (by omega) (by omega)).2.1]
        exact (hw i (by omega)).1
  have := hK _ hP'
  simp only [fw_om, r0, fw_let, hz, e7, Option.bind_some, e0, e4, e5, l1', or_self, if_false]
  exact this
/-- the class after its constructor, before the reference is there -/
def FwX (S0 S : fw_S) (x : Nat) : Prop :=
  fw_z S = x + 67 ∧ sam S0 S 0 x ∧ ShX S x ∧ ScX S x sC0 ∧ (∀ i, i < 5 → LnX S (x + 47 + 4 * i) (if i = 4 then 1 else 0) [] []) ∧ fw_g S x 2 = 0 ∧ PrX S (x + 3) 20 [] ∧ (SvX S (x + 6) id [] [] ∧ fw_g S (x + 6) 3 = 0) ∧ ∀ i, i < 4 → fw_g S (x + 45) i = 1000 ∧ fw_g S (x + 46) i = 0
theorem FW_new (hz : fw_z S = x + 1) : ∃ S', F_FW_init x S = some S' ∧ FwX S S' x := by
  obtain ⟨T1, hT1⟩ : ∃ T, T = fw_wi (fw_wr (fw_nw (fw_wr (fw_nw S 5) x 0 (some (x + 1))) 24) x 1 (some (x + 2))) x 2 0 := ⟨_, rfl⟩
  have za : fw_z (fw_wr (fw_nw S 5) x 0 (some (x + 1))) = x + 2 := by rw [fw_z_wr, fw_z_nw, hz]
  have z1 : fw_z T1 = x + 3 := by rw [hT1, fw_z_wi, fw_z_wr, fw_z_nw, za]
  have s1 : sam S T1 0 x := by
    rw [hT1]
    exact (sam_nw (by omega)).tr ((sam_wr (by omega)).tr ((sam_nw (by omega)).tr ((sam_wr (by omega)).tr (sam_wi (by omega)))))
  obtain ⟨S13, e13, p13, z13, s13⟩ := Pairs_new (S := fw_nw T1 0) (p := x + 3) (cap := 20) (by rw [fw_z_nw, z1]) (by decide)
  have zb : fw_z (fw_wr S13 x 3 (some (x + 3))) = x + 6 := by rw [fw_z_wr, z13]
  obtain ⟨S19, e19, p19, q19, z19, s19⟩ := Serv_new (S := fw_nw (fw_wr S13 x 3 (some (x + 3))) 0) (e := x + 6) (by rw [fw_z_nw, zb])
  have zc : fw_z (fw_wr S19 x 4 (some (x + 6))) = x + 45 := by rw [fw_z_wr, z19]
  have zd : fw_z (fw_wr (fw_nw (fw_wr S19 x 4 (some (x + 6))) 4) x 5 (some (x + 45))) = x + 46 := by rw [fw_z_wr, fw_z_nw, zc]
  obtain ⟨T2, hT2⟩ : ∃ T, T = fw_wr (fw_nw (fw_wr (fw_nw (fw_wr S19 x 4 (some (x + 6))) 4) x 5 (some (x + 45))) 4) x 6 (some (x + 46)) := ⟨_, rfl⟩
  have z2 : fw_z T2 = x + 47 := by rw [hT2, fw_z_wr, fw_z_nw, zd]
  obtain ⟨T3, hT3⟩ : ∃ T, T = fw_wi (fw_wi (fw_wi (fw_wi (fw_wi (fw_wi T2 x 7 4) x 8 10) x 9 2) x 10 0) x 11 0) x 12 0 := ⟨_, rfl⟩
  have z3 : fw_z T3 = x + 47 := by rw [hT3]; exact z2
  have s2 : ∀ lo n, (x < lo ∨ lo + n ≤ x) → lo + n ≤ x + 45 → sam S19 T2 lo n := fun lo n h1 h2 => by
    rw [hT2]
    exact (sam_wr (by omega)).tr ((sam_nw (by omega)).tr ((sam_wr (by omega)).tr ((sam_nw (by omega)).tr (sam_wr (by omega)))))
  have s3 : ∀ lo n, (x < lo ∨ lo + n ≤ x) → sam T2 T3 lo n := fun lo n h1 => by
    rw [hT3]
    exact (sam_wi (by omega)).tr ((sam_wi (by omega)).tr ((sam_wi (by omega)).tr ((sam_wi (by omega)).tr ((sam_wi (by omega)).tr (sam_wi (by omega))))))
  have sv : ∀ lo n, (x < lo ∨ lo + n ≤ x) → lo + n ≤ x + 6 → sam S13 S19 lo n := fun lo n h1 h2 => (sam_wr (by omega)).tr ((sam_nw (by omega)).tr (s19.sub (by omega) (by omega)))
  have sp : ∀ lo n, lo + n ≤ x + 3 → sam T1 S13 lo n := fun lo n h2 => (sam_nw (by omega)).tr (s13.sub (by omega) (by omega))
  have s13T : ∀ lo n, (x < lo ∨ lo + n ≤ x) → lo + n ≤ x + 6 → sam S13 T3 lo n := fun lo n h1 h2 => (sv lo n h1 h2).tr ((s2 lo n h1 (by omega)).tr (s3 lo n h1))
  have s1T : ∀ lo n, (x < lo ∨ lo + n ≤ x) → lo + n ≤ x + 3 → sam T1 T3 lo n := fun lo n h1 h2 => (sp lo n h2).tr (s13T lo n h1 (by omega))
  have rx : ∀ k, fw_r T3 x k = fw_r T2 x k := fun k => by rw [hT3]; rfl
  have r2x : ∀ k, k ≠ 4 → k ≠ 5 → k ≠ 6 → fw_r T2 x k = fw_r S19 x k := fun k h1 h2 h3 => by rw [hT2, r_k h3, r_n zd (by omega), r_k h2, r_n zc (by omega), r_k h1]
  have r19 : ∀ k, k ≠ 3 → fw_r S19 x k = fw_r T1 x k := fun k h => by rw [(s19 x (by omega) (by omega)).2.1, r_n zb (by omega), r_k h, (s13 x (by omega) (by omega)).2.1, r_n z1 (by omega)]
  have h0 : FwN S T3 x 0 := by
    refine ⟨by rw [z3], s1.tr (s1T 0 x (by omega) (by omega)), ⟨?_, ?_, ?_, ?_, ?_, ?_⟩, ⟨?_, ?_, ?_, ?_⟩, ?_, ?_, p13.blk (s13T _ _ (by omega) (by omega)), ⟨(p19.blk (s2 _ _ (by omega) (by omega))).blk (s3 _ _ (by omega)), ?_⟩, fun i => ⟨?_, ?_⟩, fun i hi => by omega⟩
    · rw [rx, r2x 0 (by decide) (by decide) (by decide), r19 0 (by decide), hT1]
      show fw_r (fw_wr (fw_nw (fw_wr (fw_nw S 5) x 0 (some (x + 1))) 24) x 1 (some (x + 2))) x 0 = _
      rw [r_k (by decide), r_n za (by omega), r_s]
    · rw [rx, r2x 1 (by decide) (by decide) (by decide), r19 1 (by decide), hT1]
      show fw_r (fw_wr (fw_nw (fw_wr (fw_nw S 5) x 0 (some (x + 1))) 24) x 1 (some (x + 2))) x 1 = _
      rw [r_s]
    · rw [rx, r2x 3 (by decide) (by decide) (by decide), (s19 x (by omega) (by omega)).2.1, r_n zb (by omega), r_s]
    · rw [rx, hT2, r_k (by decide), r_n zd (by omega), r_k (by decide), r_n zc (by omega), r_s]
    · rw [rx, hT2, r_k (by decide), r_n zd (by omega), r_s]
    · rw [rx, hT2, r_s]
    · rw [(s1T (x + 1) 1 (by omega) (by omega) (x + 1) (by omega) (by omega)).2.2, hT1]
      show fw_l (fw_nw (fw_wr (fw_nw S 5) x 0 (some (x + 1))) 24) (x + 1) = 5
      rw [l_n za (by omega), fw_l_wr, l_ns hz]
    · rw [(s1T (x + 2) 1 (by omega) (by omega) (x + 2) (by omega) (by omega)).2.2, hT1]
      show fw_l (fw_nw (fw_wr (fw_nw S 5) x 0 (some (x + 1))) 24) (x + 2) = 24
      rw [l_ns za]
    · rw [(s3 (x + 45) 1 (by omega) (x + 45) (by omega) (by omega)).2.2, hT2, fw_l_wr, l_n zd (by omega), fw_l_wr, l_ns zc]
    · rw [(s3 (x + 46) 1 (by omega) (x + 46) (by omega) (by omega)).2.2, hT2, fw_l_wr, l_ns zd]
    · rw [hT3, g_k (by decide), g_k (by decide), g_k (by decide), g_k (by decide), g_k (by decide), g_k (by decide), hT2, fw_g_wr, g_n zd (by omega), fw_g_wr, g_n zc (by omega), fw_g_wr, (s19 x (by omega) (by omega)).1, g_n zb (by omega), fw_g_wr, (s13 x (by omega) (by omega)).1, g_n z1 (by omega), hT1, g_s]
    · rw [hT3]
      refine ⟨?_, ?_, ?_, ?_, ?_, ?_⟩ <;> simp (disch := decide) only [g_k, g_s] <;> rfl
    · rw [(s3 (x + 6) 1 (by omega) (x + 6) (by omega) (by omega)).1, (s2 (x + 6) 1 (by omega) (by omega) (x + 6) (by omega) (by omega)).1]
      exact q19
    · rw [(s3 (x + 45) 1 (by omega) (x + 45) (by omega) (by omega)).1, hT2, fw_g_wr, g_n zd (by omega), fw_g_wr, g_ns zc]
    · rw [(s3 (x + 46) 1 (by omega) (x + 46) (by omega) (by omega)).1, hT2, fw_g_wr, g_ns zd]
  have goal : Wp (F_FW_init x S) (fun S' => FwX S S' x) := by
    unfold F_FW_init
    refine Wp_let hz ?_
    refine Wp_let rfl ?_
    refine Wp_let rfl ?_
    refine Wp_let za ?_
    refine Wp_let rfl ?_
    refine Wp_let rfl ?_
    refine Wp_let (y := T1) hT1.symm ?_
    refine Wp_let z1 ?_
    refine Wp_let rfl ?_
    refine Wp_bind e13 ?_
    refine Wp_let rfl ?_
    refine Wp_let zb ?_
    refine Wp_let rfl ?_
    refine Wp_bind e19 ?_
    refine Wp_let rfl ?_
    refine Wp_let zc ?_
    refine Wp_let rfl ?_
    refine Wp_let rfl ?_
    refine Wp_let zd ?_
    refine Wp_let rfl ?_
    refine Wp_let (y := T2) hT2.symm ?_
    refine Wp_let rfl ?_
    refine Wp_let rfl ?_
    refine Wp_let rfl ?_
    refine Wp_let rfl ?_
    refine Wp_let rfl ?_
    refine Wp_let (y := T3) hT3.symm ?_
    refine h0.step (v := 0) (by decide) rfl rfl (fun S1 h1 => ?_)
    refine h1.step (v := 1) (by decide) rfl rfl (fun S1 h1 => ?_)
    refine h1.step (v := 2) (by decide) rfl rfl (fun S1 h1 => ?_)
    refine h1.step (v := 3) (by decide) rfl rfl (fun S1 h1 => ?_)
    refine h1.step (v := 4) (by decide) rfl rfl (fun S1 h1 => ?_)
    obtain ⟨hz', hs, ⟨r0, r1, r3, r4, r5, r6⟩, ⟨l1, l2, l3, l4⟩, g2, hsc, hP, ⟨hV, hv3⟩, hE, hw⟩ := h1
    refine Wp_om (a := x + 45) r5 ?_
    refine Wp_no (by rw [l3]; decide) ?_
    refine Wp_let rfl ?_
    refine Wp_om (a := x + 45) (by rw [fw_r_wi]; exact r5) ?_
    refine Wp_no (by rw [fw_l_wi, l3]; decide) ?_
    refine Wp_let rfl ?_
    refine Wp_om (a := x + 45) (by rw [fw_r_wi, fw_r_wi]; exact r5) ?_
    refine Wp_no (by rw [fw_l_wi, fw_l_wi, l3]; decide) ?_
    refine Wp_let rfl ?_
    refine Wp_om (a := x + 45) (by rw [fw_r_wi, fw_r_wi, fw_r_wi]; exact r5) ?_
    refine Wp_no (by rw [fw_l_wi, fw_l_wi, fw_l_wi, l3]; decide) ?_
    refine Wp_let rfl ?_
    refine ⟨_, rfl, ?_⟩
    have hsm : ∀ lo n, (x + 45 < lo ∨ lo + n ≤ x + 45) → sam S1 (fw_wi (fw_wi (fw_wi (fw_wi S1 (x + 45) (0 : Int32).toNatClampNeg 1000) (x + 45) (1 : Int32).toNatClampNeg 1000) (x + 45) (2 : Int32).toNatClampNeg 1000) (x + 45) (3 : Int32).toNatClampNeg 1000) lo n := fun lo n h => (sam_wi (by omega)).tr ((sam_wi (by omega)).tr ((sam_wi (by omega)).tr (sam_wi (by omega))))
    refine ⟨hz', hs.tr (hsm _ _ (by omega)), ⟨r0, r1, r3, r4, r5, r6, l1, l2, l3, l4, fun i hi => (hw i hi).1⟩, hsc.blk (hsm x 1 (by omega) x (by omega) (by omega)).1, fun i hi => (hw i hi).2.blk (hsm _ _ (by omega)), ?_, hP.blk (hsm _ _ (by omega)), ⟨hV.blk (hsm _ _ (by omega)), ?_⟩, fun i hi => ⟨?_, ?_⟩⟩
    · rw [(hsm x 1 (by omega) x (by omega) (by omega)).1]; exact g2
    · rw [(hsm (x + 6) 1 (by omega) (x + 6) (by omega) (by omega)).1]; exact hv3
    · rcases (show i = 0 ∨ i = 1 ∨ i = 2 ∨ i = 3 by omega) with rfl | rfl | rfl | rfl
      · rw [g_k (by decide), g_k (by decide), g_k (by decide)]; exact g_s
      · rw [g_k (by decide), g_k (by decide)]; exact g_s
      · rw [g_k (by decide)]; exact g_s
      · exact g_s
    · rw [(hsm (x + 46) 1 (by omega) (x + 46) (by omega) (by omega)).1]; exact (hE i).2
  exact goal
end XI
