/-! New objects of the class. -/
theorem r_s {S : fw_S} {a k : Nat} {v : Option Nat} : fw_r (fw_wr S a k v) a k = v := by rw [fw_r_wr]; simp
theorem r_k {S : fw_S} {a k j : Nat} {v : Option Nat} (h : j ≠ k) : fw_r (fw_wr S a k v) a j = fw_r S a j := by rw [fw_r_wr]; simp [h]
theorem r_a {S : fw_S} {a b k j : Nat} {v : Option Nat} (h : b ≠ a) : fw_r (fw_wr S a k v) b j = fw_r S b j := by rw [fw_r_wr]; simp [h]
theorem r_n {S : fw_S} {n b j z : Nat} (hz : fw_z S = z) (h : b ≠ z) : fw_r (fw_nw S n) b j = fw_r S b j := by rw [fw_r_nw_ne (by rw [hz]; exact h)]
theorem g_n {S : fw_S} {n b j z : Nat} (hz : fw_z S = z) (h : b ≠ z) : fw_g (fw_nw S n) b j = fw_g S b j := by rw [fw_g_nw_ne (by rw [hz]; exact h)]
theorem l_n {S : fw_S} {n b z : Nat} (hz : fw_z S = z) (h : b ≠ z) : fw_l (fw_nw S n) b = fw_l S b := by rw [fw_l_nw_ne (by rw [hz]; exact h)]
theorem l_ns {S : fw_S} {n z : Nat} (hz : fw_z S = z) : fw_l (fw_nw S n) z = n := by rw [← hz, fw_l_nw_self]
theorem g_ns {S : fw_S} {n j z : Nat} (hz : fw_z S = z) : fw_g (fw_nw S n) z j = 0 := by rw [← hz, fw_g_nw_self]
theorem r_ns {S : fw_S} {n j z : Nat} (hz : fw_z S = z) : fw_r (fw_nw S n) z j = none := by rw [← hz, fw_r_nw_self]
theorem sam_wi {S : fw_S} {a k : Nat} {v : Int32} {lo n : Nat} (h : a < lo ∨ lo + n ≤ a) : sam S (fw_wi S a k v) lo n := fun b h1 h2 => ⟨fw_g_wi_ne (by omega), rfl, rfl⟩
theorem sam_wr {S : fw_S} {a k : Nat} {v : Option Nat} {lo n : Nat} (h : a < lo ∨ lo + n ≤ a) : sam S (fw_wr S a k v) lo n := fun b h1 h2 => ⟨rfl, fw_r_wr_ne (by omega), rfl⟩
theorem sam_nw {S : fw_S} {m lo n : Nat} (h : lo + n ≤ fw_z S) : sam S (fw_nw S m) lo n := fun b h1 h2 => ⟨fw_g_nw_ne (by omega), fw_r_nw_ne (by omega), fw_l_nw_ne (by omega)⟩
theorem Pairs_new {S : fw_S} {p cap : Nat} (hz : fw_z S = p + 1) (hc : cap ≤ 64) : ∃ S', F_Pairs_init p (nI cap) S = some S' ∧ PrX S' p cap [] ∧ fw_z S' = p + 3 ∧ sam S S' 0 p := by
  have z1 : fw_z (fw_wi S p 2 0) = p + 1 := hz
  have z2 : fw_z (fw_wr (fw_nw (fw_wi S p 2 0) cap) p 0 (some (p + 1))) = p + 2 := by rw [fw_z_wr, fw_z_nw, z1]
  refine ⟨fw_wr (fw_nw (fw_wr (fw_nw (fw_wi S p 2 0) cap) p 0 (some (p + 1))) cap) p 1 (some (p + 2)), ?_, ⟨?_, ?_, ?_, ?_, hc, ?_, Nat.zero_le _, fun i q hq => by simp at hq⟩, ?_, ?_⟩
  · unfold F_Pairs_init
    have e0 : ¬ nI cap < 0 := nI_pos (by omega)
    have e1 : (nI cap).toNatClampNeg = cap := nI_clamp (by omega)
    have e2 : ¬ 64 < cap := by omega
    simp only [fw_let, e0, e1, e2, z1, z2, if_false, or_self]
  · rw [r_k (by decide), r_n z2 (by omega), r_s]
  · rw [r_s]
  · rw [fw_l_wr, l_n z2 (by omega), fw_l_wr, l_ns z1]
  · rw [fw_l_wr, l_ns z2]
  · rw [fw_g_wr, g_n z2 (by omega), fw_g_wr, g_n z1 (by omega), g_s]; rfl
  · rw [fw_z_wr, fw_z_nw, z2]
  · exact (sam_wi (by omega)).tr ((sam_nw (by omega)).tr ((sam_wr (by omega)).tr ((sam_nw (by omega)).tr (sam_wr (by omega)))))
theorem Frame_new {S : fw_S} {f : Nat} (hz : fw_z S = f + 1) : ∃ S', F_Frame_init f S = some S' ∧ FrX S' f 0 0 [] ∧ fw_z S' = f + 2 ∧ sam S S' 0 f := by
  have z1 : fw_z (fw_wi (fw_wi (fw_wi S f 0 0) f 1 0) f 2 0) = f + 1 := hz
  refine ⟨fw_wr (fw_nw (fw_wi (fw_wi (fw_wi S f 0 0) f 1 0) f 2 0) 18) f 3 (some (f + 1)), ?_, ⟨?_, ?_, ?_, ?_, ?_, Nat.zero_le _, fun i q hq => by simp at hq⟩, ?_, ?_⟩
  · unfold F_Frame_init
    simp only [fw_let, z1]
    rfl
  · rw [r_s]
  · rw [fw_l_wr, l_ns z1]
  · rw [fw_g_wr, g_n z1 (by omega), g_k (by decide), g_k (by decide), g_s]
  · rw [fw_g_wr, g_n z1 (by omega), g_k (by decide), g_s]
  · rw [fw_g_wr, g_n z1 (by omega), g_s]; rfl
  · rw [fw_z_wr, fw_z_nw, z1]
  · exact (sam_wi (by omega)).tr ((sam_wi (by omega)).tr ((sam_wi (by omega)).tr ((sam_nw (by omega)).tr (sam_wr (by omega)))))
theorem Memory_new {S : fw_S} {a : Nat} (hz : fw_z S = a + 1) : ∃ S', F_Memory_init a S = some S' ∧ MmX S' a (0, 0, 0, []) ∧ fw_z S' = a + 4 ∧ sam S S' 0 a := by
  have z1 : fw_z (fw_wi (fw_wi (fw_wi S a 0 0) a 1 0) a 2 0) = a + 1 := hz
  obtain ⟨S7, e7, p7, z7, s7⟩ := Pairs_new (S := fw_nw (fw_wi (fw_wi (fw_wi S a 0 0) a 1 0) a 2 0) 0) (p := a + 1) (cap := 60) (by rw [fw_z_nw, z1]) (by decide)
  have ga := (s7 a (by omega) (by omega)).1
  refine ⟨fw_wr S7 a 3 (some (a + 1)), ?_, ⟨r_s, ?_, ?_, ?_, p7.blk (sam_wr (by omega))⟩, by rw [fw_z_wr, z7], ?_⟩
  · unfold F_Memory_init
    simp only [fw_let, z1]
    have e7' : F_Pairs_init (a + 1) 60 (fw_nw (fw_wi (fw_wi (fw_wi S a 0 0) a 1 0) a 2 0) 0) = some S7 := e7
    rw [e7']
    rfl
  · rw [fw_g_wr, ga, g_n z1 (by omega), g_k (by decide), g_k (by decide), g_s]
  · rw [fw_g_wr, ga, g_n z1 (by omega), g_k (by decide), g_s]
  · rw [fw_g_wr, ga, g_n z1 (by omega), g_s]
  · exact (sam_wi (by omega)).tr ((sam_wi (by omega)).tr ((sam_wi (by omega)).tr ((sam_nw (by omega)).tr ((s7.sub (by omega) (by omega)).tr (sam_wr (by omega))))))
theorem Wire_new {S : fw_S} {w : Nat} {up : Int32} (hz : fw_z S = w + 1) (hu : up = 0 ∨ up = 1) : ∃ S', F_Wire_init w up S = some S' ∧ LnX S' w up [] [] ∧ fw_z S' = w + 4 ∧ sam S S' 0 w := by
  obtain ⟨T, hT⟩ : ∃ T, T = fw_wi (fw_wi (fw_wr (fw_nw S 300) w 1 (some (w + 1))) w 2 0) w 3 0 := ⟨_, rfl⟩
  have z1 : fw_z T = w + 2 := by rw [hT, fw_z_wi, fw_z_wi, fw_z_wr, fw_z_nw, hz]
  obtain ⟨S7, e7, p7, z7, s7⟩ := Frame_new (S := fw_nw T 0) (f := w + 2) (by rw [fw_z_nw, z1])
  have ga := s7 w (by omega) (by omega)
  have gb := s7 (w + 1) (by omega) (by omega)
  refine ⟨fw_wi (fw_wi (fw_wi (fw_wr S7 w 4 (some (w + 2))) w 5 0) w 6 0) w 0 up, ?_, ⟨g_s, ⟨?_, ?_, ⟨0, by decide, ?_, fun j b hb => by simp at hb⟩, ?_, by simp⟩, ⟨?_, ?_, ?_, ?_, fun q => by simp at q, fun q => by simp at q⟩⟩, ?_, ?_⟩
  · unfold F_Wire_init
    simp only [fw_let, hz]
    have hT' : fw_wi (fw_wi (fw_wr (fw_nw S (300 : Int32).toNatClampNeg) w 1 (some (w + 1))) w 2 0) w 3 0 = T := by rw [hT]; rfl
    rw [hT', z1, e7]
    simp only [Option.bind_some]
    rw [if_pos hu]
  · show fw_r (fw_wr S7 w 4 (some (w + 2))) w 1 = _
    rw [r_k (by decide), ga.2.1, r_n z1 (by omega), hT]
    show fw_r (fw_wr (fw_nw S 300) w 1 (some (w + 1))) w 1 = _
    rw [r_s]
  · show fw_l S7 (w + 1) = 300
    rw [gb.2.2, l_n z1 (by omega), hT]
    show fw_l (fw_nw S 300) (w + 1) = 300
    rw [l_ns hz]
  · rw [g_k (by decide), g_k (by decide), g_k (by decide), fw_g_wr, ga.1, g_n z1 (by omega), hT, g_k (by decide), g_s]; rfl
  · rw [g_k (by decide), g_k (by decide), g_k (by decide), fw_g_wr, ga.1, g_n z1 (by omega), hT, g_s]; rfl
  · show fw_r (fw_wr S7 w 4 (some (w + 2))) w 4 = _
    rw [r_s]
  · show fw_r (fw_wr S7 w 4 (some (w + 2))) (w + 2) 3 = _
    rw [r_a (by omega)]; exact p7.1
  · exact p7.2.1
  · rw [g_k (by decide), g_k (by decide), g_s]; rfl
  · exact z7
  · have hsT : sam S T 0 w := by
      rw [hT]
      exact (sam_nw (by omega)).tr ((sam_wr (by omega)).tr ((sam_wi (by omega)).tr (sam_wi (by omega))))
    exact hsT.tr ((sam_nw (by omega)).tr ((s7.sub (by omega) (by omega)).tr ((sam_wr (by omega)).tr ((sam_wi (by omega)).tr ((sam_wi (by omega)).tr (sam_wi (by omega)))))))
def Wp (o : Option fw_S) (Q : fw_S → Prop) : Prop := ∃ R, o = some R ∧ Q R
theorem Wp_let {α : Type} {a y : α} {f : α → Option fw_S} {Q : fw_S → Prop} (hy : a = y) (h : Wp (f y) Q) : Wp (fw_let a f) Q := by subst hy; exact h
theorem Wp_bind {o : Option fw_S} {S : fw_S} {f : fw_S → Option fw_S} {Q : fw_S → Prop} (ho : o = some S) (h : Wp (f S) Q) : Wp (o.bind f) Q := by subst ho; exact h
def SvN (S0 S : fw_S) (e j : Nat) : Prop :=
  fw_z S = e + 7 + 4 * j ∧ sam S0 S 0 e ∧ (fw_r S e 0 = some (e + 1) ∧ fw_r S e 1 = some (e + 4) ∧ fw_r S e 4 = some (e + 5) ∧ fw_l S (e + 4) = 8) ∧ PrX S (e + 1) 60 [] ∧ FrX S (e + 5) 0 0 [] ∧ fw_g S e 2 = 0 ∧ fw_g S e 3 = 0 ∧ ∀ i, i < j → fw_r S (e + 4) i = some (e + 7 + 4 * i) ∧ MmX S (e + 7 + 4 * i) (0, 0, 0, [])
theorem SvN.step {S0 S : fw_S} {e j : Nat} {v : Int32} (h : SvN S0 S e j) (hj : j < 8) (hv : v = nI j) {Q : fw_S → Prop} {K : fw_S → Option fw_S} {D : Option fw_S} (hK : ∀ S', SvN S0 S' e (j + 1) → Wp (K S') Q) :
    Wp (fw_om (fw_r S e 1) D (fun b19 => fw_let (fw_z S) (fun b26 => fw_let (fw_nw S 0) (fun S25 => Option.bind (F_Memory_init b26 S25) (fun S28 => if v < 0 ∨ fw_l S28 b19 ≤ v.toNatClampNeg then none else fw_let (fw_wr S28 b19 v.toNatClampNeg (some b26)) K))))) Q := by
  subst hv
  obtain ⟨hz, hs, ⟨r0, r1, r4, l4⟩, hP, hF, g2, g3, hm⟩ := h
  obtain ⟨S7, e7, p7, z7, s7⟩ := Memory_new (S := fw_nw S 0) (a := e + 7 + 4 * j) (by rw [fw_z_nw, hz])
  have s8 : sam S S7 0 (e + 7 + 4 * j) := (sam_nw (by omega)).tr s7
  have s9 : ∀ lo n, (e + 4 < lo ∨ lo + n ≤ e + 4) → lo + n ≤ e + 7 + 4 * j → sam S (fw_wr S7 (e + 4) j (some (e + 7 + 4 * j))) lo n := fun lo n h1 h2 => (s8.sub (by omega) (by omega)).tr (sam_wr (by omega))
  have e4 : (nI j).toNatClampNeg = j := nI_clamp (by omega)
  have e0 : ¬ nI j < 0 := nI_pos (by omega)
  have e5 : ¬ 8 ≤ j := by omega
  have l4' : fw_l S7 (e + 4) = 8 := by rw [(s8 (e + 4) (by omega) (by omega)).2.2, l4]
  have ge := s8 e (by omega) (by omega)
  have hP' : SvN S0 (fw_wr S7 (e + 4) j (some (e + 7 + 4 * j))) e (j + 1) := by
    refine ⟨by rw [fw_z_wr, z7]; omega, hs.tr (s9 0 e (by omega) (by omega)), ⟨?_, ?_, ?_, l4'⟩, hP.blk (s9 _ _ (by omega) (by omega)), hF.blk (s9 _ _ (by omega) (by omega)), ?_, ?_, fun i hi => ?_⟩
    · rw [r_a (by omega), ge.2.1]; exact r0
    · rw [r_a (by omega), ge.2.1]; exact r1
    · rw [r_a (by omega), ge.2.1]; exact r4
    · rw [fw_g_wr, ge.1]; exact g2
    · rw [fw_g_wr, ge.1]; exact g3
    · by_cases hc : i = j
      · subst hc
        exact ⟨r_s, p7.blk (sam_wr (by omega))⟩
      · refine ⟨?_, (hm i (by omega)).2.blk (s9 _ _ (by omega) (by omega))⟩
        rw [r_k hc, (s8 (e + 4) (by omega) (by omega)).2.1]
        exact (hm i (by omega)).1
  have := hK _ hP'
  simp only [fw_om, r1, fw_let, hz, e7, Option.bind_some, e0, e4, e5, l4', or_self, if_false]
  exact this
theorem Serv_new {S : fw_S} {e : Nat} (hz : fw_z S = e + 1) : ∃ S', F_ServingEnd_init e S = some S' ∧ SvX S' e id [] [] ∧ fw_g S' e 3 = 0 ∧ fw_z S' = e + 39 ∧ sam S S' 0 e := by
  obtain ⟨S4, e4, p4, z4, s4⟩ := Pairs_new (S := fw_nw S 0) (p := e + 1) (cap := 60) (by rw [fw_z_nw, hz]) (by decide)
  obtain ⟨T, hT⟩ : ∃ T, T = fw_wi (fw_wi (fw_wr (fw_nw (fw_wr S4 e 0 (some (e + 1))) 8) e 1 (some (e + 4))) e 2 0) e 3 0 := ⟨_, rfl⟩
  have z6 : fw_z (fw_wr S4 e 0 (some (e + 1))) = e + 4 := by rw [fw_z_wr, z4]
  have zT : fw_z T = e + 5 := by rw [hT, fw_z_wi, fw_z_wi, fw_z_wr, fw_z_nw, z6]
  obtain ⟨S16, e16, p16, z16, s16⟩ := Frame_new (S := fw_nw T 0) (f := e + 5) (by rw [fw_z_nw, zT])
  have sT : sam S4 T (e + 1) 3 := by
    rw [hT]
    exact (sam_wr (by omega)).tr ((sam_nw (by omega)).tr ((sam_wr (by omega)).tr ((sam_wi (by omega)).tr (sam_wi (by omega)))))
  have s0 : sam S T 0 e := by
    rw [hT]
    exact (sam_nw (by omega)).tr ((s4.sub (by omega) (by omega)).tr ((sam_wr (by omega)).tr ((sam_nw (by omega)).tr ((sam_wr (by omega)).tr ((sam_wi (by omega)).tr (sam_wi (by omega)))))))
  have sTT : sam T (fw_wr S16 e 4 (some (e + 5))) (e + 1) 4 := (sam_nw (by omega)).tr ((s16.sub (by omega) (by omega)).tr (sam_wr (by omega)))
  have ge := s16 e (by omega) (by omega)
  have hN : SvN S (fw_wr S16 e 4 (some (e + 5))) e 0 := by
    refine ⟨by rw [fw_z_wr, z16], s0.tr ((sam_nw (by omega)).tr ((s16.sub (by omega) (by omega)).tr (sam_wr (by omega)))), ⟨?_, ?_, r_s, ?_⟩, (p4.blk sT).blk (sTT.sub (by omega) (by omega)), p16.blk (sam_wr (by omega)), ?_, ?_, fun i hi => by omega⟩
    · rw [r_k (by decide), ge.2.1, r_n zT (by omega), hT]
      show fw_r (fw_wr (fw_nw (fw_wr S4 e 0 (some (e + 1))) 8) e 1 (some (e + 4))) e 0 = _
      rw [r_k (by decide), r_n z6 (by omega), r_s]
    · rw [r_k (by decide), ge.2.1, r_n zT (by omega), hT]
      show fw_r (fw_wr (fw_nw (fw_wr S4 e 0 (some (e + 1))) 8) e 1 (some (e + 4))) e 1 = _
      rw [r_s]
    · rw [(sTT (e + 4) (by omega) (by omega)).2.2, hT]
      show fw_l (fw_nw (fw_wr S4 e 0 (some (e + 1))) 8) (e + 4) = 8
      rw [l_ns z6]
    · rw [fw_g_wr, ge.1, g_n zT (by omega), hT, g_k (by decide), g_s]
    · rw [fw_g_wr, ge.1, g_n zT (by omega), hT, g_s]
  have goal : Wp (F_ServingEnd_init e S) (fun S' => SvN S S' e 8) := by
    unfold F_ServingEnd_init
    refine Wp_let hz ?_
    refine Wp_let rfl ?_
    refine Wp_bind e4 ?_
    refine Wp_let rfl ?_
    refine Wp_let z6 ?_
    refine Wp_let rfl ?_
    refine Wp_let rfl ?_
    refine Wp_let rfl ?_
    refine Wp_let (y := T) (by rw [hT]; rfl) ?_
    refine Wp_let zT ?_
    refine Wp_let rfl ?_
    refine Wp_bind e16 ?_
    refine Wp_let rfl ?_
    refine hN.step (v := 0) (by decide) rfl (fun S1 h1 => ?_)
    refine h1.step (v := 1) (by decide) rfl (fun S1 h1 => ?_)
    refine h1.step (v := 2) (by decide) rfl (fun S1 h1 => ?_)
    refine h1.step (v := 3) (by decide) rfl (fun S1 h1 => ?_)
    refine h1.step (v := 4) (by decide) rfl (fun S1 h1 => ?_)
    refine h1.step (v := 5) (by decide) rfl (fun S1 h1 => ?_)
    refine h1.step (v := 6) (by decide) rfl (fun S1 h1 => ?_)
    refine h1.step (v := 7) (by decide) rfl (fun S1 h1 => ?_)
    exact ⟨S1, rfl, h1⟩
  obtain ⟨R, eR, z, s, hr, hP, hF, g2, g3, hm⟩ := goal
  refine ⟨R, eR, ⟨hr, hP, fun i hi => ⟨(hm i hi).1, hi⟩, fun i j _ _ q => q, fun i hi => ⟨_, (hm i hi).2⟩, by rw [g2]; rfl, by simp, fun i m q => by simp at q, 0, 0, [], hF⟩, g3, by omega, s⟩
