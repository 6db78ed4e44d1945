/-! The reference: answers, lines up and down, the clock. -/
theorem isIn_0 (v : Int32) {k : Nat} (hk : k + 1 < 2 ^ 31) (S : fw_S) : F_Mo_isIn v 0 (nI k) S = some (if v < 0 ∨ nI (k + 1) ≤ v then 0 else 1) := by
  unfold F_Mo_isIn
  by_cases h0 : v < 0
  · rw [if_pos h0, if_pos (Or.inl h0)]
  · rw [if_neg h0]
    obtain ⟨j, hj, rfl⟩ := nI_of h0
    by_cases h1 : k < j
    · rw [if_pos (nI_lt h1 hj), if_pos (Or.inr (nI_le (by omega) hj))]
    · have hn : ¬ (nI j < 0 ∨ nI (k + 1) ≤ nI j) := fun z => z.elim h0 (fun z => absurd z (nI_ge (by omega) hk))
      rw [if_neg (nI_nlt (by omega) (by omega)), if_neg hn]
theorem sHear_no {g : sG} {i : Nat} {kind num : Int32} {bs : List Int32} (hk : ¬ (kind = 2 ∨ kind = 4)) : sHear g i kind num bs = (0, g) := by
  unfold sHear
  by_cases h : hN num < gn g
  · rw [if_pos h, if_neg (fun z => hk z.2.2.2)]
  · rw [if_neg h]
section MC
variable {S0 S S' : fw_S} {m r i : Nat} {g : sG} {o : List Int32} {B : Nat}
theorem RM.hear {n : Nat} (h : RM S0 S m g) (hok : okG g) (hi : i < 4) (hA : Ar S (m + 4) (30 * i) o) (ho : o.length = 4 + n) (hn3 : o.getD 3 0 = nI n) (h1 : 1 ≤ n) (h18 : n ≤ 18) {kind num : Int32} (hnum : b8 num) (hk2 : kind = 2 → 2 ≤ n ∧ n % 2 = 0) :
    ∃ S', F_Mo_isDropped m (nI i) kind num (nI (30 * i)) S = some (if (sHear g i kind num (o.drop 4)).1 = 0 then 1 else 0, S') ∧ RM S0 S' m (sHear g i kind num (o.drop 4)).2 := by
  obtain ⟨r, hr256, rfl⟩ := b8_of hnum
  have h24 := h.n24
  have hS := h.1
  have hN : hN (nI r) = r := nI_clamp (by omega)
  have e4 : fw_g S (m + 4) (30 * i + 4) = (o.drop 4).getD 0 0 := by
    rw [hA.get (j := 4) (by omega)]
    simp [show 4 < o.length by omega]
  have e3 : fw_g S (m + 4) (30 * i + 3) = nI n := by
    rw [hA.get (j := 3) (by omega), ← hn3]
    simp [show 3 < o.length by omega]
  by_cases hk : kind = 2 ∨ kind = 4
  · have hj : F_Mo_isDropped m (nI i) kind (nI r) (nI (30 * i)) S = F_Mo_isDropped_j10 m (nI i) kind (nI r) (nI (30 * i)) S := by
      unfold F_Mo_isDropped
      by_cases k2 : kind = 2
      · rw [if_pos k2]
      · rw [if_neg k2, if_pos (hk.resolve_left k2)]
    rw [hj]
    unfold F_Mo_isDropped_j10 sHear
    rw [h.2.2.2.1.1, hN]
    by_cases hr : r < gn g
    · rw [if_pos hr, if_neg (nI_ge hr (by omega))]
      have hq := h.rq hr
      have a10 := hq.a10
      have a8 := hq.a8
      have a23 := hq.a23
      have hno : ¬ (nI r < 0 ∨ 24 ≤ (nI r).toNatClampNeg) := nI_in (by omega) (by omega)
      have hno4 : ¬ (nI (30 * i + 4) < 0 ∨ 150 ≤ (nI (30 * i + 4)).toNatClampNeg) := nI_in (by omega) (by omega)
      have hno3 : ¬ (nI (30 * i + 3) < 0 ∨ 150 ≤ (nI (30 * i + 3)).toNatClampNeg) := nI_in (by omega) (by omega)
      have hc : (nI r).toNatClampNeg = r := nI_clamp (by omega)
      have hc4 : (nI (30 * i + 4)).toNatClampNeg = 30 * i + 4 := nI_clamp (by omega)
      have hc3 : (nI (30 * i + 3)).toNatClampNeg = 30 * i + 3 := nI_clamp (by omega)
      rw [hS.o17, hS.l10, if_neg hno, hc, a10]
      by_cases hw : sWaits (gq g r) i kind (o.drop 4)
      · obtain ⟨w1, w2, w3, w4⟩ := id hw
        rw [if_pos hw, if_pos w1, hS.o15, hS.l8]
        rw [hc] at hno
        rw [if_neg hno, a8, if_pos w2, hS.o30, hS.l23, if_neg hno, hS.o3, a4, hS.l4, if_neg hno4, hc4, e4, a23, if_pos w3.symm]
        by_cases k4 : kind = 4
        · rw [if_pos k4, if_pos k4]
          obtain ⟨S1, p1, q1⟩ := h.fail hr 3
          rw [p1, Option.bind_some]
          exact ⟨S1, rfl, q1⟩
        · rw [if_neg k4, if_neg k4]
          have k2 : kind = 2 := hk.resolve_right k4
          obtain ⟨n2, nev⟩ := hk2 k2
          rw [hS.o3, a3, hS.l4, if_neg hno3, hc3, e3, let_i, half h18 n2]
          obtain ⟨S1, p1, q1⟩ := h.rowsIn hok hi hr w1 w2 hA ho h18 n2 nev
          rw [show nI 0 = (0 : Int32) from rfl] at p1
          rw [p1]
          exact ⟨S1, rfl, q1⟩
      · rw [if_neg hw, if_pos rfl]
        by_cases w1 : (gq g r).1 14 = 0
        · rw [if_pos w1, hS.o15, hS.l8]
          rw [hc] at hno
          rw [if_neg hno, a8]
          by_cases w2 : (gq g r).1 0 = nI i
          · rw [if_pos w2, hS.o30, hS.l23, if_neg hno, hS.o3, a4, hS.l4, if_neg hno4, hc4, e4, a23]
            have w3 : ¬ (gq g r).1 11 = (o.drop 4).getD 0 0 := fun z => hw ⟨w1, w2, z.symm, hk⟩
            rw [if_neg w3]
            exact ⟨S, rfl, h⟩
          · rw [if_neg w2]
            exact ⟨S, rfl, h⟩
        · rw [if_neg w1]
          exact ⟨S, rfl, h⟩
    · rw [if_neg hr, if_pos (nI_le (by omega) (by omega)), if_pos rfl]
      exact ⟨S, rfl, h⟩
  · have k2 : ¬ kind = 2 := fun z => hk (Or.inl z)
    have k4 : ¬ kind = 4 := fun z => hk (Or.inr z)
    unfold F_Mo_isDropped
    rw [if_neg k2, if_neg k4, sHear_no hk]
    exact ⟨S, rfl, h⟩
theorem RM.end (h : RM S0 S m g) (hi : i < 5) : ∃ S', F_Mo_end m (nI i) S = some S' ∧ RM S0 S' m (sWrong g i) := by
  have hS := h.1
  obtain ⟨l1, l2, l3, l4, l5, l6, l7⟩ := h.2.2.1 i hi
  unfold F_Mo_end sWrong
  simp (disch := omega) only [↓reduceIte, ↓om_wi, ↓let_i, ↓hS.o4, ↓hS.o0, ↓hS.o2, hS.l5, hS.l1, hS.l3, fw_l_wi, pF, lF, or_self, nI_clamp]
  by_cases hc : i = 4
  · rw [if_pos hc, if_pos (show (4 : Int32) ≤ nI i from nI_le (a := 4) (by omega) (by omega))]
    exact ⟨_, rfl, h.line hi (df.wi (Or.inl (Or.inl ⟨Or.inr (Or.inr rfl), rfl⟩))) ⟨by rw [g_a (by omega)]; exact l1, by rw [g_a (by omega)]; exact l2, by rw [g_s]; rfl, l4.wi (Or.inl (by omega)), Ar.nil, l6, by simp⟩⟩
  · rw [if_neg hc, if_neg (show ¬ (4 : Int32) ≤ nI i from nI_ge (b := 4) (by omega) (by omega))]
    refine ⟨_, rfl, h.line hi ((df.wi (Or.inl (Or.inl ⟨Or.inr (Or.inr rfl), rfl⟩))).tr ((df.wi (Or.inl (Or.inl ⟨Or.inl rfl, rfl⟩))).tr (df.wi (Or.inl (Or.inl ⟨Or.inr (Or.inl rfl), rfl⟩))))) ⟨?_, ?_, ?_, Ar.nil, Ar.nil, by simp, by simp⟩⟩
    · rw [g_a (by omega), g_s]
    · rw [g_s]; rfl
    · rw [g_a (by omega), g_a (by omega), g_s]; rfl
theorem RM.downA (h : RM S0 S m g) (v : Int32) : ∃ S', F_Mo_down m v S = some ((sDown g v).1, S') ∧ RM S0 S' m (sDown g v).2 := by
  have hS := h.1
  unfold F_Mo_down sDown
  have e := isIn_0 v (k := 3) (by decide) S
  rw [show nI 3 = (3 : Int32) from rfl] at e
  rw [e, Option.bind_some]
  by_cases hv : v < 0 ∨ nI 4 ≤ v
  · rw [if_pos hv, if_pos hv, if_pos rfl]; exact ⟨S, rfl, h⟩
  · obtain ⟨i, hi, rfl, hh⟩ := rng (by decide) hv
    have l1 := (h.2.2.1 i (by omega)).1
    rw [if_neg hv, if_neg hv, if_neg (by decide), hh]
    simp (disch := omega) only [↓reduceIte, ↓hS.o0, hS.l1, pF, lF, or_self, nI_clamp, l1]
    by_cases hz : (gl g i).1 = 0
    · rw [if_pos hz, if_pos hz]; exact ⟨S, rfl, h⟩
    · rw [if_neg hz, if_neg hz]
      obtain ⟨S1, p1, q1⟩ := h.end (i := i) (by omega)
      rw [p1, Option.bind_some]
      exact ⟨S1, rfl, q1⟩
theorem RM.upL (hi : i < 4) : ∀ (k c r : Nat) (w : Int32) (S : fw_S) (g : sG), RM S0 S m g → okG g → r + k = gn g → k < c → ∃ S', F_Mo_up_l34 c m (nI i) w (nI r) S = some ((sUpL i k r w g).1, S') ∧ RM S0 S' m (sUpL i k r w g).2 := by
  intro k
  induction k with
  | zero =>
    intro c r w S g h hok hrk hkc
    obtain ⟨c, rfl⟩ : ∃ c', c = c' + 1 := ⟨c - 1, by omega⟩
    have h24 := h.n24
    rw [F_Mo_up_l34, h.2.2.2.1.1, if_pos (nI_le (by omega) (by omega))]
    exact ⟨S, rfl, h⟩
  | succ k ih =>
    intro c r w S g h hok hrk hkc
    obtain ⟨c, rfl⟩ : ∃ c', c = c' + 1 := ⟨c - 1, by omega⟩
    have h24 := h.n24
    have hr : r < gn g := by omega
    have hS := h.1
    have hq := h.rq hr
    have ho := hok.2.2.2.2.2.1 r hr
    rw [F_Mo_up_l34, h.2.2.2.1.1, if_neg (nI_ge hr (by omega))]
    simp (disch := omega) only [↓reduceIte, ↓hS.o17, ↓hS.o15, ↓hS.o31, hS.l10, hS.l8, hS.l24, pF, lF, or_self, nI_clamp, hq.a10, hq.a8, ↓let_i, nI_1]
    unfold sUpL
    by_cases hz : (gq g r).1 14 = 0
    · rw [if_pos hz]
      by_cases hh : (gq g r).1 0 = nI i
      · have hc : (gq g r).1 0 = nI i ∧ (gq g r).1 14 = 0 := ⟨hh, hz⟩
        rw [if_pos hh, if_pos hc]
        obtain ⟨-, -, hk, hb, hl⟩ := ho.2.2.2.2.2.2.2.2.1 hz
        obtain ⟨S1, p1, q1⟩ := h.sendRep hr 0 hb hl (i := i) (by omega) hh
        rw [p1]
        simp only [fw_b2]
        by_cases hz1 : (sSendReq g r 0).1 = 0
        · rw [if_pos hz1, if_pos hz1]
          exact ih c (r + 1) w S1 _ q1 (hok.sreq hr hz 0) (by rw [gn_sreq]; omega) (by omega)
        · rw [if_neg hz1, if_neg hz1]
          exact ih c (r + 1) (w + 1) S1 _ q1 (hok.sreq hr hz 0) (by rw [gn_sreq]; omega) (by omega)
      · have hc : ¬ ((gq g r).1 0 = nI i ∧ (gq g r).1 14 = 0) := fun z => hh z.1
        rw [if_neg hh, if_neg hc]
        exact ih c (r + 1) w S g h hok (by omega) (by omega)
    · have hc : ¬ ((gq g r).1 0 = nI i ∧ (gq g r).1 14 = 0) := fun z => hz z.2
      rw [if_neg hz, if_neg hc]
      exact ih c (r + 1) w S g h hok (by omega) (by omega)
theorem RM.upA (h : RM S0 S m g) (hok : okG g) (v : Int32) : ∃ S', F_Mo_up m v S = some ((sUp g v).1, S') ∧ RM S0 S' m (sUp g v).2 := by
  have hS := h.1
  have h24 := h.n24
  unfold F_Mo_up sUp
  have e := isIn_0 v (k := 3) (by decide) S
  rw [show nI 3 = (3 : Int32) from rfl] at e
  rw [e, Option.bind_some]
  by_cases hv : v < 0 ∨ nI 4 ≤ v
  · rw [if_pos hv, if_pos hv, if_pos rfl]; exact ⟨S, rfl, h⟩
  · obtain ⟨i, hi, rfl, hh⟩ := rng (by decide) hv
    obtain ⟨l1, l2, l3, l4, l5, l6, l7⟩ := h.2.2.1 i (by omega)
    rw [if_neg hv, if_neg hv, if_neg (by decide), hh]
    simp (disch := omega) only [↓reduceIte, ↓hS.o0, hS.l1, pF, lF, or_self, nI_clamp, l1]
    by_cases hz : (gl g i).1 = 0
    · rw [if_pos hz, if_pos hz, let_i]
      have h1 : RM S0 (fw_wi S (m + 1) i 1) m (pl g i (1, (gl g i).2.1, (gl g i).2.2)) := h.line (by omega) (df.wi (Or.inl (Or.inl ⟨Or.inl rfl, rfl⟩))) ⟨g_s, by rw [g_a (by omega)]; exact l2, by rw [g_a (by omega)]; exact l3, l4.wi (Or.inl (by omega)), l5.wi (Or.inl (by omega)), l6, l7⟩
      have o1 : okG (pl g i (1, (gl g i).2.1, (gl g i).2.2)) := by
        obtain ⟨o1, o2, o3, o4⟩ := hok.2.2.1 i (by omega)
        exact hok.pl ⟨Or.inr rfl, o2, o3, o4⟩ (fun q => by omega)
      have := RM.upL (m := m) hi (gn g) 4096 0 0 _ _ h1 o1 (by show 0 + gn g = gn g; omega) (by omega)
      rw [show nI 0 = (0 : Int32) from rfl] at this
      exact this
    · rw [if_neg hz, if_neg hz]; exact ⟨S, rfl, h⟩
theorem RM.tickR {K : Nat → Int32 → Int32 → Int32 → fw_S → Option (Int32 × fw_S)} {v1 v3 : Int32} : ∀ (k c r : Nat) (w : Int32) (S : fw_S) (g : sG), RM S0 S m g → okG g → r + k = gn g → k < c → ∃ S', F_Mo_tick_l35 K c m v1 w v3 (nI r) S = K m v1 (sTickR k r w g).1 (v3 + 1) S' ∧ RM S0 S' m (sTickR k r w g).2 := by
  intro k
  induction k with
  | zero =>
    intro c r w S g h hok hrk hkc
    obtain ⟨c, rfl⟩ : ∃ c', c = c' + 1 := ⟨c - 1, by omega⟩
    have h24 := h.n24
    rw [F_Mo_tick_l35, h.2.2.2.1.1, if_pos (nI_le (by omega) (by omega))]
    exact ⟨S, rfl, h⟩
  | succ k ih =>
    intro c r w S g h hok hrk hkc
    obtain ⟨c, rfl⟩ : ∃ c', c = c' + 1 := ⟨c - 1, by omega⟩
    have h24 := h.n24
    have hr : r < gn g := by omega
    have hS := h.1
    have hq := h.rq hr
    have ho := hok.2.2.2.2.2.1 r hr
    obtain ⟨s0, s1, s2, s3, s4, s5, s6⟩ := h.2.1
    rw [F_Mo_tick_l35, h.2.2.2.1.1, if_neg (nI_ge hr (by omega))]
    simp (disch := omega) only [↓reduceIte, ↓hS.o17, ↓hS.o32, ↓hS.o31, hS.l10, hS.l25, hS.l24, pF, lF, or_self, nI_clamp, hq.a10, hq.a25, hq.a24, ↓let_i, nI_1, s1, s2, s3]
    unfold sTickR
    by_cases hz : (gq g r).1 14 = 0
    · rw [if_pos hz]
      by_cases hp : gc g 1 ≤ gc g 3 - (gq g r).1 12
      · have hc : (gq g r).1 14 = 0 ∧ gc g 1 ≤ gc g 3 - (gq g r).1 12 := ⟨hz, hp⟩
        rw [if_neg (Int32.not_lt.mpr hp), if_pos hc]
        by_cases h2 : (gq g r).1 13 < gc g 2
        · rw [if_pos h2, if_pos h2]
          obtain ⟨⟨hh, hh4, hhe⟩, -⟩ := id ho
          obtain ⟨-, -, hk, hb, hl⟩ := ho.2.2.2.2.2.2.2.2.1 hz
          obtain ⟨S1, p1, q1⟩ := h.sendRep hr ((gq g r).1 13 + 1) hb hl (i := hh) (by omega) hhe
          rw [p1]
          simp only [fw_b2]
          exact ih c (r + 1) w S1 _ q1 (hok.sreq hr hz _) (by rw [gn_sreq]; omega) (by omega)
        · rw [if_neg h2, if_neg h2]
          obtain ⟨S1, p1, q1⟩ := h.fail hr 1
          rw [p1, Option.bind_some]
          exact ih c (r + 1) (w + 1) S1 _ q1 (hok.pq hr (ho.fail (Or.inl rfl))) (by show r + 1 + k = gn g; omega) (by omega)
      · have hc : ¬ ((gq g r).1 14 = 0 ∧ gc g 1 ≤ gc g 3 - (gq g r).1 12) := fun z => hp z.2
        rw [if_pos (Int32.not_le.mp hp), if_neg hc]
        exact ih c (r + 1) w S g h hok (by omega) (by omega)
    · have hc : ¬ ((gq g r).1 14 = 0 ∧ gc g 1 ≤ gc g 3 - (gq g r).1 12) := fun z => hz z.1
      rw [if_neg hz, if_neg hc]
      exact ih c (r + 1) w S g h hok (by omega) (by omega)
theorem RM.tickL {N : Nat} (hN : N ≤ 1000) : ∀ (k c i : Nat) (w : Int32) (S : fw_S) (g : sG) (B : Nat), RM S0 S m g → okG g → okT g B → i + k = N → k < c → ∃ S', F_Mo_tick_l17 c m (nI N) w (nI i) S = some ((sTickL k w g).1, S') ∧ RM S0 S' m (sTickL k w g).2 := by
  intro k
  induction k with
  | zero =>
    intro c i w S g B h hok ht hik hkc
    obtain ⟨c, rfl⟩ : ∃ c', c = c' + 1 := ⟨c - 1, by omega⟩
    rw [F_Mo_tick_l17, if_pos (nI_le (by omega) (by omega))]
    exact ⟨S, rfl, h⟩
  | succ k ih =>
    intro c i w S g B h hok ht hik hkc
    obtain ⟨c, rfl⟩ : ∃ c', c = c' + 1 := ⟨c - 1, by omega⟩
    have h24 := h.n24
    have hck : fw_g S m 8 = gc g 3 := h.2.1.2.2.2.1
    rw [F_Mo_tick_l17, if_neg (nI_ge (by omega) (by omega)), let_i, hck]
    have h1 := h.num (f := 8) (k := 3) (by decide) (gc g 3 + 1)
    obtain ⟨o1, t1⟩ := ok_second hok ht
    obtain ⟨S1, p1, q1⟩ := RM.tickR (m := m) (K := F_Mo_tick_l17 c) (v1 := nI N) (v3 := nI i) (gn g) 4096 0 w _ _ h1 o1 (by show 0 + gn g = gn g; omega) (by omega)
    obtain ⟨o2, t2, -⟩ := ok_tickR (gn g) 0 w _ o1 t1 (by show 0 + gn g ≤ gn g; omega)
    rw [show nI 0 = (0 : Int32) from rfl] at p1
    rw [p1, nI_1]
    unfold sTickL
    exact ih c (i + 1) _ S1 _ (B + 1) q1 o2 t2 (by omega) (by omega)
theorem RM.tickA (h : RM S0 S m g) (hok : okG g) (ht : okT g B) (v : Int32) : ∃ S', F_Mo_tick m v S = some ((sTick g v).1, S') ∧ RM S0 S' m (sTick g v).2 := by
  unfold F_Mo_tick sTick F_Mo_isIn
  by_cases h0 : v < 0
  · rw [if_pos h0, if_pos (Or.inl h0), Option.bind_some, if_pos rfl]
    exact ⟨S, rfl, h⟩
  · rw [if_neg h0]
    by_cases h1 : 1000 < v
    · rw [if_pos h1, if_pos (Or.inr h1), Option.bind_some, if_pos rfl]
      exact ⟨S, rfl, h⟩
    · have hv : ¬ (v < 0 ∨ 1000 < v) := fun z => z.elim h0 h1
      rw [if_neg h1, if_neg hv, Option.bind_some, if_neg (by decide)]
      obtain ⟨n, -, hn, rfl⟩ := nI_rng (w := v) (a := 0) (b := 1000) (by decide) (Int32.not_lt.mp h0) (Int32.not_lt.mp h1) (by decide)
      have hh : hN (nI n) = n := nI_clamp (by omega)
      rw [hh]
      have := RM.tickL (m := m) hn n 4096 0 0 S g B h hok ht (by omega) (by omega)
      rw [show nI 0 = (0 : Int32) from rfl] at this
      exact this
end MC
