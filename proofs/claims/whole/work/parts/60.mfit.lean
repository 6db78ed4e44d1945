/-! The reference: does a byte fit; a byte comes, goes, is looped. -/
section MF
variable {S0 S S' : fw_S} {m i : Nat} {g : sG} {o : List Int32} {B : Nat}
theorem isLen {kind b : Int32} (hb : b8 b) (hk : kind = 1 ∨ kind = 2 ∨ kind = 3 ∨ kind = 4) (S : fw_S) : F_Mo_isLength kind b S = some (if sLenOk kind b then 1 else 0) := by
  obtain ⟨j, hj, rfl⟩ := b8_of hb
  unfold F_Mo_isLength sLenOk F_Mo_isIn
  by_cases k1 : kind = 1
  · simp only [k1, if_true]
    by_cases c1 : nI j < 2
    · have : ¬ 2 ≤ nI j := Int32.not_le.mpr c1
      simp [c1, this]
    · have c1' : 2 ≤ nI j := Int32.not_lt.mp c1
      by_cases c2 : 9 < nI j
      · have : ¬ nI j ≤ 9 := Int32.not_le.mpr c2
        simp [c1, c2, this]
      · have : nI j ≤ 9 := Int32.not_lt.mp c2
        simp [c1, c2, c1', this]
  · simp only [k1, if_false]
    by_cases k2 : kind = 2
    · simp only [k2, if_true]
      have hm : nI j - nI j / 2 * 2 = nI j &&& 1 := by
        have e1 : nI j - nI j / nI 2 * nI 2 = nI (j % 2) := nI_mod (by omega) (by omega) (by omega)
        have e2 : nI j &&& 1 = nI (j % 2 ^ 1) := pk_andN (n := j) (by omega) (m := 1) 1 (by decide)
        rw [e2]
        exact e1
      rw [hm]
      by_cases c1 : nI j < 2
      · have : ¬ 2 ≤ nI j := Int32.not_le.mpr c1
        simp [c1, this]
      · have c1' : 2 ≤ nI j := Int32.not_lt.mp c1
        by_cases c2 : 18 < nI j
        · have : ¬ nI j ≤ 18 := Int32.not_le.mpr c2
          simp [c1, c2, this]
        · have c2' : nI j ≤ 18 := Int32.not_lt.mp c2
          by_cases c3 : nI j &&& 1 = 0
          · simp [c1, c2, c1', c2', c3]
          · simp [c1, c2, c1', c2', c3]
    · simp only [k2, if_false]
      by_cases k3 : kind = 3
      · simp only [k3, if_true]
        by_cases c1 : nI j = 2 <;> simp [c1]
      · simp only [k3, if_false]
        have k4 : kind = 4 := ((hk.resolve_left k1).resolve_left k2).resolve_left k3
        by_cases c1 : nI j = 1 <;> simp [c1, k4]
theorem fitL (hS : ShM S m) (hi : i < 5) (hA : Ar S (m + 4) (30 * i) o) (hl : o.length ≤ 22) (b : Int32) : ∀ (n c k : Nat) (x : Int32), k + n = o.length → n < c → F_Mo_fits_l101 S c m (nI (30 * i)) (nI o.length) b x (nI k) = some (if sXor x (o.drop k) = b then 1 else 0) := by
  intro n
  induction n with
  | zero =>
    intro c k x hk hc
    obtain ⟨c, rfl⟩ : ∃ c', c = c' + 1 := ⟨c - 1, by omega⟩
    rw [F_Mo_fits_l101, if_pos (nI_le (by omega) (by omega)), List.drop_eq_nil_of_le (by omega)]
    unfold F_Mo_fits_j127
    show _ = some (if x = b then 1 else 0)
    by_cases hc : x = b
    · rw [if_pos hc, if_pos hc]
    · rw [if_neg hc, if_neg hc]
  | succ n ih =>
    intro c k x hk hc
    obtain ⟨c, rfl⟩ : ∃ c', c = c' + 1 := ⟨c - 1, by omega⟩
    have hkl : k < o.length := by omega
    have ek := hA.get hkl
    rw [F_Mo_fits_l101, if_neg (nI_ge (by omega) (by omega)), hS.o3, nI_add, hS.l4, if_neg (nI_in (by omega) (by omega)), nI_clamp (by omega), ek, let_i, nI_1, ih c (k + 1) _ (by omega) (by omega), List.drop_eq_getElem_cons hkl]
    rfl
theorem RM.fits (hS : ShM S m) (hi : i < 5) (hA : Ar S (m + 4) (30 * i) o) (ho : okO o) {b : Int32} (hb : b8 b) : F_Mo_fits m (nI (30 * i)) (nI o.length) b S = some (if sFit o b then 1 else 0) := by
  have hmx := ho.le
  unfold F_Mo_fits sFit
  by_cases c0 : o.length = 0
  · rw [if_pos c0, if_pos (by rw [c0]; rfl)]
    by_cases a : b = 126 <;> simp [a]
  rw [if_neg c0, if_neg (show ¬ nI o.length = 0 from nI_ne (b := 0) c0 (by omega) (by decide))]
  by_cases c1 : o.length = 1
  · rw [if_pos c1, if_pos (by rw [c1]; rfl)]
    unfold F_Mo_isIn
    by_cases a1 : b < 1
    · have : ¬ 1 ≤ b := Int32.not_le.mpr a1
      simp [a1, this]
    · have a1' : 1 ≤ b := Int32.not_lt.mp a1
      by_cases a2 : 4 < b
      · have : ¬ b ≤ 4 := Int32.not_le.mpr a2
        simp [a1, a2, this]
      · have : b ≤ 4 := Int32.not_lt.mp a2
        simp [a1, a2, a1', this]
  rw [if_neg c1, if_neg (show ¬ nI o.length = 1 from nI_ne (b := 1) c1 (by omega) (by decide))]
  have e1 : fw_g S (m + 4) (30 * i + 1) = o.getD 1 0 := by
    rw [hA.get (j := 1) (by omega)]
    simp [show 1 < o.length by omega]
  by_cases c2 : o.length = 2
  · rw [if_pos c2, if_neg (show ¬ nI o.length = 3 from nI_ne (b := 3) (by omega) (by omega) (by decide)), if_neg (show ¬ nI o.length = 5 from nI_ne (b := 5) (by omega) (by omega) (by decide))]
    unfold F_Mo_fits_j74
    rw [if_pos (show nI o.length < 4 from nI_lt (b := 4) (by omega) (by decide))]
    rfl
  rw [if_neg c2]
  have hkd := ho.2.1 (by omega)
  by_cases c3 : o.length = 3
  · rw [if_pos c3, if_pos (by rw [c3]; rfl), hS.o3, nI_1, hS.l4, if_neg (nI_in (by omega) (by omega)), nI_clamp (by omega), e1, isLen hb hkd, Option.bind_some]
    by_cases a : sLenOk (o.getD 1 0) b <;> simp [a]
  rw [if_neg c3, if_neg (show ¬ nI o.length = 3 from nI_ne (b := 3) c3 (by omega) (by decide))]
  obtain ⟨n, hn3, hn1, hn18, hlok, hln⟩ := ho.2.2 (by omega)
  have e3 : fw_g S (m + 4) (30 * i + 3) = nI n := by
    rw [hA.get (j := 3) (by omega), ← hn3]
    simp [show 3 < o.length by omega]
  have hdone : nI o.length = 4 + o.getD 3 0 ↔ o.length = 4 + n := by
    rw [hn3, show (4 : Int32) = nI 4 from rfl, nI_add]
    exact nI_eq (by omega) (by omega)
  by_cases c5 : o.length = 5 ∧ o.getD 1 0 = 2
  · have hn2 : 2 ≤ n := by
      have hlk := hlok
      rw [c5.2] at hlk
      simp [sLenOk] at hlk
      exact Nat.not_lt.mp (fun z => absurd hlk.1 (nI_ge (b := 2) (by omega) (by omega)))
    have hnd : ¬ nI o.length = 4 + o.getD 3 0 := fun z => by
      have := hdone.mp z
      omega
    rw [if_neg hnd, if_pos (by rw [c5.1]; rfl), hS.o3, nI_1, hS.l4, if_neg (nI_in (by omega) (by omega)), nI_clamp (by omega), e1, if_pos c5.2]
    obtain ⟨j, hj, rfl⟩ := b8_of hb
    by_cases a : 2 ≤ j
    · have a1 : (2 : Int32) ≤ nI j := nI_le (a := 2) a (by omega)
      have a2 : (1 : Int32) < nI j := nI_lt (a := 1) (by omega) (by omega)
      have hz : (!decide (o.getD 1 0 = 2 ∧ o.length = 5 ∧ 1 < nI j)) = false := by
        rw [Bool.not_eq_false', decide_eq_true_eq]
        exact ⟨c5.2, c5.1, a2⟩
      rw [if_pos a1, hz]
      rfl
    · have a1 : ¬ (2 : Int32) ≤ nI j := nI_ge (b := 2) (by omega) (by omega)
      have a2 : ¬ (1 : Int32) < nI j := nI_nlt (a := 1) (by omega) (by omega)
      have hz : (!decide (o.getD 1 0 = 2 ∧ o.length = 5 ∧ 1 < nI j)) = true := by
        rw [Bool.not_eq_true', decide_eq_false_iff_not]
        exact fun z => a2 z.2.2
      rw [if_neg a1, hz]
      rfl
  · have hj : (if nI o.length = 5 then fw_om (fw_r S m 3) none (fun b6 => if nI (30 * i) + 1 < 0 ∨ fw_l S b6 ≤ (nI (30 * i) + 1).toNatClampNeg then none else if fw_g S b6 (nI (30 * i) + 1).toNatClampNeg = 2 then (if (2 : Int32) ≤ b then some (0 : Int32) else some 1) else F_Mo_fits_j74 S m (nI (30 * i)) (nI o.length) b) else F_Mo_fits_j74 S m (nI (30 * i)) (nI o.length) b) = F_Mo_fits_j74 S m (nI (30 * i)) (nI o.length) b := by
      by_cases h5 : o.length = 5
      · have hk2 : ¬ o.getD 1 0 = 2 := fun z => c5 ⟨h5, z⟩
        rw [if_pos (show nI o.length = 5 by rw [h5]; rfl), hS.o3, nI_1, hS.l4, if_neg (nI_in (by omega) (by omega)), nI_clamp (by omega), e1, if_neg hk2]
      · rw [if_neg (show ¬ nI o.length = 5 from nI_ne (b := 5) h5 (by omega) (by decide))]
    rw [hj]
    unfold F_Mo_fits_j74
    rw [if_neg (show ¬ nI o.length < 4 from nI_nlt (b := 4) (by omega) (by omega)), hS.o3, a3, hS.l4, if_neg (nI_in (by omega) (by omega)), nI_clamp (by omega), e3, a4]
    by_cases hd : o.length = 4 + n
    · rw [if_pos (hdone.mpr hd), if_pos (nI_le (by omega) (by omega))]
      have := fitL hS hi hA hmx b (o.length - 1) 4096 1 0 (by omega) (by omega)
      rw [show nI 1 = (1 : Int32) from rfl] at this
      rw [this]
      have hx : sXor 0 (o.drop 1) = sSum (o.getD 1 0) (o.getD 2 0) (o.drop 4) := by
        rw [List.drop_eq_getElem_cons (show 1 < o.length by omega), List.drop_eq_getElem_cons (show 2 < o.length by omega), List.drop_eq_getElem_cons (show 3 < o.length by omega)]
        have g1 : o.getD 1 0 = o[1] := by simp [show 1 < o.length by omega]
        have g2 : o.getD 2 0 = o[2] := by simp [show 2 < o.length by omega]
        have g3 : nI n = o[3] := by rw [← hn3]; simp [show 3 < o.length by omega]
        unfold sSum
        have hlen : (o.drop 4).length = n := by rw [List.length_drop]; omega
        rw [g1, g2, hlen, g3]
        show sXor ((0 : Int32) ^^^ o[1] ^^^ o[2] ^^^ o[3]) (o.drop 4) = _
        rw [Int32.zero_xor]
      rw [hx]
      by_cases a : b = sSum (o.getD 1 0) (o.getD 2 0) (o.drop 4)
      · rw [if_pos a.symm, if_pos (decide_eq_true a)]
      · rw [if_neg (fun z => a z.symm), if_neg (fun q => a (of_decide_eq_true q))]
    · have hnd : ¬ nI o.length = 4 + o.getD 3 0 := fun z => hd (hdone.mp z)
      rw [if_neg hnd, if_neg (nI_ge (by omega) (by omega))]
      have hz : (!decide (o.getD 1 0 = 2 ∧ o.length = 5 ∧ 1 < b)) = true := by
        simp only [Bool.not_eq_true', decide_eq_false_iff_not]
        exact fun z => c5 ⟨z.2.1, z.1⟩
      rw [if_pos hz]
theorem RM.dropJ {k : Int32} {u : Int32 × sG} (h : RM S0 S m u.2) {v : Int32} (hv : v = 0 ↔ u.1 ≠ 0) : ∃ S', F_Mo_come_j137 m k v S = some ((sDrop k u).1, S') ∧ RM S0 S' m (sDrop k u).2 := by
  have h9 : fw_g S m 9 = gc u.2 4 := h.2.1.2.2.2.2.1
  unfold F_Mo_come_j137 sDrop
  rw [h9]
  by_cases hz : u.1 = 0
  · have hv0 : ¬ v = 0 := fun z => hv.mp z hz
    rw [if_pos hz, if_neg hv0, let_i, if_neg hv0]
    exact ⟨_, rfl, h.num (by decide) _⟩
  · have hv0 : v = 0 := hv.mpr hz
    rw [if_neg hz, if_pos hv0, let_i, if_pos hv0]
    refine ⟨_, rfl, ?_⟩
    have := h.num (f := 9) (k := 4) (by decide) (gc u.2 4)
    rw [pc_id u.2 4 rfl] at this
    exact this
theorem RM.come (h : RM S0 S m g) (hok : okG g) (hi : i < 5) {b : Int32} (hb : b8 b) : ∃ S', F_Mo_come m (nI i) b S = some ((sCome g i b).1, S') ∧ RM S0 S' m (sCome g i b).2 := by
  have hS := h.1
  obtain ⟨l1, l2, l3, l4, l5, l6, l7⟩ := h.2.2.1 i hi
  have ho : okO (gl g i).2.2 := (hok.2.2.1 i hi).2.2.2
  have hmx := ho.le
  unfold F_Mo_come sCome
  rw [m30, let_i, hS.o4, hS.l5, if_neg (nI_in (by omega) (by omega)), nI_clamp (n := i) (by omega), l3, let_i, RM.fits hS hi l5 ho hb, Option.bind_some]
  by_cases hf : sFit (gl g i).2.2 b = true
  · rw [if_pos hf, if_pos hf, if_neg (show ¬ (1 : Int32) = 0 by decide)]
    have e13 : fw_g (fw_wi S (m + 4) (30 * i + (gl g i).2.2.length) b) (m + 5) i = nI (gl g i).2.2.length := by rw [g_a (by omega)]; exact l3
    have hno : ¬ (nI i < 0 ∨ 5 ≤ i) := fun z => z.elim (fun z => nI_pos (by omega) z) (fun z => by omega)
    rw [hS.o3, nI_add, hS.l4, if_neg (nI_in (by omega) (by omega)), nI_clamp (by omega), let_i, om_wi, hS.o4, fw_l_wi, hS.l5, if_neg hno, if_neg hno, e13, let_i, nI_1]
    have hA := l5.push b
    have h1 : RM S0 (fw_wi (fw_wi S (m + 4) (30 * i + (gl g i).2.2.length) b) (m + 5) i (nI ((gl g i).2.2.length + 1))) m (pl g i ((gl g i).1, (gl g i).2.1, (gl g i).2.2 ++ [b])) := by
      refine h.line hi ((df.wi (Or.inl (Or.inr (Or.inr ⟨rfl, by omega, by omega⟩)))).tr (df.wi (Or.inl (Or.inl ⟨Or.inr (Or.inr rfl), rfl⟩)))) ⟨by rw [g_a (by omega), g_a (by omega)]; exact l1, by rw [g_a (by omega), g_a (by omega)]; exact l2, by rw [g_s]; simp, (l4.wi (Or.inl (by omega))).wi (Or.inl (by omega)), hA.wi (Or.inl (by omega)), l6, by simp; omega⟩
    obtain ⟨T, hT⟩ : ∃ T, fw_wi (fw_wi S (m + 4) (30 * i + (gl g i).2.2.length) b) (m + 5) i (nI ((gl g i).2.2.length + 1)) = T := ⟨_, rfl⟩
    rw [hT] at h1 ⊢
    have hST := h1.1
    by_cases h4 : (gl g i).2.2.length < 4
    · have hd : ¬ sDone (gl g i).2.2 := fun z => by have := z.1; omega
      rw [if_pos (show nI (gl g i).2.2.length < 4 from nI_lt (b := 4) h4 (by decide)), if_neg hd]
      exact ⟨T, rfl, h1⟩
    · obtain ⟨n, hn3, hn1, hn18, hlok, hln⟩ := ho.2.2 (by omega)
      have hAT : Ar T (m + 4) (30 * i) (gl g i).2.2 := by
        rw [← hT]
        exact (l5.wi (Or.inr (Or.inr (by omega)))).wi (Or.inl (by omega))
      have e3 : fw_g T (m + 4) (30 * i + 3) = nI n := by
        rw [hAT.get (j := 3) (by omega), ← hn3]
        simp [show 3 < (gl g i).2.2.length by omega]
      have hdn := ho.done (n := n) (by omega) hn3 (by omega)
      rw [if_neg (show ¬ nI (gl g i).2.2.length < 4 from nI_nlt (b := 4) (by omega) (by omega)), hST.o3, a3, hST.l4, if_neg (nI_in (by omega) (by omega)), nI_clamp (n := 30 * i + 3) (by omega), e3, a4]
      by_cases hd : sDone (gl g i).2.2
      · have hlen := hdn.mp hd
        rw [if_pos hd, if_pos (nI_le (by omega) (by omega)), hST.o4, hST.l5, if_neg hno, let_i, om_wi, hST.o3, nI_1, fw_l_wi, hST.l4, if_neg (nI_in (by omega) (by omega)), nI_clamp (n := 30 * i + 1) (by omega), let_i, om_wi, hST.o3, a2, fw_l_wi, hST.l4, if_neg (nI_in (by omega) (by omega)), nI_clamp (n := 30 * i + 2) (by omega), let_i]
        have e1 : fw_g (fw_wi T (m + 5) i 0) (m + 4) (30 * i + 1) = (gl g i).2.2.getD 1 0 := by
          rw [g_a (by omega), hAT.get (j := 1) (by omega)]
          simp [show 1 < (gl g i).2.2.length by omega]
        have e2 : fw_g (fw_wi T (m + 5) i 0) (m + 4) (30 * i + 2) = (gl g i).2.2.getD 2 0 := by
          rw [g_a (by omega), hAT.get (j := 2) (by omega)]
          simp [show 2 < (gl g i).2.2.length by omega]
        rw [e1, e2]
        obtain ⟨t1, t2, t3, t4, t5, t6, t7⟩ := h1.2.2.1 i hi
        have hgl : gl (pl g i ((gl g i).1, (gl g i).2.1, (gl g i).2.2 ++ [b])) i = ((gl g i).1, (gl g i).2.1, (gl g i).2.2 ++ [b]) := va_up_self _ _ _
        rw [hgl] at t1 t2 t3 t4 t5 t6 t7
        have h2 : RM S0 (fw_wi T (m + 5) i 0) m (pl g i ((gl g i).1, (gl g i).2.1, [])) := by
          have := h1.line hi (l := ((gl g i).1, (gl g i).2.1, [])) (S' := fw_wi T (m + 5) i 0) (df.wi (Or.inl (Or.inl ⟨Or.inr (Or.inr rfl), rfl⟩))) ⟨by rw [g_a (by omega)]; exact t1, by rw [g_a (by omega)]; exact t2, by rw [g_s]; rfl, t4.wi (Or.inl (by omega)), Ar.nil, t6, by simp⟩
          have e : pl (pl g i ((gl g i).1, (gl g i).2.1, (gl g i).2.2 ++ [b])) i ((gl g i).1, (gl g i).2.1, []) = pl g i ((gl g i).1, (gl g i).2.1, []) := by
            unfold pl
            simp only [bx_uu]
          rw [e] at this
          exact this
        have hok2 : okG (pl g i ((gl g i).1, (gl g i).2.1, [])) := by
          obtain ⟨o1, o2, o3, o4⟩ := hok.2.2.1 i hi
          exact hok.pl ⟨o1, o2, o3, okO_nil⟩ (fun q => by subst q; exact hok.2.2.2.1)
        have hA2 : Ar (fw_wi T (m + 5) i 0) (m + 4) (30 * i) (gl g i).2.2 := hAT.wi (Or.inl (by omega))
        have hnum : b8 ((gl g i).2.2.getD 2 0) := b8_getD ho.1 2
        by_cases hc : i = 4
        · subst hc
          have hk3 : (gl g 4).2.2.getD 1 0 = 3 → n = 2 := fun hk => by
            have hlk := hlok
            rw [hk] at hlk
            simp [sLenOk] at hlk
            exact (nI_eq (b := 2) (by omega) (by decide)).mp hlk
          obtain ⟨S2, p2, q2⟩ := h2.serve hok2 hA2 hlen hn3 hn1 hn18 ho.1 hnum hk3
          rw [if_pos (show nI 4 = (4 : Int32) from rfl), if_pos rfl, p2]
          simp only [fw_b2]
          by_cases hz : (sServe (pl g 4 ((gl g 4).1, (gl g 4).2.1, [])) ((gl g 4).2.2.getD 1 0) ((gl g 4).2.2.getD 2 0) ((gl g 4).2.2.drop 4)).1 = 0
          · rw [if_pos hz]
            exact q2.dropJ ⟨fun z => absurd z (by decide), fun z => absurd hz z⟩
          · rw [if_neg hz]
            exact q2.dropJ ⟨fun _ => hz, fun _ => rfl⟩
        · have hk2 : (gl g i).2.2.getD 1 0 = 2 → 2 ≤ n ∧ n % 2 = 0 := fun hk => by
            have hlk := hlok
            rw [hk] at hlk
            simp [sLenOk] at hlk
            refine ⟨Nat.not_lt.mp (fun z => absurd hlk.1 (nI_ge (b := 2) (by omega) (by omega))), ?_⟩
            have e2 : nI n &&& 1 = nI (n % 2 ^ 1) := pk_andN (n := n) (by omega) (m := 1) 1 (by decide)
            have := hlk.2.2
            rw [e2] at this
            exact (nI_eq (b := 0) (by omega) (by decide)).mp this
          obtain ⟨S2, p2, q2⟩ := h2.hear hok2 (i := i) (by omega) hA2 hlen hn3 hn1 hn18 (kind := (gl g i).2.2.getD 1 0) hnum hk2
          rw [if_neg (show ¬ nI i = 4 from nI_ne (b := 4) hc (by omega) (by decide)), if_neg hc, p2]
          simp only [fw_b2]
          refine q2.dropJ ?_
          by_cases hz : (sHear (pl g i ((gl g i).1, (gl g i).2.1, [])) i ((gl g i).2.2.getD 1 0) ((gl g i).2.2.getD 2 0) ((gl g i).2.2.drop 4)).1 = 0
          · rw [if_pos hz]
            exact ⟨fun z => absurd z (by decide), fun z => absurd hz z⟩
          · rw [if_neg hz]
            exact ⟨fun _ => hz, fun _ => rfl⟩
      · have hlen : ¬ (gl g i).2.2.length = 4 + n := fun z => hd (hdn.mpr z)
        rw [if_neg hd, if_neg (nI_ge (by omega) (by omega))]
        exact ⟨T, rfl, h1⟩
  · rw [if_neg hf, if_neg hf, if_pos rfl]
    obtain ⟨S1, p1, q1⟩ := h.end hi
    rw [p1, Option.bind_some]
    exact ⟨S1, rfl, q1⟩
end MF
