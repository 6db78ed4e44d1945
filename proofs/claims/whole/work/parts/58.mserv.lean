/-! The reference: its serving end answers. -/
def RwM (S : fw_S) (m j : Nat) (R : sPs) : Prop := fw_g S (m + 36) j = nI R.length ∧ R.length ≤ 60 ∧ Ar S (m + 37) (60 * j) (R.map (fun x => x.1)) ∧ Ar S (m + 38) (60 * j) (R.map (fun x => x.2))
def cRw (m j a k : Nat) : Prop := (a = m + 36 ∧ k = j) ∨ ((a = m + 37 ∨ a = m + 38) ∧ 60 * j ≤ k ∧ k < 60 * j + 60)
section MV
variable {S0 S S' : fw_S} {m i : Nat} {g : sG} {o : List Int32} {fa : sPs}
theorem PsM.at {f a b cap : Nat} {l : sPs} (h : PsM S m f a b cap l) {j : Nat} (hj : j < l.length) : fw_g S (m + a) j = l[j].1 ∧ fw_g S (m + b) j = l[j].2 := by
  have h1 := h.2.2.1.get (j := j) (by rw [List.length_map]; exact hj)
  have h2 := h.2.2.2.get (j := j) (by rw [List.length_map]; exact hj)
  rw [Nat.zero_add, List.getElem_map] at h1 h2
  exact ⟨h1, h2⟩
theorem remI {K : Nat → Int32 → Int32 → Int32 → fw_S → Option fw_S} {A N k : Nat} {key : Int32} (hN : N < 9) (hA : A + 4 + k < 150) : ∀ (n c f : Nat) (S : fw_S) (R : sPs), ShM S m → PsM S m 38 31 32 60 fa → fw_g S (m + 4) (A + 4 + k) = key → RwM S m N R → f + n = fa.length → n < c →
    ∃ S', F_Mo_remember_l113 K c m (nI A) (nI N) (nI k) (nI f) S = K m (nI A) (nI N) (nI (k + 1)) S' ∧ RwM S' m N ((sHit key (fa.drop f)).foldl sAdd R) ∧ df S S' (cRw m N) := by
  intro n
  induction n with
  | zero =>
    intro c f S R hS hF hk hR hf hc
    obtain ⟨c, rfl⟩ : ∃ c', c = c' + 1 := ⟨c - 1, by omega⟩
    have h60 := hF.2.1
    rw [F_Mo_remember_l113, hF.1, if_pos (nI_le (by omega) (by omega)), nI_1, List.drop_eq_nil_of_le (by omega)]
    exact ⟨S, rfl, hR, df.rf⟩
  | succ n ih =>
    intro c f S R hS hF hk hR hf hc
    obtain ⟨c, rfl⟩ : ∃ c', c = c' + 1 := ⟨c - 1, by omega⟩
    have h60 := hF.2.1
    have hfl : f < fa.length := by omega
    obtain ⟨f1, f2⟩ := hF.at hfl
    obtain ⟨r1, r2, r3, r4⟩ := id hR
    rw [F_Mo_remember_l113, hF.1, if_neg (nI_ge hfl (by omega)), List.drop_eq_getElem_cons hfl, sHit_cons]
    by_cases he : fa[f].1 = key
    · rw [if_pos he, List.foldl_cons]
      by_cases hl : R.length < 60
      · have hadd : sAdd R fa[f] = R ++ [fa[f]] := by unfold sAdd; rw [if_pos hl]
        have hl' : ¬ (60 : Int32) ≤ nI R.length := nI_ge (b := 60) hl (by omega)
        have he' : fw_g S (m + 31) f = fw_g S (m + 4) (A + 4 + k) := by rw [f1, hk, he]
        rw [hadd, hS.o39, hS.l31, if_neg (nI_in (by omega) (by omega)), hS.o3, a4, nI_add, hS.l4, if_neg (nI_in (by omega) (by omega)), nI_clamp (n := f) (by omega), nI_clamp (n := A + 4 + k) (by omega), if_pos he', hS.o46, hS.l36, if_neg (nI_in (by omega) (by omega)), nI_clamp (n := N) (by omega), r1, if_neg hl']
        simp (disch := omega) only [↓reduceIte, ↓om_wi, ↓let_i, ↓hS.o46, ↓hS.o47, ↓hS.o48, ↓hS.o39, ↓hS.o40, hS.l36, hS.l37, hS.l38, hS.l31, hS.l32, fw_l_wi, pF, lF, or_self, nI_clamp, m60, nI_add, g_a, r1, f1, f2, nI_1]
        obtain ⟨T, hT⟩ : ∃ T, T = fw_wi (fw_wi (fw_wi S (m + 37) (60 * N + R.length) fa[f].1) (m + 38) (60 * N + R.length) fa[f].2) (m + 36) N (nI (R.length + 1)) := ⟨_, rfl⟩
        rw [← hT]
        have hd : df S T (cRw m N) := by
          rw [hT]
          exact (df.wi (Or.inr ⟨Or.inl rfl, by omega, by omega⟩)).tr ((df.wi (Or.inr ⟨Or.inr rfl, by omega, by omega⟩)).tr (df.wi (Or.inl ⟨rfl, rfl⟩)))
        have hR' : RwM T m N (R ++ [fa[f]]) := by
          have h3 := r3.push fa[f].1
          have h4 := (r4.wi (b := m + 37) (k := 60 * N + R.length) (v := fa[f].1) (Or.inl (by omega))).push fa[f].2
          rw [List.length_map] at h3 h4
          refine ⟨by rw [hT, g_s]; simp, by simp; omega, ?_, ?_⟩
          · rw [hT, List.map_append]
            exact (h3.wi (Or.inl (by omega))).wi (Or.inl (by omega))
          · rw [hT, List.map_append]
            exact h4.wi (Or.inl (by omega))
        obtain ⟨S2, p2, q2, d2⟩ := ih c (f + 1) T _ (hS.keep hd.1) (hF.keep (hd.2 _ _ (fun z => by simp only [cRw] at z; omega)) (fun k => hd.2 _ _ (fun z => by simp only [cRw] at z; omega)) (fun k => hd.2 _ _ (fun z => by simp only [cRw] at z; omega))) (by rw [hd.2 _ _ (fun z => by simp only [cRw] at z; omega)]; exact hk) hR' (by omega) (by omega)
        exact ⟨S2, p2, q2, hd.tr d2⟩
      · have hadd : sAdd R fa[f] = R := by unfold sAdd; rw [if_neg hl]
        have hl' : (60 : Int32) ≤ nI R.length := nI_le (a := 60) (by omega) (by omega)
        have he' : fw_g S (m + 31) f = fw_g S (m + 4) (A + 4 + k) := by rw [f1, hk, he]
        rw [hadd, hS.o39, hS.l31, if_neg (nI_in (by omega) (by omega)), hS.o3, a4, nI_add, hS.l4, if_neg (nI_in (by omega) (by omega)), nI_clamp (n := f) (by omega), nI_clamp (n := A + 4 + k) (by omega), if_pos he', hS.o46, hS.l36, if_neg (nI_in (by omega) (by omega)), nI_clamp (n := N) (by omega), r1, if_pos hl', nI_1]
        exact ih c (f + 1) S R hS hF hk hR (by omega) (by omega)
    · have he' : ¬ fw_g S (m + 31) f = fw_g S (m + 4) (A + 4 + k) := by rw [f1, hk]; exact he
      rw [if_neg he, hS.o39, hS.l31, if_neg (nI_in (by omega) (by omega)), hS.o3, a4, nI_add, hS.l4, if_neg (nI_in (by omega) (by omega)), nI_clamp (n := f) (by omega), nI_clamp (n := A + 4 + k) (by omega), if_neg he', nI_1]
      exact ih c (f + 1) S R hS hF hk hR (by omega) (by omega)
theorem remO {A N L : Nat} (hN : N < 9) (hA : A + 22 < 150) (hL : L ≤ 18) (ho : o.length = 4 + L) : ∀ (n c k : Nat) (S : fw_S) (R : sPs), ShM S m → PsM S m 38 31 32 60 fa → Ar S (m + 4) A o → fw_g S (m + 4) (A + 3) = nI L → RwM S m N R → k + n = L → n < c →
    ∃ S', F_Mo_remember_l97 c m (nI A) (nI N) (nI k) S = some S' ∧ RwM S' m N (sFind fa ((o.drop 4).drop k) R) ∧ df S S' (cRw m N) := by
  intro n
  induction n with
  | zero =>
    intro c k S R hS hF hO h3 hR hk hc
    obtain ⟨c, rfl⟩ : ∃ c', c = c' + 1 := ⟨c - 1, by omega⟩
    rw [F_Mo_remember_l97]
    simp (disch := omega) only [↓reduceIte, ↓hS.o3, hS.l4, pF, lF, or_self, nI_clamp, a3, h3]
    have e0 : (o.drop 4).drop k = [] := List.drop_eq_nil_of_le (by rw [List.length_drop]; omega)
    rw [if_pos (nI_le (by omega) (by omega)), e0]
    exact ⟨S, rfl, hR, df.rf⟩
  | succ n ih =>
    intro c k S R hS hF hO h3 hR hk hc
    obtain ⟨c, rfl⟩ : ∃ c', c = c' + 1 := ⟨c - 1, by omega⟩
    rw [F_Mo_remember_l97]
    simp (disch := omega) only [↓reduceIte, ↓hS.o3, hS.l4, pF, lF, or_self, nI_clamp, a3, h3]
    rw [if_neg (nI_ge (by omega) (by omega))]
    have hkl : k < (o.drop 4).length := by rw [List.length_drop]; omega
    have ek : fw_g S (m + 4) (A + 4 + k) = (o.drop 4)[k] := by
      have := hO.get (j := 4 + k) (by omega)
      rw [show A + (4 + k) = A + 4 + k by omega] at this
      rw [this, List.getElem_drop]
    have h60 := hF.2.1
    obtain ⟨S1, p1, q1, d1⟩ := remI (m := m) (fa := fa) (K := F_Mo_remember_l97 c) (A := A) (N := N) (k := k) (key := (o.drop 4)[k]) hN (by omega) fa.length 4096 0 S R hS hF ek hR (by omega) (by omega)
    rw [show (0 : Int32) = nI 0 from rfl, p1, List.drop_eq_getElem_cons hkl]
    obtain ⟨S2, p2, q2, d2⟩ := ih c (k + 1) S1 _ (hS.keep d1.1) (hF.keep (d1.2 _ _ (fun z => by simp only [cRw] at z; omega)) (fun k => d1.2 _ _ (fun z => by simp only [cRw] at z; omega)) (fun k => d1.2 _ _ (fun z => by simp only [cRw] at z; omega))) (hO.keep (fun k _ _ => d1.2 _ _ (fun z => by simp only [cRw] at z; omega))) (by rw [d1.2 _ _ (fun z => by simp only [cRw] at z; omega)]; exact h3) q1 (by omega) (by omega)
    exact ⟨S2, p2, q2, d1.tr d2⟩
/-- a new memory behind the others -/
theorem remJ {A L : Nat} {base : List sM} {num : Int32} (hA : A + 22 < 150) (hL1 : 1 ≤ L) (hL : L ≤ 18) (ho : o.length = 4 + L) (hS : ShM S m) (hF : PsM S m 38 31 32 60 fa) (hO : Ar S (m + 4) A o) (h3 : fw_g S (m + 4) (A + 3) = nI L) (hM : MsM S m base) (hb : base.length ≤ 7) :
    ∃ S', F_Mo_remember_j32 m num (nI A) S = some S' ∧ MsM S' m (base ++ [sNewM fa num (o.drop 4)]) ∧ df S S' (cM m) := by
  obtain ⟨b1, b2, b3⟩ := hM
  have e4 : fw_g S (m + 4) (A + 4) = (o.drop 4).getD 0 0 := by
    rw [hO.get (j := 4) (by omega)]
    simp [show 4 < o.length by omega]
  obtain ⟨st, hst⟩ : ∃ st, (o.drop 4).getD 0 0 = st := ⟨_, rfl⟩
  obtain ⟨T, hT⟩ : ∃ T, T = fw_wi (fw_wi (fw_wi (fw_wi (fw_wi S m 41 (nI (base.length + 1))) (m + 33) base.length num) (m + 34) base.length st) (m + 35) base.length st) (m + 36) base.length 0 := ⟨_, rfl⟩
  have hd : df S T (fun a k => (a = m ∧ k = 41) ∨ (m + 33 ≤ a ∧ a ≤ m + 36 ∧ k = base.length)) := by
    rw [hT]
    exact (df.wi (Or.inl ⟨rfl, rfl⟩)).tr ((df.wi (Or.inr ⟨by omega, by omega, rfl⟩)).tr ((df.wi (Or.inr ⟨by omega, by omega, rfl⟩)).tr ((df.wi (Or.inr ⟨by omega, by omega, rfl⟩)).tr (df.wi (Or.inr ⟨by omega, by omega, rfl⟩)))))
  have hR : RwM T m base.length [] := ⟨by rw [hT, g_s]; rfl, by simp, Ar.nil, Ar.nil⟩
  obtain ⟨S2, p2, q2, d2⟩ := remO (m := m) (fa := fa) (o := o) (A := A) (N := base.length) (L := L) (by omega) hA hL ho (L - 1) 4096 1 T [] (hS.keep hd.1) (hF.keep (hd.2 _ _ (fun z => by omega)) (fun k => hd.2 _ _ (fun z => by omega)) (fun k => hd.2 _ _ (fun z => by omega))) (hO.keep (fun k _ _ => hd.2 _ _ (fun z => by omega))) (by rw [hd.2 _ _ (fun z => by omega)]; exact h3) hR (by omega) (by omega)
  refine ⟨S2, ?_, ⟨?_, by simp; omega, fun j e he => ?_⟩, (hd.up (fun a k z => by simp only [cM]; omega)).tr (d2.up (fun a k z => by simp only [cRw] at z; simp only [cM]; omega))⟩
  · unfold F_Mo_remember_j32
    simp (disch := omega) only [↓reduceIte, ↓om_wi, ↓let_i, ↓hS.o43, ↓hS.o44, ↓hS.o45, ↓hS.o46, ↓hS.o3, hS.l33, hS.l34, hS.l35, hS.l36, hS.l4, fw_l_wi, pF, lF, or_self, nI_clamp, b1, a4, g_a, e4, hst, nI_1]
    rw [← hT, show (1 : Int32) = nI 1 from rfl]
    exact p2
  · rw [d2.2 _ _ (fun z => by simp only [cRw] at z; omega), hT, g_a (by omega), g_a (by omega), g_a (by omega), g_a (by omega), g_s]
    simp
  · by_cases hj : j = base.length
    · subst hj
      simp at he
      subst he
      obtain ⟨w1, w2, w3, w4⟩ := q2
      unfold sNewM
      rw [hst]
      refine ⟨?_, ?_, ?_, w1, w2, w3, w4⟩
      · rw [d2.2 _ _ (fun z => by simp only [cRw] at z; omega), hT, g_a (by omega), g_a (by omega), g_a (by omega), g_s]
      · rw [d2.2 _ _ (fun z => by simp only [cRw] at z; omega), hT, g_a (by omega), g_a (by omega), g_s]
      · rw [d2.2 _ _ (fun z => by simp only [cRw] at z; omega), hT, g_a (by omega), g_s]
    · rw [List.getElem?_append_left (by
        have := (List.getElem?_eq_some_iff.mp he).1
        simp at this
        omega)] at he
      have hjl := (List.getElem?_eq_some_iff.mp he).1
      exact ((b3 j e he).keep (fun a k q => hd.2 a k (fun z => by simp only [cMe] at q; omega))).keep (fun a k q => d2.2 a k (fun z => by simp only [cMe, cRw] at q z; omega))
theorem RM.remember {L : Nat} {num : Int32} (h : RM S0 S m g) (hok : okM (gm g)) (hi : i < 5) (hL1 : 1 ≤ L) (hL : L ≤ 18) (ho : o.length = 4 + L) (hO : Ar S (m + 4) (30 * i) o) (h3 : fw_g S (m + 4) (30 * i + 3) = nI L) :
    ∃ S', F_Mo_remember m num (nI (30 * i)) S = some S' ∧ RM S0 S' m (pm g (sBase (gm g) num ++ [sNewM (gf g) num (o.drop 4)])) := by
  have hS := h.1
  have hM := h.2.2.2.2.2.2.1
  have hF := h.2.2.2.2.2.1
  have h8 := hM.2.1
  have hb7 := (hok.base num).1
  have fin : ∀ (base : List sM) (S1 : fw_S), MsM S1 m base → df S S1 (cM m) → base.length ≤ 7 → ∃ S', F_Mo_remember_j32 m num (nI (30 * i)) S1 = some S' ∧ RM S0 S' m (pm g (base ++ [sNewM (gf g) num (o.drop 4)])) := by
    intro base S1 hM1 d1 hb
    obtain ⟨S2, p2, q2, d2⟩ := remJ (m := m) (fa := gf g) (o := o) (A := 30 * i) (L := L) (base := base) (num := num) (by omega) hL1 hL ho (hS.keep d1.1) (hF.keep (d1.2 _ _ (fun z => by simp only [cM] at z; omega)) (fun k => d1.2 _ _ (fun z => by simp only [cM] at z; omega)) (fun k => d1.2 _ _ (fun z => by simp only [cM] at z; omega))) (hO.keep (fun k _ _ => d1.2 _ _ (fun z => by simp only [cM] at z; omega))) (by rw [d1.2 _ _ (fun z => by simp only [cM] at z; omega)]; exact h3) hM1 hb
    exact ⟨S2, p2, h.mem (d1.tr d2) q2⟩
  unfold F_Mo_remember
  rw [hM.place hS hok.2.2 num, Option.bind_some]
  unfold sBase at hb7 ⊢
  cases hp : sPlace (gm g) num with
  | some p =>
    obtain ⟨hpl, -⟩ := sPlace_lt hp
    rw [hp] at hb7
    simp only at hb7 ⊢
    obtain ⟨S1, p1, q1, d1⟩ := hM.forget hS hpl
    rw [if_neg (nI_pos (by omega)), p1, Option.bind_some]
    exact fin _ S1 q1 d1 hb7
  | none =>
    rw [hp] at hb7
    simp only at hb7 ⊢
    rw [if_pos (by decide), hM.1]
    by_cases h88 : (gm g).length = 8
    · rw [if_pos h88] at hb7 ⊢
      rw [if_pos (show nI (gm g).length = 8 by rw [h88]; rfl)]
      obtain ⟨S1, p1, q1, d1⟩ := hM.forget hS (p := 0) (by omega)
      rw [show nI 0 = (0 : Int32) from rfl] at p1
      rw [p1, Option.bind_some]
      exact fin _ S1 q1 d1 hb7
    · rw [if_neg h88] at hb7 ⊢
      rw [if_neg (show ¬ nI (gm g).length = 8 from nI_ne (b := 8) h88 (by omega) (by decide))]
      exact fin _ S hM df.rf hb7
theorem sFlat_cons (x : Int32 × Int32) (R : sPs) : sFlat (x :: R) = [x.1, x.2] ++ sFlat R := by simp [sFlat]
theorem RM.answerL {j t : Nat} {e : sM} {num : Int32} (hej : (gm g)[j]? = some e) (hR : okPs e.2.2.2) (ht : t ≤ 300) : ∀ (n c k : Nat) (S : fw_S) (bs : List Int32), RM S0 S m g → MkM S m bs → k + n = min e.2.2.2.length (t + 8) → bs.length + 2 * n ≤ 18 → n < c →
    ∃ S', F_Mo_answer_l41 c m (nI j) num (nI t) (nI k) S = F_Mo_answer_j100 m num S' ∧ RM S0 S' m g ∧ MkM S' m (bs ++ sFlat ((e.2.2.2.drop k).take n)) := by
  intro n
  induction n with
  | zero =>
    intro c k S bs h hK hk hb hc
    obtain ⟨c, rfl⟩ : ∃ c', c = c' + 1 := ⟨c - 1, by omega⟩
    have hS := h.1
    have hM := h.2.2.2.2.2.2.1
    have hjl := (List.getElem?_eq_some_iff.mp hej).1
    have h8 := hM.2.1
    obtain ⟨m1, m2, m3, m4, m5, m6, m7⟩ := hM.2.2 j e hej
    rw [F_Mo_answer_l41]
    simp (disch := omega) only [↓reduceIte, ↓hS.o46, hS.l36, pF, lF, or_self, nI_clamp, m4, a8]
    rw [List.take_zero]
    have e0 : sFlat [] = [] := rfl
    rw [e0, List.append_nil]
    by_cases hl : e.2.2.2.length ≤ k
    · rw [if_pos (nI_le hl (by omega))]
      exact ⟨S, rfl, h, hK⟩
    · rw [if_neg (nI_ge (by omega) (by omega)), if_pos (nI_le (by omega) (by omega))]
      exact ⟨S, rfl, h, hK⟩
  | succ n ih =>
    intro c k S bs h hK hk hb hc
    obtain ⟨c, rfl⟩ : ∃ c', c = c' + 1 := ⟨c - 1, by omega⟩
    have hS := h.1
    have hM := h.2.2.2.2.2.2.1
    have hjl := (List.getElem?_eq_some_iff.mp hej).1
    have h8 := hM.2.1
    obtain ⟨m1, m2, m3, m4, m5, m6, m7⟩ := hM.2.2 j e hej
    have hkl : k < e.2.2.2.length := by omega
    have e37 : fw_g S (m + 37) (60 * j + k) = e.2.2.2[k].1 := by
      rw [m6.get (j := k) (by rw [List.length_map]; exact hkl), List.getElem_map]
    rw [F_Mo_answer_l41]
    simp (disch := omega) only [↓reduceIte, ↓hS.o46, ↓hS.o47, hS.l36, hS.l37, pF, lF, or_self, nI_clamp, m4, a8, m60, nI_add, e37, nI_1]
    rw [if_neg (nI_ge (by omega) (by omega)), if_neg (nI_ge (by omega) (by omega))]
    have hb8 := hR e.2.2.2[k] (List.getElem_mem hkl)
    obtain ⟨S1, p1, q1, d1⟩ := hK.put hS (by omega) e.2.2.2[k].1
    have h1 := h.mk d1
    have hS1 := h1.1
    have e38 : fw_g S1 (m + 38) (60 * j + k) = e.2.2.2[k].2 := by
      rw [((h1.2.2.2.2.2.2.1).2.2 j e hej).2.2.2.2.2.2.get (j := k) (by rw [List.length_map]; exact hkl), List.getElem_map]
    rw [p1, Option.bind_some]
    simp (disch := omega) only [↓reduceIte, ↓hS1.o48, hS1.l38, pF, lF, or_self, nI_clamp, e38]
    obtain ⟨S2, p2, q2, d2⟩ := q1.put hS1 (by simp; omega) e.2.2.2[k].2
    have h2 := h1.mk d2
    rw [p2, Option.bind_some]
    obtain ⟨S3, p3, h3, k3⟩ := ih c (k + 1) S2 _ h2 q2 (by omega) (by simp; omega) (by omega)
    refine ⟨S3, p3, h3, ?_⟩
    rw [List.drop_eq_getElem_cons hkl, List.take_succ_cons, sFlat_cons]
    have x1 : e.2.2.2[k].1 &&& 255 = e.2.2.2[k].1 := hb8.1
    have x2 : e.2.2.2[k].2 &&& 255 = e.2.2.2[k].2 := hb8.2
    rw [x1, x2] at k3
    simpa using k3
theorem RM.answer {j t : Nat} {e : sM} {num step : Int32} (h : RM S0 S m g) (hej : (gm g)[j]? = some e) (hR : okPs e.2.2.2) (ht : t ≤ e.2.2.2.length) (hst : b8 step) :
    ∃ S', F_Mo_answer m (nI j) num step (nI t) S = some S' ∧ RM S0 S' m (sSendTo g 4 2 num (sRowsB e.2.2.2 step t)).2 := by
  have hS := h.1
  have hM := h.2.2.2.2.2.2.1
  have hjl := (List.getElem?_eq_some_iff.mp hej).1
  have h8 := hM.2.1
  obtain ⟨m1, m2, m3, m4, m5, m6, m7⟩ := hM.2.2 j e hej
  have h0 := h.mk (cK_zero (S := S) (m := m))
  obtain ⟨S1, p1, q1, d1⟩ := (MkM.zero (S := S) (m := m)).put h0.1 (by simp) step
  have x1 : step &&& 255 = step := hst
  rw [x1] at q1
  have h1 := h0.mk d1
  have fin : ∀ (v : Int32) (S2 : fw_S), RM S0 S2 m g → MkM S2 m ([] ++ [step] ++ [v]) → v = (if t + 8 < e.2.2.2.length then 1 else 0) → ∃ S', F_Mo_answer_l41 4096 m (nI j) num (nI t) (nI t) S2 = some S' ∧ RM S0 S' m (sSendTo g 4 2 num (sRowsB e.2.2.2 step t)).2 := by
    intro v S2 h2 k2 hv
    obtain ⟨S3, p3, h3, k3⟩ := RM.answerL (m := m) (g := g) (num := num) (t := t) hej hR (by omega) (min e.2.2.2.length (t + 8) - t) 4096 t S2 _ h2 k2 (by omega) (by simp; omega) (by omega)
    have hbs : [] ++ [step] ++ [v] ++ sFlat ((e.2.2.2.drop t).take (min e.2.2.2.length (t + 8) - t)) = sRowsB e.2.2.2 step t := by
      unfold sRowsB
      rw [← hv]
      have : (e.2.2.2.drop t).take (min e.2.2.2.length (t + 8) - t) = (e.2.2.2.drop t).take 8 := by
        by_cases hc : t + 8 ≤ e.2.2.2.length
        · rw [show min e.2.2.2.length (t + 8) - t = 8 by omega]
        · rw [List.take_of_length_le (by rw [List.length_drop]; omega), List.take_of_length_le (by rw [List.length_drop]; omega)]
      rw [this]
      rfl
    rw [hbs] at k3
    obtain ⟨S4, p4, h4⟩ := h3.send k3 (i := 4) (by omega) (sRowsB_ok hR hst t).2 2 num
    rw [p3]
    unfold F_Mo_answer_j100
    rw [show nI 4 = (4 : Int32) from rfl] at p4
    rw [p4]
    exact ⟨S4, rfl, h4⟩
  unfold F_Mo_answer
  simp (disch := omega) only [↓reduceIte, ↓let_i, ↓hS.o46, hS.l36, pF, lF, or_self, nI_clamp, m4, nI_sub]
  rw [p1, Option.bind_some]
  by_cases hc : t + 8 < e.2.2.2.length
  · rw [if_neg (show ¬ nI (e.2.2.2.length - t) ≤ 8 from nI_ge (a := 8) (by omega) (by omega))]
    obtain ⟨S2, p2, q2, d2⟩ := q1.put h1.1 (by simp) 1
    rw [p2, Option.bind_some]
    exact fin 1 S2 (h1.mk d2) q2 (by rw [if_pos hc])
  · rw [if_pos (show nI (e.2.2.2.length - t) ≤ 8 from nI_le (b := 8) (by omega) (by omega))]
    obtain ⟨S2, p2, q2, d2⟩ := q1.put h1.1 (by simp) 0
    rw [p2, Option.bind_some]
    exact fin 0 S2 (h1.mk d2) q2 (by rw [if_neg hc])
end MV
