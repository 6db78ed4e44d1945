/-! The reference: sending. -/
theorem m300 (a : Nat) : (300 : Int32) * nI a = nI (300 * a) := (Int32.ofNat_mul 300 a).symm
theorem m60 (a : Nat) : (60 : Int32) * nI a = nI (60 * a) := (Int32.ofNat_mul 60 a).symm
theorem m30 (a : Nat) : (30 : Int32) * nI a = nI (30 * a) := (Int32.ofNat_mul 30 a).symm
theorem m20 (a : Nat) : (20 : Int32) * nI a = nI (20 * a) := (Int32.ofNat_mul 20 a).symm
theorem m2 (a : Nat) : (2 : Int32) * nI a = nI (2 * a) := (Int32.ofNat_mul 2 a).symm
theorem a2 (a : Nat) : nI a + 2 = nI (a + 2) := nI_add a 2
theorem a3 (a : Nat) : nI a + 3 = nI (a + 3) := nI_add a 3
theorem a4 (a : Nat) : nI a + 4 = nI (a + 4) := nI_add a 4
theorem a5 (a : Nat) : nI a + 5 = nI (a + 5) := nI_add a 5
theorem a6 (a : Nat) : nI a + 6 = nI (a + 6) := nI_add a 6
theorem a7 (a : Nat) : nI a + 7 = nI (a + 7) := nI_add a 7
theorem a8 (a : Nat) : nI a + 8 = nI (a + 8) := nI_add a 8
theorem pF {n : Nat} (h : n < 2 ^ 31) : (nI n < 0) = False := by simp [nI_pos h]
theorem lF {a b : Nat} (h : b < a) : (a ≤ b) = False := by simp; omega
theorem in_r {c N : Nat} (h : c < N) (hN : N < 2 ^ 31) : (nI c < 0 ∨ N ≤ (nI c).toNatClampNeg) = False := by simp [nI_in h hN]
section MS
variable {S0 S S' : fw_S} {m : Nat} {g : sG} {bs : List Int32}
theorem MkM.put (h : MkM S m bs) (hS : ShM S m) (hl : bs.length < 24) (b : Int32) : ∃ S', F_Mo_put m b S = some S' ∧ MkM S' m (bs ++ [b &&& 255]) ∧ df S S' (cK m) := by
  obtain ⟨h1, h2, h3⟩ := h
  refine ⟨fw_wi (fw_wi S (m + 39) bs.length (b &&& 255)) m 49 (nI (bs.length + 1)), ?_, ⟨by rw [g_s]; simp, by simp; omega, ?_⟩, (df.wi (Or.inr rfl)).tr (df.wi (Or.inl ⟨rfl, rfl⟩))⟩
  · unfold F_Mo_put
    simp (disch := omega) only [fw_om, fw_let, hS.r50, hS.l39, h1, pF, lF, or_self, nI_clamp, if_false, g_a, nI_1]
  · have := h3.push (b &&& 255)
    rw [Nat.zero_add] at this
    exact this.wi (Or.inl (by omega))
theorem MkM.zero : MkM (fw_wi S m 49 0) m [] := ⟨by rw [g_s]; rfl, by simp, Ar.nil⟩
theorem cK_zero : df S (fw_wi S m 49 0) (cK m) := df.wi (Or.inl ⟨rfl, rfl⟩)
theorem cut_app (l k : List Int32) : (l ++ k).length = l.length + k.length := List.length_append
/-- the bytes go behind the out row -/
theorem sendL {i n : Nat} {s0 : Int32} (hi : i < 5) (hb : bs.length ≤ 18) (hn : n + bs.length + 5 ≤ 300) : ∀ (c j : Nat) (S : fw_S) (l : List Int32) (x : Int32), ShM S m → MkM S m bs → fw_g S (m + 3) i = nI n → Ar S (m + 2) (300 * i) l → l.length = n + 4 + j → j ≤ bs.length → bs.length < j + c →
    ∃ S', F_Mo_send_l109 c m (nI i) (nI (300 * i + n)) x (nI j) S = some (1, S') ∧ fw_g S' (m + 3) i = nI (n + bs.length + 5) ∧ Ar S' (m + 2) (300 * i) (l ++ bs.drop j ++ [sXor x (bs.drop j)]) ∧ df S S' (fun a k => (a = m + 3 ∧ k = i) ∨ (a = m + 2 ∧ 300 * i ≤ k ∧ k < 300 * i + 300)) := by
  intro c
  induction c with
  | zero => intro j S l x _ _ _ _ _ h1 h2; omega
  | succ c ih =>
    intro j S l x hS hK hz hA hl h1 h2
    obtain ⟨k1, k2, k3⟩ := id hK
    rw [F_Mo_send_l109, k1]
    by_cases hj : j < bs.length
    · rw [if_neg (nI_ge hj (by omega))]
      have e1 : fw_g S (m + 39) j = bs[j] := by
        have := k3.get hj
        rw [Nat.zero_add] at this
        exact this
      simp (disch := omega) only [fw_om, fw_let, hS.r50, hS.r1, hS.l39, hS.l2, fw_r_wi, fw_l_wi, a4, nI_add, pF, lF, or_self, nI_clamp, if_false, g_a, nI_1, e1]
      have hpos : 300 * i + n + 4 + j = 300 * i + l.length := by omega
      rw [hpos]
      obtain ⟨S2, p2, z2, q2, d2⟩ := ih (j + 1) (fw_wi S (m + 2) (300 * i + l.length) bs[j]) (l ++ [bs[j]]) (x ^^^ bs[j]) (hS.keep rfl) (hK.keep (fun a k q => by simp only [cK] at q; rw [g_a (by omega)])) (by rw [g_a (by omega)]; exact hz) (hA.push _) (by simp; omega) (by omega) (by omega)
      refine ⟨S2, p2, z2, ?_, (df.wi (Or.inr ⟨rfl, by omega, by omega⟩)).tr d2⟩
      rw [List.drop_eq_getElem_cons hj]
      have e2 : sXor x (bs[j] :: bs.drop (j + 1)) = sXor (x ^^^ bs[j]) (bs.drop (j + 1)) := rfl
      rw [e2]
      simpa using q2
    · rw [if_pos (nI_le (by omega) (by omega))]
      have hj' : j = bs.length := by omega
      subst hj'
      unfold F_Mo_send_j155
      simp (disch := omega) only [fw_om, fw_let, hS.r1, hS.r2, hS.l2, hS.l3, k1, fw_r_wi, fw_l_wi, a4, nI_add, pF, lF, or_self, nI_clamp, if_false, g_a, a5, hz]
      have hpos : 300 * i + n + 4 + bs.length = 300 * i + l.length := by omega
      rw [hpos]
      refine ⟨_, rfl, ?_, ?_, (df.wi (Or.inr ⟨rfl, by omega, by omega⟩)).tr (df.wi (Or.inl ⟨rfl, rfl⟩))⟩
      · rw [g_s]; congr 1
      · rw [List.drop_length, List.append_nil]
        have : sXor x [] = x := rfl
        rw [this]
        exact (hA.push x).wi (Or.inl (by omega))
theorem RM.send (h : RM S0 S m g) (hK : MkM S m bs) {i : Nat} (hi : i < 5) (hb : bs.length ≤ 18) (kind num : Int32) : ∃ S', F_Mo_send m (nI i) kind num S = some ((sSendTo g i kind num bs).1, S') ∧ RM S0 S' m (sSendTo g i kind num bs).2 := by
  have hS := h.1
  obtain ⟨l1, l2, l3, l4, l5, l6, l7⟩ := h.2.2.1 i hi
  obtain ⟨k1, k2, k3⟩ := id hK
  have hlost : fw_g S m 10 = gc g 5 := h.2.1.2.2.2.2.2.1
  unfold F_Mo_send sSendTo
  simp (disch := omega) only [fw_om, fw_let, hS.r0, hS.r1, hS.r2, hS.l1, hS.l3, fw_r_wi, fw_l_wi, pF, lF, or_self, nI_clamp, if_false, l1, l2, k1, hlost, nI_add, a5, m300]
  by_cases hu : (gl g i).1 = 0
  · rw [if_pos hu, if_pos (Or.inl hu)]
    exact ⟨_, rfl, h.num (by decide) _⟩
  · rw [if_neg hu]
    by_cases hl : (gl g i).2.1.length + bs.length + 5 ≤ 300
    · have hc : ¬ ((gl g i).1 = 0 ∨ 300 < (gl g i).2.1.length + bs.length + 5) := fun z => z.elim hu (fun z => by omega)
      rw [if_pos (show nI ((gl g i).2.1.length + bs.length + 5) ≤ 300 from nI_le (b := 300) hl (by omega)), if_neg hc]
      simp (disch := omega) only [hS.l2, pF, lF, or_self, nI_clamp, if_false, nI_1, a2, a3, g_a, g_k, k1]
      -- the head
      have hA1 := l4.push 126
      have hA2 := hA1.push kind
      have hA3 := hA2.push num
      have hA4 := hA3.push (nI bs.length)
      simp only [List.length_append, List.length_cons, List.length_nil, Nat.zero_add] at hA2 hA3 hA4
      have e1 : 300 * i + ((gl g i).2.1.length + 1) = 300 * i + (gl g i).2.1.length + 1 := by omega
      have e2 : 300 * i + ((gl g i).2.1.length + 1 + 1) = 300 * i + (gl g i).2.1.length + 2 := by omega
      have e3 : 300 * i + ((gl g i).2.1.length + 1 + 1 + 1) = 300 * i + (gl g i).2.1.length + 3 := by omega
      rw [e1] at hA2 hA3 hA4
      rw [e2] at hA3 hA4
      rw [e3] at hA4
      have hd : df S (fw_wi (fw_wi (fw_wi (fw_wi S (m + 2) (300 * i + (gl g i).2.1.length) 126) (m + 2) (300 * i + (gl g i).2.1.length + 1) kind) (m + 2) (300 * i + (gl g i).2.1.length + 2) num) (m + 2) (300 * i + (gl g i).2.1.length + 3) (nI bs.length)) (fun a k => (a = m + 3 ∧ k = i) ∨ (a = m + 2 ∧ 300 * i ≤ k ∧ k < 300 * i + 300)) := (df.wi (Or.inr ⟨rfl, by omega, by omega⟩)).tr ((df.wi (Or.inr ⟨rfl, by omega, by omega⟩)).tr ((df.wi (Or.inr ⟨rfl, by omega, by omega⟩)).tr (df.wi (Or.inr ⟨rfl, by omega, by omega⟩))))
      obtain ⟨S2, p2, z2, q2, d2⟩ := sendL (m := m) (bs := bs) (s0 := 0) hi hb hl 4096 0 _ _ (kind ^^^ num ^^^ nI bs.length) (hS.keep hd.1) (hK.keep (fun a k q => hd.2 a k (fun z => by simp only [cK] at q; omega))) (by rw [g_a (by omega), g_a (by omega), g_a (by omega), g_a (by omega)]; exact l2) hA4 (by simp) (by omega) (by omega)
      refine ⟨S2, by rw [show (0 : Int32) = nI 0 from rfl]; exact p2, ?_⟩
      have hdd := hd.tr d2
      refine h.line hi (hdd.up (fun a k q => Or.inl (by simp only [cL]; omega))) ⟨?_, ?_, ?_, ?_, ?_, ?_, l7⟩
      · rw [hdd.2 _ _ (fun z => by omega)]; exact l1
      · rw [z2]
        show _ = nI ((gl g i).2.1 ++ sFrame kind num bs).length
        rw [List.length_append, sFrame_len]; congr 1
      · rw [hdd.2 _ _ (fun z => by omega)]; exact l3
      · have e : (gl g i).2.1 ++ [126] ++ [kind] ++ [num] ++ [nI bs.length] ++ bs.drop 0 ++ [sXor (kind ^^^ num ^^^ nI bs.length) (bs.drop 0)] = (gl g i).2.1 ++ sFrame kind num bs := by simp [sFrame, sSum]
        rw [e] at q2
        exact q2
      · exact l5.keep (fun k _ _ => hdd.2 _ _ (fun z => by omega))
      · show ((gl g i).2.1 ++ sFrame kind num bs).length ≤ 300
        rw [List.length_append, sFrame_len]; omega
    · have hc : (gl g i).1 = 0 ∨ 300 < (gl g i).2.1.length + bs.length + 5 := Or.inr (by omega)
      rw [if_neg (show ¬ nI ((gl g i).2.1.length + bs.length + 5) ≤ 300 from nI_ge (a := 300) (by omega) (by omega)), if_pos hc]
      exact ⟨_, rfl, h.num (by decide) _⟩
end MS
