/-! The unfinished frame on a line of the class: the bytes that came. -/
theorem nI_ne {a b : Nat} (h : a ≠ b) (ha : a < 2 ^ 31) (hb : b < 2 ^ 31) : ¬ nI a = nI b := fun q => h ((nI_eq ha hb).mp q)
def sLenOk (kind n : Int32) : Bool := if kind = 1 then decide (2 ≤ n ∧ n ≤ 9) else if kind = 2 then decide (2 ≤ n ∧ n ≤ 18 ∧ n &&& 1 = 0) else if kind = 3 then decide (n = 2) else decide (kind = 4 ∧ n = 1)
def sFit (o : List Int32) (b : Int32) : Bool :=
  if o.length = 0 then decide (b = 126)
  else if o.length = 1 then decide (1 ≤ b ∧ b ≤ 4)
  else if o.length = 2 then true
  else if o.length = 3 then sLenOk (o.getD 1 0) b
  else if nI o.length = 4 + o.getD 3 0 then decide (b = sSum (o.getD 1 0) (o.getD 2 0) (o.drop 4))
  else !decide (o.getD 1 0 = 2 ∧ o.length = 5 ∧ 1 < b)
def okO (o : List Int32) : Prop := (∀ b ∈ o, b8 b) ∧ (2 ≤ o.length → o.getD 1 0 = 1 ∨ o.getD 1 0 = 2 ∨ o.getD 1 0 = 3 ∨ o.getD 1 0 = 4) ∧ (4 ≤ o.length → ∃ n, o.getD 3 0 = nI n ∧ 1 ≤ n ∧ n ≤ 18 ∧ sLenOk (o.getD 1 0) (nI n) = true ∧ o.length ≤ 4 + n)
def OpX (S : fw_S) (w : Nat) (o : List Int32) : Prop :=
  fw_r S w 4 = some (w + 2) ∧ fw_r S (w + 2) 3 = some (w + 3) ∧ fw_l S (w + 3) = 18 ∧ fw_g S w 5 = nI o.length ∧ (1 ≤ o.length → fw_g S w 6 = o.getD 3 0) ∧ (2 ≤ o.length → FrX S (w + 2) (o.getD 1 0) (o.getD 2 0) (o.drop 4))
theorem OpX.keep {S S' : fw_S} {w : Nat} {o : List Int32} (h : OpX S w o) (hs : sm S S') (h5 : fw_g S' w 5 = fw_g S w 5) (h6 : fw_g S' w 6 = fw_g S w 6) (h2 : fw_g S' (w + 2) = fw_g S (w + 2)) (h3 : fw_g S' (w + 3) = fw_g S (w + 3)) : OpX S' w o := by
  obtain ⟨a, b, c, d, e, f⟩ := h
  exact ⟨by rw [sm_r hs]; exact a, by rw [sm_r hs]; exact b, by rw [sm_l hs]; exact c, by rw [h5]; exact d, fun q => by rw [h6]; exact e q, fun q => (f q).keep hs h2 h3⟩
theorem OpX.len {S : fw_S} {w : Nat} {o : List Int32} (h : OpX S w o) (hk : 2 ≤ o.length) (b : Int32) : F_Wire_lengthSuits w b S = some (if sLenOk (o.getD 1 0) b then 1 else 0) := by
  obtain ⟨r, -, -, -, -, f⟩ := h
  have hkd := (f hk).2.2.1
  unfold F_Wire_lengthSuits sLenOk
  simp only [r, fw_om, hkd]
  by_cases h1 : o.getD 1 0 = 1
  · simp only [h1, if_true]
    by_cases a1 : b < 2
    · have : ¬ 2 ≤ b := Int32.not_le.mpr a1
      simp [a1, this]
    · have a1' : 2 ≤ b := Int32.not_lt.mp a1
      by_cases a2 : 9 < b
      · have : ¬ b ≤ 9 := Int32.not_le.mpr a2
        simp [a1, a2, this]
      · have : b ≤ 9 := Int32.not_lt.mp a2
        simp [a1, a2, a1', this]
  · simp only [h1, if_false]
    by_cases h2 : o.getD 1 0 = 2
    · simp only [h2, if_true]
      by_cases a1 : b < 2
      · have : ¬ 2 ≤ b := Int32.not_le.mpr a1
        simp [a1, this]
      · have a1' : 2 ≤ b := Int32.not_lt.mp a1
        by_cases a2 : 18 < b
        · have : ¬ b ≤ 18 := Int32.not_le.mpr a2
          simp [a1, a2, this]
        · have a2' : b ≤ 18 := Int32.not_lt.mp a2
          by_cases a3 : b &&& 1 = 0
          · simp [a1, a2, a1', a2', a3]
          · simp [a1, a2, a1', a2', a3]
    · simp only [h2, if_false]
      by_cases h3 : o.getD 1 0 = 3
      · simp only [h3, if_true]
        by_cases a1 : b = 2 <;> simp [a1]
      · simp only [h3, if_false]
        by_cases h4 : o.getD 1 0 = 4
        · simp only [h4, if_true]
          by_cases a1 : b = 1 <;> simp [a1]
        · simp only [h4, if_false, false_and, decide_false]
          simp
theorem OpX.suits {S : fw_S} {w : Nat} {o : List Int32} (h : OpX S w o) (ho : okO o) (b : Int32) : F_Wire_suits w b S = some (if sFit o b then 1 else 0) := by
  have hlen := h.len (b := b)
  obtain ⟨r, r2, l2, c, e, f⟩ := h
  have hmx : o.length < 2 ^ 31 := by
    by_cases h4 : 4 ≤ o.length
    · obtain ⟨n, -, -, h5, -, h6⟩ := ho.2.2 h4
      omega
    · omega
  unfold F_Wire_suits sFit
  rw [c]
  by_cases c0 : o.length = 0
  · rw [if_pos c0, if_pos (by rw [c0]; rfl)]
    by_cases a : b = 126 <;> simp [a]
  rw [if_neg c0, if_neg (show ¬ nI o.length = 0 from nI_ne (b := 0) c0 hmx (by decide))]
  by_cases c1 : o.length = 1
  · rw [if_pos c1, if_pos (by rw [c1]; rfl)]
    by_cases a1 : b < 1
    · have : ¬ 1 ≤ b := Int32.not_le.mpr a1
      simp [a1, this]
    · have a1' : 1 ≤ b := Int32.not_lt.mp a1
      by_cases a2 : 4 < b
      · have : ¬ b ≤ 4 := Int32.not_le.mpr a2
        simp [a1, a2, this]
      · have : b ≤ 4 := Int32.not_lt.mp a2
        simp [a1, a2, a1', this]
  rw [if_neg c1, if_neg (show ¬ nI o.length = 1 from nI_ne (b := 1) c1 hmx (by decide))]
  by_cases c2 : o.length = 2
  · rw [if_pos c2, if_pos (by rw [c2]; rfl)]
    rfl
  rw [if_neg c2, if_neg (show ¬ nI o.length = 2 from nI_ne (b := 2) c2 hmx (by decide))]
  by_cases c3 : o.length = 3
  · rw [if_pos c3, if_pos (by rw [c3]; rfl), hlen (by omega), Option.bind_some]
    by_cases a : sLenOk (o.getD 1 0) b <;> simp [a]
  rw [if_neg c3, if_neg (show ¬ nI o.length = 3 from nI_ne (b := 3) c3 hmx (by decide)), e (by omega)]
  have hF := f (by omega)
  by_cases c4 : nI o.length = 4 + o.getD 3 0
  · rw [if_pos c4, if_pos c4, r]
    simp only [fw_om, hF.sum, Option.bind_some]
    by_cases a : b = sSum (o.getD 1 0) (o.getD 2 0) (o.drop 4)
    · rw [if_pos a, if_pos (decide_eq_true a)]
    · rw [if_neg a, if_neg (fun q => a (of_decide_eq_true q))]
  · rw [if_neg c4, if_neg c4, r]
    simp only [fw_om, hF.2.2.1]
    by_cases a1 : o.getD 1 0 = 2
    · rw [if_pos a1]
      by_cases a2 : o.length = 5
      · rw [if_pos (by rw [a2]; rfl)]
        by_cases a3 : 1 < b <;> simp only [a1, a2, a3] <;> simp
      · rw [if_neg (show ¬ nI o.length = 5 from nI_ne (b := 5) a2 hmx (by decide))]
        simp only [a2]
        simp
    · rw [if_neg a1]
      simp only [a1]
      simp
/-- the byte is kept: the frame with it -/
theorem OpX.keepB {S : fw_S} {w : Nat} {o : List Int32} (h : OpX S w o) (ho : okO o) {b : Int32} (hb : b8 b) (hf : sFit o b = true) :
    ∃ S', F_Wire_keep w b S = some S' ∧ fw_r S' w 4 = some (w + 2) ∧ fw_g S' w 5 = nI o.length ∧ fw_g S' w 6 = (o ++ [b]).getD 3 0 ∧ (1 ≤ o.length → o.length < 4 → FrX S' (w + 2) ((o ++ [b]).getD 1 0) ((o ++ [b]).getD 2 0) []) ∧ (4 ≤ o.length → nI o.length = 4 + o.getD 3 0 → S' = S) ∧ (4 ≤ o.length → ¬ nI o.length = 4 + o.getD 3 0 → FrX S' (w + 2) ((o ++ [b]).getD 1 0) ((o ++ [b]).getD 2 0) (o.drop 4 ++ [b])) ∧ sm S S' ∧ (∀ a, a ≠ w → a ≠ w + 2 → a ≠ w + 3 → fw_g S' a = fw_g S a) ∧ ∀ k, k ≠ 5 → k ≠ 6 → fw_g S' w k = fw_g S w k := by
  obtain ⟨r, r2, l2, c, e, f⟩ := h
  have hmx : o.length < 2 ^ 31 := by
    by_cases h4 : 4 ≤ o.length
    · obtain ⟨n, -, -, h5, -, h6⟩ := ho.2.2 h4
      omega
    · omega
  unfold F_Wire_keep
  rw [c]
  by_cases c0 : o.length = 0
  · have : o = [] := List.length_eq_zero_iff.mp c0
    subst this
    refine ⟨fw_wi S w 6 0, by rw [if_pos (by rfl)]; rfl, r, ?_, ?_, fun q => by simp at q, fun q => by simp at q, fun q => by simp at q, rfl, fun a ha _ _ => fw_g_wi_ne ha, fun k _ hk => g_k hk⟩
    · rw [g_k (by decide)]; exact c
    · rw [g_s]; rfl
  rw [if_neg (show ¬ nI o.length = 0 from nI_ne (b := 0) c0 hmx (by decide))]
  by_cases c1 : o.length = 1
  · obtain ⟨x, rfl⟩ := List.length_eq_one_iff.mp c1
    obtain ⟨S1, p1, q1, s1, g1⟩ := FrX.begin r2 l2 b 0
    refine ⟨S1, ?_, by rw [sm_r s1]; exact r, ?_, ?_, fun _ _ => q1, fun q => by simp at q, fun q => by simp at q, s1, fun a _ ha _ => g1 a ha, fun k _ _ => by rw [g1 w (by omega)]⟩
    · rw [if_pos (by rfl), r]
      simp only [fw_om, p1, Option.bind_some]
    · rw [g1 w (by omega)]; exact c
    · rw [g1 w (by omega)]; exact e (by simp)
  rw [if_neg (show ¬ nI o.length = 1 from nI_ne (b := 1) c1 hmx (by decide))]
  by_cases c2 : o.length = 2
  · obtain ⟨x, y, rfl⟩ : ∃ x y, o = [x, y] := by
      match o, c2 with
      | [x, y], _ => exact ⟨x, y, rfl⟩
    have hF := f (by simp)
    refine ⟨fw_wi S (w + 2) 1 b, ?_, r, ?_, ?_, fun _ _ => ?_, fun q => by simp at q, fun q => by simp at q, rfl, fun a _ ha _ => fw_g_wi_ne ha, fun k _ _ => g_a (by omega)⟩
    · rw [if_pos (by rfl), r]
      rfl
    · rw [g_a (by omega)]; exact c
    · rw [g_a (by omega)]; exact e (by simp)
    · obtain ⟨a1, a2, a3, a4, a5, a6, a7⟩ := hF
      refine ⟨a1, a2, ?_, g_s, ?_, by simp, fun i z hz => by simp at hz⟩
      · rw [g_k (by decide)]; exact a3
      · rw [g_k (by decide)]; exact a5
  rw [if_neg (show ¬ nI o.length = 2 from nI_ne (b := 2) c2 hmx (by decide))]
  by_cases c3 : o.length = 3
  · have hF := f (by omega)
    have hd : o.drop 4 = [] := List.drop_eq_nil_of_le (by omega)
    rw [hd] at hF
    have g1 : (o ++ [b]).getD 1 0 = o.getD 1 0 := by simp [List.getElem?_append_left (show 1 < o.length by omega)]
    have g2 : (o ++ [b]).getD 2 0 = o.getD 2 0 := by simp [List.getElem?_append_left (show 2 < o.length by omega)]
    have g3 : (o ++ [b]).getD 3 0 = b := by simp [← c3]
    refine ⟨fw_wi S w 6 b, ?_, r, ?_, ?_, fun _ _ => ?_, fun q => by omega, fun q => by omega, rfl, fun a ha _ _ => fw_g_wi_ne ha, fun k _ hk => g_k hk⟩
    · rw [if_pos (by rw [c3]; rfl)]
      rfl
    · rw [g_k (by decide)]; exact c
    · rw [g_s, g3]
    · rw [g1, g2]
      exact hF.keep rfl (fw_g_wi_ne (by omega)) (fw_g_wi_ne (by omega))
  rw [if_neg (show ¬ nI o.length = 3 from nI_ne (b := 3) c3 hmx (by decide)), e (by omega)]
  have hF := f (by omega)
  obtain ⟨n, hn3, hn1, hn18, hok, hln⟩ := ho.2.2 (by omega)
  have g1 : (o ++ [b]).getD 1 0 = o.getD 1 0 := by simp [List.getElem?_append_left (show 1 < o.length by omega)]
  have g2 : (o ++ [b]).getD 2 0 = o.getD 2 0 := by simp [List.getElem?_append_left (show 2 < o.length by omega)]
  have g3 : (o ++ [b]).getD 3 0 = o.getD 3 0 := by simp [List.getElem?_append_left (show 3 < o.length by omega)]
  have e4 : 4 + o.getD 3 0 = nI (4 + n) := by rw [hn3]; exact nI_add 4 n
  rw [g1, g2, g3, e4]
  by_cases c4 : o.length = 4 + n
  · refine ⟨S, ?_, r, c, e (by omega), fun _ q => by omega, fun _ _ => rfl, fun _ q => absurd (by rw [c4]) q, rfl, fun _ _ _ _ => rfl, fun _ _ _ => rfl⟩
    rw [if_pos (nI_le (by omega) hmx)]
  · have hlt : o.length < 4 + n := by omega
    obtain ⟨S1, p1, q1, s1, k1⟩ := hF.put (by simp; omega) b
    rw [hb] at q1
    refine ⟨S1, ?_, by rw [sm_r s1]; exact r, ?_, ?_, fun _ q => by omega, fun _ q => absurd ((nI_eq hmx (by omega)).mp q) c4, fun _ _ => q1, s1, fun a _ ha hb => k1 a ha hb, fun k _ _ => by rw [k1 w (by omega) (by omega)]⟩
    · rw [if_neg (nI_ge hlt (by omega)), r]
      simp only [fw_om, p1, Option.bind_some]
    · rw [k1 w (by omega) (by omega)]; exact c
    · rw [k1 w (by omega) (by omega)]; exact e (by omega)
def sDone (o : List Int32) : Prop := 4 ≤ o.length ∧ nI o.length = 4 + o.getD 3 0
theorem okO.le {o : List Int32} (ho : okO o) : o.length ≤ 22 := by
  by_cases h4 : 4 ≤ o.length
  · obtain ⟨n, -, -, h5, -, h6⟩ := ho.2.2 h4
    omega
  · omega
theorem okO.done {o : List Int32} (ho : okO o) {n : Nat} (h4 : 4 ≤ o.length) (hn : o.getD 3 0 = nI n) (h18 : n < 256) : sDone o ↔ o.length = 4 + n := by
  have := ho.le
  unfold sDone
  rw [hn, show (4 : Int32) = nI 4 from rfl, nI_add]
  exact ⟨fun q => (nI_eq (by omega) (by omega)).mp q.2, fun q => ⟨h4, by rw [q]⟩⟩
theorem okO.app {o : List Int32} (ho : okO o) {b : Int32} (hb : b8 b) (hf : sFit o b = true) (hd : ¬ sDone o) : okO (o ++ [b]) := by
  refine ⟨fun x hx => ?_, fun h2 => ?_, fun h4 => ?_⟩
  · rcases List.mem_append.mp hx with h | h
    · exact ho.1 x h
    · rw [List.mem_singleton.mp h]; exact hb
  · simp at h2
    by_cases c1 : o.length = 1
    · obtain ⟨x, rfl⟩ := List.length_eq_one_iff.mp c1
      simp only [sFit, List.length_singleton, if_true] at hf
      simp at hf
      obtain ⟨n, hn, rfl⟩ := b8_of hb
      have h1 : 1 ≤ n := Nat.not_lt.mp (fun q => absurd hf.1 (nI_ge (b := 1) q (by omega)))
      have h4 : n ≤ 4 := Nat.not_lt.mp (fun q => absurd hf.2 (nI_ge (a := 4) q (by omega)))
      show nI n = 1 ∨ nI n = 2 ∨ nI n = 3 ∨ nI n = 4
      have : n = 1 ∨ n = 2 ∨ n = 3 ∨ n = 4 := by omega
      rcases this with rfl | rfl | rfl | rfl
      · exact Or.inl rfl
      · exact Or.inr (Or.inl rfl)
      · exact Or.inr (Or.inr (Or.inl rfl))
      · exact Or.inr (Or.inr (Or.inr rfl))
    · have g1 : (o ++ [b]).getD 1 0 = o.getD 1 0 := by simp [List.getElem?_append_left (show 1 < o.length by omega)]
      rw [g1]
      exact ho.2.1 (by omega)
  · simp at h4
    have g1 : (o ++ [b]).getD 1 0 = o.getD 1 0 := by simp [List.getElem?_append_left (show 1 < o.length by omega)]
    rw [g1]
    by_cases c3 : o.length = 3
    · have g3 : (o ++ [b]).getD 3 0 = b := by simp [← c3]
      obtain ⟨n, hn, rfl⟩ := b8_of hb
      rw [g3]
      simp only [sFit, c3, if_true] at hf
      rw [if_neg (by decide), if_neg (by decide), if_neg (by decide)] at hf
      have h118 : 1 ≤ n ∧ n ≤ 18 := by
        rcases ho.2.1 (by omega) with q | q | q | q <;> rw [q] at hf
        · simp [sLenOk] at hf
          exact ⟨Nat.not_lt.mp (fun z => absurd hf.1 (nI_ge (b := 2) (by omega) (by omega))), Nat.not_lt.mp (fun z => absurd hf.2 (nI_ge (a := 9) (by omega) (by omega)))⟩
        · simp [sLenOk] at hf
          exact ⟨Nat.not_lt.mp (fun z => absurd hf.1 (nI_ge (b := 2) (by omega) (by omega))), Nat.not_lt.mp (fun z => absurd hf.2.1 (nI_ge (a := 18) (by omega) (by omega)))⟩
        · simp [sLenOk] at hf
          have : n = 2 := (nI_eq (b := 2) (by omega) (by omega)).mp hf
          omega
        · simp [sLenOk] at hf
          have : n = 1 := (nI_eq (b := 1) (by omega) (by omega)).mp hf
          omega
      exact ⟨n, rfl, h118.1, h118.2, hf, by simp; omega⟩
    · have g3 : (o ++ [b]).getD 3 0 = o.getD 3 0 := by simp [List.getElem?_append_left (show 3 < o.length by omega)]
      obtain ⟨n, hn3, hn1, hn18, hok, hln⟩ := ho.2.2 (by omega)
      have : ¬ o.length = 4 + n := fun q => hd ((ho.done (by omega) hn3 (by omega)).mpr q)
      rw [g3]
      exact ⟨n, hn3, hn1, hn18, hok, by simp; omega⟩
theorem OpX.wrong {S : fw_S} {w : Nat} {o : List Int32} (h : OpX S w o) (ho : okO o) {b : Int32} (hf : ¬ sFit o b = true) : F_Wire_accept w b S = some (-10, S) := by
  unfold F_Wire_accept
  rw [h.suits ho, if_neg hf]
  rfl
theorem OpX.more {S : fw_S} {w : Nat} {o : List Int32} (h : OpX S w o) (ho : okO o) {b : Int32} (hb : b8 b) (hf : sFit o b = true) (hd : ¬ sDone o) :
    ∃ S', F_Wire_accept w b S = some (0, S') ∧ OpX S' w (o ++ [b]) ∧ sm S S' ∧ (∀ a, a ≠ w → a ≠ w + 2 → a ≠ w + 3 → fw_g S' a = fw_g S a) ∧ ∀ k, k ≠ 5 → k ≠ 6 → fw_g S' w k = fw_g S w k := by
  obtain ⟨S3, p3, r3, c3, a3, f3, -, d3, s3, g3, k3⟩ := h.keepB ho hb hf
  have hle := ho.le
  have ho' := ho.app hb hf hd
  refine ⟨fw_wi S3 w 5 (nI (o.length + 1)), ?_, ⟨r3, by show fw_r S3 (w + 2) 3 = _; rw [sm_r s3]; exact h.2.1, by show fw_l S3 (w + 3) = _; rw [sm_l s3]; exact h.2.2.1, by rw [g_s]; simp, fun _ => by rw [g_k (by decide)]; exact a3, fun h2 => ?_⟩, s3, fun a ha hb hc => by rw [fw_g_wi_ne ha]; exact g3 a ha hb hc, fun k hk hk' => by rw [g_k hk]; exact k3 k hk hk'⟩
  · unfold F_Wire_accept
    rw [h.suits ho, if_pos hf, Option.bind_some, if_neg (by decide), p3, Option.bind_some]
    show (if 4 + fw_g (fw_wi S3 w 5 (fw_g S3 w 5 + 1)) w 6 < fw_g (fw_wi S3 w 5 (fw_g S3 w 5 + 1)) w 5 then _ else _) = _
    rw [g_k (by decide), g_s, c3, a3, nI_1]
    rw [if_neg]
    by_cases h4 : 4 ≤ (o ++ [b]).length
    · obtain ⟨n, hn3, hn1, hn18, hok, hln⟩ := ho'.2.2 h4
      rw [hn3, show (4 : Int32) = nI 4 from rfl, nI_add]
      exact nI_nlt (by simpa using hln) (by omega)
    · simp at h4
      have : (o ++ [b]).getD 3 0 = 0 := by simp [List.getElem?_eq_none_iff.mpr (show (o ++ [b]).length ≤ 3 by simp; omega)]
      rw [this]
      exact nI_nlt (a := 4) (by omega) (by omega)
  · simp at h2
    by_cases h4 : o.length < 4
    · have hd0 : (o ++ [b]).drop 4 = [] := List.drop_eq_nil_of_le (by simp; omega)
      rw [hd0]
      exact (f3 (by omega) h4).keep rfl (fw_g_wi_ne (by omega)) (fw_g_wi_ne (by omega))
    · have hd0 : (o ++ [b]).drop 4 = o.drop 4 ++ [b] := List.drop_append_of_le_length (by omega)
      rw [hd0]
      exact (d3 (by omega) (fun q => hd ⟨by omega, q⟩)).keep rfl (fw_g_wi_ne (by omega)) (fw_g_wi_ne (by omega))
theorem OpX.whole {S : fw_S} {w : Nat} {o : List Int32} (h : OpX S w o) (ho : okO o) {b : Int32} (hb : b8 b) (hf : sFit o b = true) (hd : sDone o) :
    ∃ S', F_Wire_accept w b S = some (1, S') ∧ OpX S' w [] ∧ FrX S' (w + 2) (o.getD 1 0) (o.getD 2 0) (o.drop 4) ∧ sm S S' ∧ (∀ a, a ≠ w → fw_g S' a = fw_g S a) ∧ ∀ k, k ≠ 5 → fw_g S' w k = fw_g S w k := by
  obtain ⟨S3, p3, r3, c3, a3, f3, e3, -, s3, -, -⟩ := h.keepB ho hb hf
  have := e3 hd.1 hd.2
  subst this
  have hle := ho.le
  obtain ⟨n, hn3, hn1, hn18, hok, hln⟩ := ho.2.2 hd.1
  have hl4 := (ho.done hd.1 hn3 (by omega)).mp hd
  have g3 : (o ++ [b]).getD 3 0 = o.getD 3 0 := by simp [List.getElem?_append_left (show 3 < o.length by omega)]
  refine ⟨fw_wi (fw_wi S3 w 5 (nI (o.length + 1))) w 5 0, ?_, ⟨h.1, h.2.1, h.2.2.1, by rw [g_s]; rfl, fun q => by simp at q, fun q => by simp at q⟩, ?_, rfl, fun a ha => by rw [fw_g_wi_ne ha, fw_g_wi_ne ha], fun k hk => by rw [g_k hk, g_k hk]⟩
  · unfold F_Wire_accept
    rw [h.suits ho, if_pos hf, Option.bind_some, if_neg (by decide), p3, Option.bind_some]
    show (if 4 + fw_g (fw_wi S3 w 5 (fw_g S3 w 5 + 1)) w 6 < fw_g (fw_wi S3 w 5 (fw_g S3 w 5 + 1)) w 5 then _ else _) = _
    rw [g_k (by decide), g_s, c3, a3, nI_1, g3, hn3, show (4 : Int32) + nI n = nI (4 + n) from nI_add 4 n]
    rw [if_pos (nI_lt (by omega) (by omega))]
    rfl
  · exact (h.2.2.2.2.2 (by omega)).keep rfl (by rw [fw_g_wi_ne (by omega), fw_g_wi_ne (by omega)]) (by rw [fw_g_wi_ne (by omega), fw_g_wi_ne (by omega)])
