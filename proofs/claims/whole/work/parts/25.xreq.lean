/-! Requests of the class. A request: its numbers f (by the place of the field; 20 and 21: kind and number of the frame sent last), bindings B, keys K, rows R, bytes LB of the frame sent last. -/
abbrev sPs : Type := List (Int32 × Int32)
abbrev rqK : List Nat := [0, 1, 2, 6, 8, 11, 12, 13, 14, 15]
def RqX (S : fw_S) (q r : Nat) (f : Nat → Int32) (B : sPs) (K : List Int32) (R : sPs) (LB : List Int32) : Prop :=
  (fw_r S q 3 = some (q + 6) ∧ fw_r S q 4 = some (q + 9) ∧ fw_r S q 7 = some (q + 1) ∧ fw_r S q 9 = some (q + 4) ∧ fw_l S (q + 9) = B.length) ∧
  (∀ k ∈ rqK, fw_g S q k = f k) ∧ fw_g S q 10 = nI r ∧ fw_g S q 5 = nI K.length ∧ B.length ≤ 20 ∧ K.length ≤ B.length ∧ (∀ (i : Nat) (k : Int32), K[i]? = some k → fw_g S (q + 9) i = k) ∧
  PrX S (q + 6) B.length B ∧ PrX S (q + 1) 60 R ∧ FrX S (q + 4) (f 20) (f 21) LB
section RQ
variable {S S' : fw_S} {q r : Nat} {f : Nat → Int32} {B R R' : sPs} {K LB LB' : List Int32} {k n : Int32}
theorem RqX.keep (h : RqX S q r f B K R LB) (hs : sm S S') (hg : ∀ a, q ≤ a → a < q + 10 → fw_g S' a = fw_g S a) : RqX S' q r f B K R LB := by
  obtain ⟨⟨r3, r4, r7, r9, l9⟩, hk, h10, h5, hb, hkb, hks, hB, hR, hF⟩ := h
  have hq := hg q (by omega) (by omega)
  refine ⟨⟨by rw [sm_r hs]; exact r3, by rw [sm_r hs]; exact r4, by rw [sm_r hs]; exact r7, by rw [sm_r hs]; exact r9, by rw [sm_l hs]; exact l9⟩, fun k m => by rw [hq]; exact hk k m, by rw [hq]; exact h10, by rw [hq]; exact h5, hb, hkb, fun i k m => by rw [hg (q + 9) (by omega) (by omega)]; exact hks i k m, hB.keep hs (fun a h1 h2 => hg a (by omega) (by omega)), hR.keep hs (fun a h1 h2 => hg a (by omega) (by omega)), hF.keep hs (hg _ (by omega) (by omega)) (hg _ (by omega) (by omega))⟩
theorem RqX.sc (h : RqX S q r f B K R LB) (k : Nat) (v : Int32) (h1 : k ≠ 10) (h2 : k ≠ 5) (h3 : k ≠ 20) (h4 : k ≠ 21) : RqX (fw_wi S q k v) q r (va_up f k v) B K R LB := by
  obtain ⟨hr, hk, h10, h5, hb, hkb, hks, hB, hR, hF⟩ := h
  have hn : ∀ a, a ≠ q → fw_g (fw_wi S q k v) a = fw_g S a := fun a ha => fw_g_wi_ne ha
  refine ⟨hr, fun j m => ?_, by rw [g_k (Ne.symm h1)]; exact h10, by rw [g_k (Ne.symm h2)]; exact h5, hb, hkb, fun i x m => by rw [hn _ (by omega)]; exact hks i x m, hB.keep rfl (fun a h1 h2 => hn a (by omega)), hR.keep rfl (fun a h1 h2 => hn a (by omega)), ?_⟩
  · by_cases hj : j = k
    · subst hj
      rw [g_s]; exact (va_up_self _ _ _).symm
    · rw [g_k hj, va_up_ne _ _ hj]; exact hk j m
  · rw [va_up_ne _ _ (Ne.symm h3), va_up_ne _ _ (Ne.symm h4)]
    exact hF.keep rfl (hn _ (by omega)) (hn _ (by omega))
/-- the rows are changed -/
theorem RqX.rows (h : RqX S q r f B K R LB) (hs : sm S S') (hg : ∀ a, (a < q + 1 ∨ q + 1 + 3 ≤ a) → fw_g S' a = fw_g S a) (hR : PrX S' (q + 1) 60 R') : RqX S' q r f B K R' LB := by
  obtain ⟨⟨r3, r4, r7, r9, l9⟩, hk, h10, h5, hb, hkb, hks, hB, -, hF⟩ := h
  have hq := hg q (by omega)
  exact ⟨⟨by rw [sm_r hs]; exact r3, by rw [sm_r hs]; exact r4, by rw [sm_r hs]; exact r7, by rw [sm_r hs]; exact r9, by rw [sm_l hs]; exact l9⟩, fun k m => by rw [hq]; exact hk k m, by rw [hq]; exact h10, by rw [hq]; exact h5, hb, hkb, fun i k m => by rw [hg (q + 9) (by omega)]; exact hks i k m, hB.keep hs (fun a h1 h2 => hg a (by omega)), hR, hF.keep hs (hg _ (by omega)) (hg _ (by omega))⟩
/-- the frame sent last is changed -/
theorem RqX.frame (h : RqX S q r f B K R LB) (hs : sm S S') (hg : ∀ a, a ≠ q + 4 → a ≠ q + 5 → fw_g S' a = fw_g S a) (hF : FrX S' (q + 4) k n LB') : RqX S' q r (va_up (va_up f 20 k) 21 n) B K R LB' := by
  obtain ⟨⟨r3, r4, r7, r9, l9⟩, hk, h10, h5, hb, hkb, hks, hB, hR, -⟩ := h
  have hq := hg q (by omega) (by omega)
  refine ⟨⟨by rw [sm_r hs]; exact r3, by rw [sm_r hs]; exact r4, by rw [sm_r hs]; exact r7, by rw [sm_r hs]; exact r9, by rw [sm_l hs]; exact l9⟩, fun j m => ?_, by rw [hq]; exact h10, by rw [hq]; exact h5, hb, hkb, fun i x m => by rw [hg (q + 9) (by omega) (by omega)]; exact hks i x m, hB.keep hs (fun a h1 h2 => hg a (by omega) (by omega)), hR.keep hs (fun a h1 h2 => hg a (by omega) (by omega)), ?_⟩
  · rw [hq, va_up_ne _ _ (by rintro rfl; exact absurd m (by decide)), va_up_ne _ _ (by rintro rfl; exact absurd m (by decide))]
    exact hk j m
  · rw [va_up_self, va_up_ne _ _ (by decide), va_up_self]
    exact hF
def sFailF (f : Nat → Int32) (why : Int32) : Nat → Int32 := va_up (va_up f 15 why) 14 (if f 1 = 0 then 2 else 1)
def sFailR (f : Nat → Int32) (R : sPs) : sPs := if f 1 = 0 then R else []
theorem RqX.fail (h : RqX S q r f B K R LB) (why : Int32) : ∃ S', F_Request_fail q why S = some S' ∧ RqX S' q r (sFailF f why) B K (sFailR f R) LB ∧ sm S S' ∧ ∀ a, (a < q ∨ q + 10 ≤ a) → fw_g S' a = fw_g S a := by
  have h1 := h.sc 15 why (by decide) (by decide) (by decide) (by decide)
  have hs1 : fw_g (fw_wi S q 15 why) q 1 = f 1 := by rw [g_k (by decide)]; exact h.2.1 1 (by decide)
  simp only [F_Request_fail, fw_let, sFailF, sFailR]
  rw [hs1]
  by_cases hz : f 1 = 0
  · rw [if_pos hz, if_pos hz, if_pos hz]
    exact ⟨_, rfl, h1.sc 14 2 (by decide) (by decide) (by decide) (by decide), rfl, fun a ha => by rw [fw_g_wi_ne (by omega), fw_g_wi_ne (by omega)]⟩
  · rw [if_neg hz, if_neg hz, if_neg hz]
    have h2 := h1.sc 14 1 (by decide) (by decide) (by decide) (by decide)
    obtain ⟨c1, c2⟩ := h2.2.2.2.2.2.2.2.2.1.clear
    refine ⟨fw_wi (fw_wi (fw_wi S q 15 why) q 14 1) (q + 1) 2 0, ?_, h2.rows rfl (fun a ha => fw_g_wi_ne (by omega)) c2, rfl, fun a ha => by rw [fw_g_wi_ne (by omega), fw_g_wi_ne (by omega), fw_g_wi_ne (by omega)]⟩
    simp only [h2.1.2.2.1, fw_om, c1, Option.bind_some]
def sStep (f : Nat → Int32) : Int32 := (f 11 + 1) &&& 255
def sNext (f : Nat → Int32) (k : Int32) (r : Nat) : Nat → Int32 := va_up (va_up (va_up f 11 (sStep f)) 20 k) 21 (nI r)
theorem RqX.next (h : RqX S q r f B K R LB) (k : Int32) : ∃ S', F_Request_nextStep q k S = some S' ∧ RqX S' q r (sNext f k r) B K R [sStep f] ∧ sm S S' ∧ ∀ a, a ≠ q → a ≠ q + 4 → a ≠ q + 5 → fw_g S' a = fw_g S a := by
  have e11 : fw_g S q 11 = f 11 := h.2.1 11 (by decide)
  have h1 := h.sc 11 (sStep f) (by decide) (by decide) (by decide) (by decide)
  have hF := h1.2.2.2.2.2.2.2.2.2
  obtain ⟨S2, p2, q2, s2, g2⟩ := FrX.begin hF.1 hF.2.1 k (nI r)
  obtain ⟨S3, p3, q3, s3, g3⟩ := q2.put (by simp) (sStep f)
  have hst : sStep f &&& 255 = sStep f := b8_and _
  rw [hst] at q3
  refine ⟨S3, ?_, h1.frame (sm_tr s2 s3) (fun a ha hb => by rw [g3 a ha hb, g2 a ha]) q3, sm_tr sm_wi (sm_tr s2 s3), fun a ha hb hc => by rw [g3 a hb hc, g2 a hb, fw_g_wi_ne ha]⟩
  simp only [F_Request_nextStep, fw_let]
  rw [e11]
  show fw_om (fw_r (fw_wi S q 11 (sStep f)) q 9) none _ = _
  rw [h1.1.2.2.2.1]
  simp only [fw_om]
  have e10 : fw_g (fw_wi S q 11 (f 11 + 1 &&& 255)) q 10 = nI r := h1.2.2.1
  rw [e10, show fw_wi S q 11 (f 11 + 1 &&& 255) = fw_wi S q 11 (sStep f) from rfl, p2, Option.bind_some, sm_r s2, h1.1.2.2.2.1]
  simp only
  rw [show fw_g S2 q 11 = sStep f by rw [g2 q (by omega), g_s], p3]
  rfl
end RQ
