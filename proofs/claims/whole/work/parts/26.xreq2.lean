/-! Requests of the class: what they send, what they take. -/
section RQ2
variable {S S' : fw_S} {q r : Nat} {f : Nat → Int32} {B R R' : sPs} {K LB LB' : List Int32} {k n : Int32}
theorem up_id (f : Nat → Int32) (k : Nat) : va_up f k (f k) = f := by
  funext j
  by_cases h : j = k
  · subst h; exact va_up_self _ _ _
  · exact va_up_ne _ _ h
theorem up_id' {f : Nat → Int32} {k : Nat} {v : Int32} (h : v = f k) : va_up f k v = f := by rw [h]; exact up_id f k
theorem RqX.bytes (h : RqX S q r f B K R LB) (hs : sm S S') (hg : ∀ a, a ≠ q + 4 → a ≠ q + 5 → fw_g S' a = fw_g S a) (hF : FrX S' (q + 4) (f 20) (f 21) LB') : RqX S' q r f B K R LB' := by
  have := h.frame hs hg hF
  rw [up_id, up_id] at this
  exact this
theorem RqX.more (h : RqX S q r f B K R LB) : ∃ S', F_Request_writeMore q S = some S' ∧ RqX S' q r (sNext f 3 r) B K R [sStep f, f 8 &&& 255] ∧ sm S S' ∧ ∀ a, a ≠ q → a ≠ q + 4 → a ≠ q + 5 → fw_g S' a = fw_g S a := by
  obtain ⟨S1, p1, q1, s1, g1⟩ := h.next 3
  obtain ⟨S2, p2, q2, s2, g2⟩ := q1.2.2.2.2.2.2.2.2.2.put (by simp) (f 8)
  have e8 : fw_g S1 q 8 = f 8 := by
    have := q1.2.1 8 (by decide)
    rw [this, sNext, va_up_ne _ _ (by decide), va_up_ne _ _ (by decide), va_up_ne _ _ (by decide)]
  refine ⟨S2, ?_, q1.bytes s2 g2 q2, sm_tr s1 s2, fun a ha hb hc => by rw [g2 a hb hc, g1 a ha hb hc]⟩
  unfold F_Request_writeMore
  rw [p1, Option.bind_some, q1.1.2.2.2.1]
  simp only [fw_om]
  rw [e8, p2]
  rfl
theorem RqX.askL (hk : ∀ x ∈ K, b8 x) (e : Nat) (he : e ≤ K.length) : ∀ (n i : Nat) (S : fw_S) (LB : List Int32), RqX S q r f B K R LB → i ≤ e → e < i + n → LB.length + (e - i) ≤ 18 →
    ∃ S', F_Request_writeAsk_l39 n q (nI e) (nI i) S = some S' ∧ RqX S' q r (va_up (va_up f 6 (nI e)) 8 0) B K R (LB ++ (K.drop i).take (e - i)) ∧ sm S S' ∧ ∀ a, a ≠ q → a ≠ q + 4 → a ≠ q + 5 → fw_g S' a = fw_g S a := by
  intro n
  induction n with
  | zero => intro i S LB h h1 h2; omega
  | succ n ih =>
    intro i S LB h h1 h2 h3
    have hb20 := h.2.2.2.2.1
    have hkb := h.2.2.2.2.2.1
    rw [F_Request_writeAsk_l39]
    by_cases hlt : i < e
    · have hi : i < K.length := by omega
      obtain ⟨S1, p1, q1, s1, g1⟩ := h.2.2.2.2.2.2.2.2.2.put (by omega) K[i]
      have hbk : K[i] &&& 255 = K[i] := hk _ (List.getElem_mem hi)
      rw [hbk] at q1
      have h' := h.bytes s1 g1 q1
      obtain ⟨S2, p2, q2, s2, g2⟩ := ih (i + 1) S1 _ h' (by omega) (by omega) (by simp; omega)
      refine ⟨S2, ?_, ?_, sm_tr s1 s2, fun a ha hb hc => by rw [g2 a ha hb hc, g1 a hb hc]⟩
      · have ek : fw_g S (q + 9) i = K[i] := h.2.2.2.2.2.2.1 i K[i] (List.getElem?_eq_getElem hi)
        have e1 : ¬ nI i < 0 := nI_pos (by omega)
        have e2 : ¬ nI e ≤ nI i := nI_ge hlt (by omega)
        have e4 : (nI i).toNatClampNeg = i := nI_clamp (by omega)
        have e5 : ¬ B.length ≤ i := by omega
        have e7 : nI i + 1 = nI (i + 1) := nI_1 _
        simp only [fw_om, h.1.2.2.2.1, h.1.2.1, h.1.2.2.2.2, e1, e2, e4, e5, e7, if_false, or_self, ek, p1, Option.bind_some]
        exact p2
      · rw [List.drop_eq_getElem_cons hi, show e - i = (e - (i + 1)) + 1 by omega, List.take_succ_cons]
        simpa using q2
    · have hie : i = e := by omega
      subst hie
      have e2 : nI i ≤ nI i := nI_le (by omega) (by omega)
      have h6 := (h.sc 6 (nI i) (by decide) (by decide) (by decide) (by decide)).sc 8 0 (by decide) (by decide) (by decide) (by decide)
      refine ⟨fw_wi (fw_wi S q 6 (nI i)) q 8 0, ?_, by simpa using h6, rfl, fun a ha _ _ => by rw [fw_g_wi_ne ha, fw_g_wi_ne ha]⟩
      rw [if_pos e2]
      rfl
def sAskE (f : Nat → Int32) (K : List Int32) (a b : Nat) : Nat := min (a + b) K.length
def sAskF (f : Nat → Int32) (K : List Int32) (r a b : Nat) : Nat → Int32 := va_up (va_up (sNext f 1 r) 6 (nI (sAskE f K a b))) 8 0
theorem RqX.ask (h : RqX S q r f B K R LB) (hk : ∀ x ∈ K, b8 x) {a b : Nat} (ha : f 6 = nI a) (hb : f 2 = nI b) (haK : a ≤ K.length) (hb8 : b ≤ 8) : ∃ S', F_Request_writeAsk q S = some S' ∧ RqX S' q r (sAskF f K r a b) B K R ([sStep f] ++ (K.drop a).take (sAskE f K a b - a)) ∧ sm S S' ∧ ∀ a, a ≠ q → a ≠ q + 4 → a ≠ q + 5 → fw_g S' a = fw_g S a := by
  obtain ⟨S1, p1, q1, s1, g1⟩ := h.next 1
  have hb20 := h.2.2.2.2.1
  have hkb := h.2.2.2.2.2.1
  have hf : ∀ j, j ≠ 11 → j ≠ 20 → j ≠ 21 → sNext f 1 r j = f j := fun j h1 h2 h3 => by rw [sNext, va_up_ne _ _ h3, va_up_ne _ _ h2, va_up_ne _ _ h1]
  have e6 : fw_g S1 q 6 = nI a := by rw [q1.2.1 6 (by decide), hf 6 (by decide) (by decide) (by decide), ha]
  have e2 : fw_g S1 q 2 = nI b := by rw [q1.2.1 2 (by decide), hf 2 (by decide) (by decide) (by decide), hb]
  have e5 : fw_g S1 q 5 = nI K.length := q1.2.2.2.1
  obtain ⟨S2, p2, q2, s2, g2⟩ := RqX.askL hk (sAskE f K a b) (Nat.min_le_right _ _) 4096 a S1 _ q1 (by unfold sAskE; omega) (by unfold sAskE; omega) (by simp [sAskE]; omega)
  refine ⟨S2, ?_, q2, sm_tr s1 s2, fun a h1 h2 h3 => by rw [g2 a h1 h2 h3, g1 a h1 h2 h3]⟩
  unfold F_Request_writeAsk
  rw [p1, Option.bind_some, q1.1.2.1]
  simp only [fw_om, fw_let]
  rw [e6, e2, e5, q1.1.2.2.2.2, nI_add]
  have x5 : (if nI a < 0 then (0 : Int32) else nI a) = nI a := if_neg (nI_pos (by omega))
  have x4 : (if nI K.length < nI (a + b) then nI K.length else nI (a + b)) = nI (sAskE f K a b) := by
    unfold sAskE
    by_cases hc : K.length < a + b
    · rw [if_pos (nI_lt hc (by omega)), Nat.min_eq_right (by omega)]
    · rw [if_neg (nI_nlt (by omega) (by omega)), Nat.min_eq_left (by omega)]
  have x4' : ¬ nI B.length < nI (sAskE f K a b) := nI_nlt (by unfold sAskE; omega) (by omega)
  rw [x5, x4, if_neg x4']
  exact p2
theorem RqX.left (h : RqX S q r f B K R LB) {a : Nat} (ha : f 6 = nI a) (haK : a ≤ K.length) : F_Request_hasKeysLeft q S = some (if a < K.length then 1 else 0) := by
  have hb20 := h.2.2.2.2.1
  have hkb := h.2.2.2.2.2.1
  unfold F_Request_hasKeysLeft
  rw [h.2.2.2.1, h.2.1 6 (by decide), ha]
  by_cases hc : a < K.length
  · rw [if_neg (nI_ge hc (by omega)), if_pos hc]
  · rw [if_pos (nI_le (by omega) (by omega)), if_neg hc]
theorem RqX.waits (h : RqX S q r f B K R LB) {fr : Nat} {kind num : Int32} {bs : List Int32} (hF : FrX S fr kind num bs) (line : Int32) : F_Request_waitsFor q fr line S = some (if f 14 = 0 ∧ f 0 = line ∧ bs.getD 0 0 = f 11 ∧ (kind = 2 ∨ kind = 4) then 1 else 0) := by
  unfold F_Request_waitsFor
  have hat : F_Frame_byteAt fr 0 S = some (bs.getD 0 0) := hF.at 0 (by decide)
  rw [h.2.1 14 (by decide), h.2.1 0 (by decide), h.2.1 11 (by decide), hat, hF.2.2.1]
  by_cases c1 : f 14 = 0
  · by_cases c2 : f 0 = line
    · by_cases c3 : bs.getD 0 0 = f 11
      · rw [if_pos c1, if_pos c2, Option.bind_some, if_pos c3]
        by_cases c4 : kind = 2
        · rw [if_pos c4, if_pos ⟨c1, c2, c3, Or.inl c4⟩]
        · by_cases c5 : kind = 4
          · rw [if_neg c4, if_pos c5, if_pos ⟨c1, c2, c3, Or.inr c5⟩]
          · rw [if_neg c4, if_neg c5, if_neg (fun z => z.2.2.2.elim c4 c5)]
      · rw [if_pos c1, if_pos c2, Option.bind_some, if_neg c3, if_neg (fun z => c3 z.2.2.1)]
    · rw [if_pos c1, if_neg c2, if_neg (fun z => c2 z.2.1)]
  · rw [if_neg c1, if_neg (fun z => c1 z.1)]
def sPairs : List Int32 → sPs
  | a :: b :: t => (a, b) :: sPairs t
  | _ => []
def sAdd (R : sPs) (p : Int32 × Int32) : sPs := if R.length < 60 then R ++ [p] else R
theorem PrX.add60 {p : Nat} {l : sPs} (h : PrX S p 60 l) (x : Int32 × Int32) : ∃ v S', F_Pairs_add p x.1 x.2 S = some (v, S') ∧ PrX S' p 60 (sAdd l x) ∧ sm S S' ∧ ∀ a, (a < p ∨ p + 3 ≤ a) → fw_g S' a = fw_g S a := by
  unfold sAdd
  by_cases hc : l.length < 60
  · rw [if_pos hc]
    obtain ⟨S', a, b, c, d⟩ := h.add hc x.1 x.2
    exact ⟨1, S', a, b, c, d⟩
  · rw [if_neg hc]
    exact ⟨0, S, h.full (by have := h.2.2.2.2.2.2.1; omega) _ _, h, rfl, fun _ _ => rfl⟩
theorem RqX.takeL {fr : Nat} {kind num : Int32} {bs : List Int32} (hd : fr + 2 ≤ q ∨ q + 10 ≤ fr) : ∀ (n i : Nat) (S : fw_S) (f : Nat → Int32) (R : sPs), RqX S q r f B K R LB → FrX S fr kind num bs → i ≤ bs.length → bs.length < i + n →
    ∃ S', F_Request_takeRows_l2 n q fr (nI i) S = some S' ∧ RqX S' q r (va_up f 8 (f 8 + nI (sPairs (bs.drop i)).length)) B K ((sPairs (bs.drop i)).foldl sAdd R) LB ∧ sm S S' ∧ ∀ a, (a < q ∨ q + 10 ≤ a) → fw_g S' a = fw_g S a := by
  intro n
  induction n with
  | zero => intro i S f R h hF h1 h2; omega
  | succ n ih =>
    intro i S f R h hF h1 h2
    have hl18 := hF.2.2.2.2.2.1
    rw [F_Request_takeRows_l2, hF.2.2.2.2.1, nI_1]
    by_cases hlt : i + 1 < bs.length
    · rw [if_neg (nI_ge hlt (by omega)), h.1.2.2.1]
      simp only [fw_om]
      rw [hF.at i (by omega), Option.bind_some, hF.at (i + 1) (by omega), Option.bind_some]
      obtain ⟨v, S1, p1, q1, s1, g1⟩ := PrX.add60 h.2.2.2.2.2.2.2.2.1 (bs.getD i 0, bs.getD (i + 1) 0)
      have h' := (h.rows s1 g1 q1)
      have e8 : fw_g S1 q 8 = f 8 := h'.2.1 8 (by decide)
      have h'' := h'.sc 8 (f 8 + 1) (by decide) (by decide) (by decide) (by decide)
      have hF' : FrX (fw_wi S1 q 8 (f 8 + 1)) fr kind num bs := hF.keep (sm_tr s1 sm_wi) (by rw [fw_g_wi_ne (by omega), g1 _ (by omega)]) (by rw [fw_g_wi_ne (by omega), g1 _ (by omega)])
      have hgo : sPairs (bs.drop i) = (bs.getD i 0, bs.getD (i + 1) 0) :: sPairs (bs.drop (i + 2)) := by
        rw [List.drop_eq_getElem_cons (show i < bs.length by omega), List.drop_eq_getElem_cons hlt]
        simp [sPairs, show i < bs.length by omega, hlt]
      have hcall : fw_b2 (F_Pairs_add (q + 1) (bs.getD i 0) (bs.getD (i + 1) 0) S) (fun x11 S10 => fw_let (fw_wi S10 q 8 (fw_g S10 q 8 + 1)) fun S13 => F_Request_takeRows_l2 n q fr (nI i + 2) S13) = F_Request_takeRows_l2 n q fr (nI (i + 2)) (fw_wi S1 q 8 (f 8 + 1)) := by
        rw [p1]
        simp only [fw_b2, fw_let]
        rw [e8, show (2 : Int32) = nI 2 from rfl, nI_add]
      rw [hcall]
      by_cases hle : i + 2 ≤ bs.length
      · obtain ⟨S2, p2, q2, s2, g2⟩ := ih (i + 2) _ _ _ h'' hF' hle (by omega)
        refine ⟨S2, p2, ?_, sm_tr s1 s2, fun a ha => by rw [g2 a ha, fw_g_wi_ne (by omega), g1 a (by omega)]⟩
        rw [hgo]
        rw [va_up_self] at q2
        have e1 : va_up (va_up f 8 (f 8 + 1)) 8 (f 8 + 1 + nI (sPairs (List.drop (i + 2) bs)).length) = va_up f 8 (f 8 + nI ((bs.getD i 0, bs.getD (i + 1) 0) :: sPairs (List.drop (i + 2) bs)).length) := by
          have e0 : nI ((sPairs (List.drop (i + 2) bs)).length + 1) = 1 + nI (sPairs (List.drop (i + 2) bs)).length := by rw [nI_succ, Int32.add_comm]
          rw [bx_uu, List.length_cons, e0, Int32.add_assoc]
        rw [e1] at q2
        exact q2
      · omega
    · rw [if_pos (nI_le (by omega) (by omega))]
      have hgo : sPairs (bs.drop i) = [] := by
        by_cases hi : i < bs.length
        · rw [List.drop_eq_getElem_cons hi, List.drop_eq_nil_of_le (by omega)]
          rfl
        · rw [List.drop_eq_nil_of_le (by omega)]
          rfl
      refine ⟨S, rfl, ?_, rfl, fun _ _ => rfl⟩
      rw [hgo, show f 8 + nI ([] : sPs).length = f 8 by simp [nI], up_id]
      exact h
theorem RqX.take (h : RqX S q r f B K R LB) {fr : Nat} {kind num : Int32} {bs : List Int32} (hF : FrX S fr kind num bs) (hd : fr + 2 ≤ q ∨ q + 10 ≤ fr) (h2 : 2 ≤ bs.length) : ∃ S', F_Request_takeRows q fr S = some S' ∧ RqX S' q r (va_up f 8 (f 8 + nI (sPairs (bs.drop 2)).length)) B K ((sPairs (bs.drop 2)).foldl sAdd R) LB ∧ sm S S' ∧ ∀ a, (a < q ∨ q + 10 ≤ a) → fw_g S' a = fw_g S a :=
  RqX.takeL hd 4096 2 S f R h hF h2 (by have := hF.2.2.2.2.2.1; omega)
end RQ2
