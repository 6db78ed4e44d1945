/-! Blocks that stay; lines; the serving end of the class. -/
def sam (S S' : fw_S) (lo n : Nat) : Prop := ∀ a, lo ≤ a → a < lo + n → fw_g S' a = fw_g S a ∧ fw_r S' a = fw_r S a ∧ fw_l S' a = fw_l S a
theorem sam.of {S S' : fw_S} (hs : sm S S') {lo n : Nat} (hg : ∀ a, lo ≤ a → a < lo + n → fw_g S' a = fw_g S a) : sam S S' lo n := fun a h1 h2 => ⟨hg a h1 h2, sm_r hs a, sm_l hs a⟩
theorem sam.tr {S S' S'' : fw_S} {lo n : Nat} (h : sam S S' lo n) (h' : sam S' S'' lo n) : sam S S'' lo n := fun a h1 h2 => ⟨(h' a h1 h2).1.trans (h a h1 h2).1, (h' a h1 h2).2.1.trans (h a h1 h2).2.1, (h' a h1 h2).2.2.trans (h a h1 h2).2.2⟩
theorem sam.sub {S S' : fw_S} {lo n lo' n' : Nat} (h : sam S S' lo n) (h1 : lo ≤ lo') (h2 : lo' + n' ≤ lo + n) : sam S S' lo' n' := fun a h3 h4 => h a (by omega) (by omega)
theorem sam.rf {S : fw_S} {lo n : Nat} : sam S S lo n := fun _ _ _ => ⟨rfl, rfl, rfl⟩
theorem PrX.blk {S S' : fw_S} {p cap : Nat} {l : sPs} (h : PrX S p cap l) (hs : sam S S' p 3) : PrX S' p cap l := by
  obtain ⟨h0, h1, l1, l2, hc, hn, hl, hd⟩ := h
  have a0 := hs p (by omega) (by omega)
  have a1 := hs (p + 1) (by omega) (by omega)
  have a2 := hs (p + 2) (by omega) (by omega)
  refine ⟨by rw [a0.2.1]; exact h0, by rw [a0.2.1]; exact h1, by rw [a1.2.2]; exact l1, by rw [a2.2.2]; exact l2, hc, by rw [a0.1]; exact hn, hl, fun i q hq => ?_⟩
  rw [a1.1, a2.1]
  exact hd i q hq
theorem FrX.blk {S S' : fw_S} {f : Nat} {kind num : Int32} {bs : List Int32} (h : FrX S f kind num bs) (hs : sam S S' f 2) : FrX S' f kind num bs := by
  obtain ⟨r, l, a, b, c, d, e⟩ := h
  have a0 := hs f (by omega) (by omega)
  have a1 := hs (f + 1) (by omega) (by omega)
  refine ⟨by rw [a0.2.1]; exact r, by rw [a1.2.2]; exact l, by rw [a0.1]; exact a, by rw [a0.1]; exact b, by rw [a0.1]; exact c, d, fun i x hx => ?_⟩
  rw [a1.1]; exact e i x hx
def LnX (S : fw_S) (w : Nat) (up : Int32) (out o : List Int32) : Prop := fw_g S w 0 = up ∧ QuX S w out ∧ OpX S w o
theorem LnX.blk {S S' : fw_S} {w : Nat} {up : Int32} {out o : List Int32} (h : LnX S w up out o) (hs : sam S S' w 4) : LnX S' w up out o := by
  obtain ⟨u, ⟨r, l, ⟨f, hf, a, b⟩, c, d⟩, ⟨o1, o2, o3, o4, o5, o6⟩⟩ := h
  have a0 := hs w (by omega) (by omega)
  have a1 := hs (w + 1) (by omega) (by omega)
  have a2 := hs (w + 2) (by omega) (by omega)
  have a3 := hs (w + 3) (by omega) (by omega)
  exact ⟨by rw [a0.1]; exact u, ⟨by rw [a0.2.1]; exact r, by rw [a1.2.2]; exact l, ⟨f, hf, by rw [a0.1]; exact a, fun j x hx => by rw [a1.1]; exact b j x hx⟩, by rw [a0.1]; exact c, d⟩, ⟨by rw [a0.2.1]; exact o1, by rw [a2.2.1]; exact o2, by rw [a3.2.2]; exact o3, by rw [a0.1]; exact o4, fun q => by rw [a0.1]; exact o5 q, fun q => (o6 q).blk (hs.sub (by omega) (by omega))⟩⟩
theorem RqX.blk {S S' : fw_S} {q r : Nat} {f : Nat → Int32} {B R : sPs} {K LB : List Int32} (h : RqX S q r f B K R LB) (hs : sam S S' q 10) : RqX S' q r f B K R LB := by
  obtain ⟨⟨r3, r4, r7, r9, l9⟩, hk, h10, h5, hb, hkb, hks, hB, hR, hF⟩ := h
  have a0 := hs q (by omega) (by omega)
  have a9 := hs (q + 9) (by omega) (by omega)
  exact ⟨⟨by rw [a0.2.1]; exact r3, by rw [a0.2.1]; exact r4, by rw [a0.2.1]; exact r7, by rw [a0.2.1]; exact r9, by rw [a9.2.2]; exact l9⟩, fun k m => by rw [a0.1]; exact hk k m, by rw [a0.1]; exact h10, by rw [a0.1]; exact h5, hb, hkb, fun i k m => by rw [a9.1]; exact hks i k m, hB.blk (hs.sub (by omega) (by omega)), hR.blk (hs.sub (by omega) (by omega)), hF.blk (hs.sub (by omega) (by omega))⟩
abbrev sM : Type := Int32 × Int32 × Int32 × sPs
def MmX (S : fw_S) (a : Nat) (m : sM) : Prop := fw_r S a 3 = some (a + 1) ∧ fw_g S a 0 = m.1 ∧ fw_g S a 1 = m.2.1 ∧ fw_g S a 2 = m.2.2.1 ∧ PrX S (a + 1) 60 m.2.2.2
theorem MmX.blk {S S' : fw_S} {a : Nat} {m : sM} (h : MmX S a m) (hs : sam S S' a 4) : MmX S' a m := by
  obtain ⟨h1, h2, h3, h4, h5⟩ := h
  have a0 := hs a (by omega) (by omega)
  exact ⟨by rw [a0.2.1]; exact h1, by rw [a0.1]; exact h2, by rw [a0.1]; exact h3, by rw [a0.1]; exact h4, h5.blk (hs.sub (by omega) (by omega))⟩
/-- the serving end at e: facts at e + 1, the row of memories at e + 4, its answer at e + 5, eight memories from e + 7 on, in the order p -/
def SvX (S : fw_S) (e : Nat) (p : Nat → Nat) (fa : sPs) (ms : List sM) : Prop :=
  (fw_r S e 0 = some (e + 1) ∧ fw_r S e 1 = some (e + 4) ∧ fw_r S e 4 = some (e + 5) ∧ fw_l S (e + 4) = 8) ∧ PrX S (e + 1) 60 fa ∧
  (∀ i, i < 8 → fw_r S (e + 4) i = some (e + 7 + 4 * p i) ∧ p i < 8) ∧ (∀ i j, i < 8 → j < 8 → p i = p j → i = j) ∧ (∀ i, i < 8 → ∃ m, MmX S (e + 7 + 4 * i) m) ∧
  fw_g S e 2 = nI ms.length ∧ ms.length ≤ 8 ∧ (∀ (i : Nat) (m : sM), ms[i]? = some m → MmX S (e + 7 + 4 * p i) m) ∧ ∃ k n bs, FrX S (e + 5) k n bs
section SV
variable {S : fw_S} {e : Nat} {p : Nat → Nat} {fa : sPs} {ms : List sM}
theorem SvX.memAt (h : SvX S e p fa ms) {i : Nat} (hi : i < ms.length) : F_ServingEnd_memoryAt e (nI i) S = some (some (e + 7 + 4 * p i)) := by
  obtain ⟨⟨r0, r1, r4, l4⟩, hf, hp, hj, hm, hn, hl, hms, hF⟩ := h
  unfold F_ServingEnd_memoryAt
  have e1 : ¬ nI i < 0 := nI_pos (by omega)
  have e2 : ¬ nI ms.length ≤ nI i := nI_ge hi (by omega)
  have e3 : ¬ nI 8 ≤ nI i := nI_ge (by omega) (by omega)
  have e4 : (nI i).toNatClampNeg = i := nI_clamp (by omega)
  have e5 : ¬ 8 ≤ i := by omega
  simp only [fw_om, hn, r1, l4, e1, e2, e3, e4, e5, if_false, or_self, (hp i (by omega)).1]
theorem SvX.memNo (h : SvX S e p fa ms) : F_ServingEnd_memoryAt e (-2) S = some none := by
  unfold F_ServingEnd_memoryAt
  rw [if_pos (by decide)]
def sPlace (ms : List sM) (n : Int32) : Option Nat := ms.findIdx? (fun m => decide (m.1 = n))
theorem SvX.placeL (h : SvX S e p fa ms) (x : Int32) : ∀ (n i : Nat), i ≤ ms.length → ms.length < i + n → F_ServingEnd_placeOf_l2 S n e x (nI i) = some (match sPlace (ms.drop i) x with | some j => nI (i + j) | none => -2) := by
  have hAt := fun {i} hi => h.memAt (i := i) hi
  obtain ⟨⟨r0, r1, r4, l4⟩, hf, hp, hj, hm, hn, hl, hms, hF⟩ := h
  intro n
  induction n with
  | zero => intro i h1 h2; omega
  | succ n ih =>
    intro i h1 h2
    rw [F_ServingEnd_placeOf_l2, hn]
    by_cases hlt : i < ms.length
    · rw [if_neg (nI_ge hlt (by omega)), hAt hlt, Option.bind_some]
      simp only [fw_om]
      rw [(hms i ms[i] (List.getElem?_eq_getElem hlt)).2.1, List.drop_eq_getElem_cons hlt, nI_1]
      unfold sPlace
      rw [List.findIdx?_cons]
      by_cases hc : ms[i].1 = x
      · rw [if_pos hc]
        simp [hc]
      · rw [if_neg hc, ih (i + 1) (by omega) (by omega)]
        unfold sPlace
        simp only [hc, decide_false]
        cases List.findIdx? (fun m => decide (m.fst = x)) (List.drop (i + 1) ms) with
        | none => rfl
        | some j => simp; congr 1; omega
    · rw [if_pos (nI_le (by omega) (by omega)), List.drop_eq_nil_of_le (by omega)]
      rfl
theorem SvX.place (h : SvX S e p fa ms) (x : Int32) : F_ServingEnd_placeOf e x S = some (match sPlace ms x with | some j => nI j | none => -2) := by
  have hl := h.2.2.2.2.2.2.1
  have := h.placeL x 4096 0 (Nat.zero_le _) (by omega)
  unfold F_ServingEnd_placeOf
  rw [show (0 : Int32) = nI 0 from rfl, this, List.drop_zero]
  cases sPlace ms x with
  | none => rfl
  | some j => simp
theorem sPlace_lt {ms : List sM} {n : Int32} {i : Nat} (h : sPlace ms n = some i) : i < ms.length ∧ ∃ m, ms[i]? = some m ∧ m.1 = n := by
  unfold sPlace at h
  obtain ⟨h1, h2, -⟩ := List.findIdx?_eq_some_iff_getElem.mp h
  exact ⟨h1, ms[i], List.getElem?_eq_getElem h1, by simpa using h2⟩
/-- the row of memories is turned: from place i on to the left, the memory a last -/
theorem SvX.turnL {a N : Nat} (hN1 : 1 ≤ N) (hN : N ≤ 8) : ∀ (n i : Nat) (S : fw_S), fw_r S e 1 = some (e + 4) → fw_l S (e + 4) = 8 → fw_g S e 2 = nI N → (∀ k, k < 8 → ∃ b, fw_r S (e + 4) k = some b) → i + 1 ≤ N → N < i + 1 + n →
    ∃ S', F_ServingEnd_memoryFor_l45x n e a (nI i) S = some (some a, S') ∧ S'.1 = S.1 ∧ (∀ b, b ≠ e + 4 → fw_r S' b = fw_r S b) ∧ (∀ b, fw_l S' b = fw_l S b) ∧ fw_z S' = fw_z S ∧ ∀ k, fw_r S' (e + 4) k = if k < i then fw_r S (e + 4) k else if k + 1 < N then fw_r S (e + 4) (k + 1) else if k + 1 = N then some a else fw_r S (e + 4) k := by
  intro n
  induction n with
  | zero => intro i S h1 h2 h3 h4 h5 h6; omega
  | succ n ih =>
    intro i S h1 h2 h3 h4 h5 h6
    rw [F_ServingEnd_memoryFor_l45x, h3, nI_1]
    by_cases hlt : i + 1 < N
    · obtain ⟨b, hb⟩ := h4 (i + 1) (by omega)
      have e1 : ¬ nI N ≤ nI (i + 1) := nI_ge hlt (by omega)
      have e2 : ¬ nI 8 ≤ nI (i + 1) := nI_ge (by omega) (by omega)
      have e3 : ¬ nI (i + 1) < 0 := nI_pos (by omega)
      have e3' : ¬ nI i < 0 := nI_pos (by omega)
      have e4 : (nI (i + 1)).toNatClampNeg = i + 1 := nI_clamp (by omega)
      have e4' : (nI i).toNatClampNeg = i := nI_clamp (by omega)
      have e5 : ¬ 8 ≤ i + 1 := by omega
      have e5' : ¬ 8 ≤ i := by omega
      simp only [fw_om, fw_let, h1, h2, e1, e2, e3, e3', e4, e4', e5, e5', if_false, or_self, hb]
      obtain ⟨S2, p2, q2, r2, l2, z2, k2⟩ := ih (i + 1) (fw_wr S (e + 4) i (some b)) (by rw [fw_r_wr_ne (by omega)]; exact h1) h2 h3 (fun k hk => by
        rw [fw_r_wr]
        by_cases hc : e + 4 = e + 4 ∧ k = i
        · exact ⟨b, if_pos hc⟩
        · rw [if_neg hc]; exact h4 k hk) (by omega) (by omega)
      refine ⟨S2, p2, q2, fun c hc => by rw [r2 c hc, fw_r_wr_ne hc], l2, z2, fun k => ?_⟩
      rw [k2 k]
      simp only [fw_r_wr]
      by_cases c1 : k < i
      · rw [if_pos (by omega), if_pos c1, if_neg (by omega)]
      · by_cases c2 : k = i
        · subst c2
          simp [hlt, hb]
        · rw [if_neg (show ¬ k < i + 1 by omega), if_neg c1]
          simp [c2, show ¬ k + 1 = i by omega]
    · have hiN : i + 1 = N := by omega
      have e1 : nI N ≤ nI (i + 1) := nI_le (by omega) (by omega)
      rw [if_pos e1]
      unfold F_ServingEnd_memoryFor_j90x
      have e0 : nI N - 1 = nI i := by rw [← hiN]; exact nI_pred i
      have e2 : ¬ nI 8 ≤ nI i := nI_ge (by omega) (by omega)
      have e3 : ¬ nI i < 0 := nI_pos (by omega)
      have e4 : (nI i).toNatClampNeg = i := nI_clamp (by omega)
      have e5 : ¬ 8 ≤ i := by omega
      simp only [fw_om, fw_let, h1, h2, h3, e0, e2, e3, e4, e5, if_false, or_self]
      refine ⟨_, rfl, rfl, fun c hc => fw_r_wr_ne hc, fun _ => rfl, rfl, fun k => ?_⟩
      rw [fw_r_wr]
      by_cases c1 : k < i
      · rw [if_neg (by omega), if_pos c1]
      · by_cases c2 : k = i
        · subst c2
          rw [if_pos ⟨rfl, rfl⟩, if_neg c1, if_neg (by omega), if_pos hiN]
        · rw [if_neg (by omega), if_neg c1, if_neg (by omega), if_neg (by omega)]
end SV
