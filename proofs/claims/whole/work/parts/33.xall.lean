/-! The whole class at x: what its cells are for a state. S0: the store since which the reference's cells (x + 67 .. x + 106) are as they were. -/
def ShX (S : fw_S) (x : Nat) : Prop :=
  fw_r S x 0 = some (x + 1) ∧ fw_r S x 1 = some (x + 2) ∧ fw_r S x 3 = some (x + 3) ∧ fw_r S x 4 = some (x + 6) ∧ fw_r S x 5 = some (x + 45) ∧ fw_r S x 6 = some (x + 46) ∧ fw_l S (x + 1) = 5 ∧ fw_l S (x + 2) = 24 ∧ fw_l S (x + 45) = 4 ∧ fw_l S (x + 46) = 4 ∧ ∀ i, i < 5 → fw_r S (x + 1) i = some (x + 47 + 4 * i)
def ScX (S : fw_S) (x : Nat) (c : Nat → Int32) : Prop := fw_g S x 7 = c 0 ∧ fw_g S x 8 = c 1 ∧ fw_g S x 9 = c 2 ∧ fw_g S x 10 = c 3 ∧ fw_g S x 11 = c 4 ∧ fw_g S x 12 = c 5
def RsX (S : fw_S) (x : Nat) (q : Nat → Nat) (n : Nat) (d : Nat → sR) : Prop :=
  fw_g S x 2 = nI n ∧ n ≤ 24 ∧ (∀ r, r < n → fw_r S (x + 2) r = some (q r) ∧ x + 107 ≤ q r ∧ q r + 10 ≤ fw_z S ∧ RqX S (q r) r (d r).1 (d r).2.1 (d r).2.2.1 (d r).2.2.2.1 (d r).2.2.2.2) ∧ (∀ r s, r < n → s < n → r ≠ s → q r + 10 ≤ q s ∨ q s + 10 ≤ q r) ∧ x + 107 ≤ fw_z S
def RX (S0 S : fw_S) (x : Nat) (q p : Nat → Nat) (g : sG) : Prop :=
  sam S0 S (x + 67) 40 ∧ ShX S x ∧ ScX S x (gc g) ∧ (∀ i, i < 5 → LnX S (x + 47 + 4 * i) (gl g i).1 (gl g i).2.1 (gl g i).2.2) ∧ RsX S x q (gn g) (gq g) ∧ PrX S (x + 3) 20 (gb g) ∧ (SvX S (x + 6) p (gf g) (gm g) ∧ fw_g S (x + 6) 3 = gc g 6) ∧ ∀ i, i < 4 → fw_g S (x + 45) i = ge g i ∧ fw_g S (x + 46) i = gd g i
theorem ShX.blk {S S' : fw_S} {x : Nat} (h : ShX S x) (h1 : fw_r S' x = fw_r S x) (h2 : fw_r S' (x + 1) = fw_r S (x + 1)) (hl : ∀ a, x ≤ a → a < x + 67 → fw_l S' a = fw_l S a) : ShX S' x := by
  obtain ⟨a, b, c, d, e, f, l1, l2, l3, l4, w⟩ := h
  exact ⟨by rw [h1]; exact a, by rw [h1]; exact b, by rw [h1]; exact c, by rw [h1]; exact d, by rw [h1]; exact e, by rw [h1]; exact f, by rw [hl _ (by omega) (by omega)]; exact l1, by rw [hl _ (by omega) (by omega)]; exact l2, by rw [hl _ (by omega) (by omega)]; exact l3, by rw [hl _ (by omega) (by omega)]; exact l4, fun i hi => by rw [h2]; exact w i hi⟩
theorem ScX.blk {S S' : fw_S} {x : Nat} {c : Nat → Int32} (h : ScX S x c) (h1 : fw_g S' x = fw_g S x) : ScX S' x c := by
  obtain ⟨a, b, d, e, f, g⟩ := h
  exact ⟨by rw [h1]; exact a, by rw [h1]; exact b, by rw [h1]; exact d, by rw [h1]; exact e, by rw [h1]; exact f, by rw [h1]; exact g⟩
section XA
variable {S0 S S' : fw_S} {x : Nat} {q p p' : Nat → Nat} {g : sG}
theorem RsX.blk {n : Nat} {d : Nat → sR} (h : RsX S x q n d) (hx : fw_g S' x 2 = fw_g S x 2) (h2 : fw_r S' (x + 2) = fw_r S (x + 2)) (hz : fw_z S ≤ fw_z S') (hq : ∀ r, r < n → sam S S' (q r) 10) : RsX S' x q n d := by
  obtain ⟨a, b, c, e⟩ := h
  refine ⟨by rw [hx]; exact a, b, fun r hr => ?_, e.1, Nat.le_trans e.2 hz⟩
  obtain ⟨c1, c2, c3, c4⟩ := c r hr
  exact ⟨by rw [h2]; exact c1, c2, by omega, c4.blk (hq r hr)⟩
theorem SvX.blk {e : Nat} {fa : sPs} {ms : List sM} (h : SvX S e p fa ms) (hs : sam S S' e 39) : SvX S' e p fa ms := by
  obtain ⟨⟨r0, r1, r4, l4⟩, hf, hp, hj, hme, hn, hl, hms, k, n, bs, hF⟩ := h
  have he := hs e (by omega) (by omega)
  refine ⟨⟨by rw [he.2.1]; exact r0, by rw [he.2.1]; exact r1, by rw [he.2.1]; exact r4, by rw [(hs _ (by omega) (by omega)).2.2]; exact l4⟩, hf.blk (hs.sub (by omega) (by omega)), fun j hj8 => by rw [(hs _ (by omega) (by omega)).2.1]; exact hp j hj8, hj, fun j hj8 => ?_, by rw [he.1]; exact hn, hl, fun j m hjm => ?_, k, n, bs, hF.blk (hs.sub (by omega) (by omega))⟩
  · obtain ⟨m, hm⟩ := hme j hj8
    exact ⟨m, hm.blk (hs.sub (by omega) (by omega))⟩
  · have hjl := (List.getElem?_eq_some_iff.mp hjm).1
    have := (hp j (by omega)).2
    exact (hms j m hjm).blk (hs.sub (by omega) (by omega))
/-- one line is changed -/
theorem RX.line (h : RX S0 S x q p g) {i : Nat} (hi : i < 5) {l : sL} (ho : ot (x + 47 + 4 * i) 4 S S') (hL : LnX S' (x + 47 + 4 * i) l.1 l.2.1 l.2.2) : RX S0 S' x q p (pl g i l) := by
  obtain ⟨h0, hsh, hsc, hln, hrs, hnx, ⟨hsv, hrp⟩, hes⟩ := h
  have hx := ho.1 x (by omega)
  have hx1 := ho.1 (x + 1) (by omega)
  have hx2 := ho.1 (x + 2) (by omega)
  have hr6 := ho.1 (x + 6) (by omega)
  refine ⟨h0.tr (ho.sam (by omega)), ?_, hsc.blk hx.1, fun j hj => ?_, hrs.blk (by rw [hx.1]) hx2.2.1 (by rw [ho.2]; exact Nat.le_refl _) (fun r hr => ho.sam (by have := (hrs.2.2.1 r hr).2.1; omega)), hnx.blk (ho.sam (by omega)), ⟨?_, by rw [hr6.1]; exact hrp⟩, fun j hj => ?_⟩
  · obtain ⟨a, b, c, d, e, f, l1, l2, l3, l4, w⟩ := hsh
    exact ⟨by rw [hx.2.1]; exact a, by rw [hx.2.1]; exact b, by rw [hx.2.1]; exact c, by rw [hx.2.1]; exact d, by rw [hx.2.1]; exact e, by rw [hx.2.1]; exact f, by rw [hx1.2.2]; exact l1, by rw [hx2.2.2]; exact l2, by rw [(ho.1 (x + 45) (by omega)).2.2]; exact l3, by rw [(ho.1 (x + 46) (by omega)).2.2]; exact l4, fun i hi => by rw [hx1.2.1]; exact w i hi⟩
  · show LnX S' _ (va_up (gl g) i l j).1 (va_up (gl g) i l j).2.1 (va_up (gl g) i l j).2.2
    by_cases hc : j = i
    · subst hc; rw [va_up_self]; exact hL
    · rw [va_up_ne _ _ hc]; exact (hln j hj).blk (ho.sam (by omega))
  · exact hsv.blk (ho.sam (by omega))
  · rw [(ho.1 (x + 45) (by omega)).1, (ho.1 (x + 46) (by omega)).1]; exact hes j hj
/-- one request is changed -/
theorem RX.req (h : RX S0 S x q p g) {r : Nat} (hr : r < gn g) {d : sR} (ho : ot (q r) 10 S S') (hR : RqX S' (q r) r d.1 d.2.1 d.2.2.1 d.2.2.2.1 d.2.2.2.2) : RX S0 S' x q p (pq g r d) := by
  obtain ⟨h0, hsh, hsc, hln, hrs, hnx, ⟨hsv, hrp⟩, hes⟩ := h
  have hq := hrs.2.2.1 r hr
  have hx := ho.1 x (by omega)
  refine ⟨h0.tr (ho.sam (by omega)), hsh.blk hx.2.1 (ho.1 (x + 1) (by omega)).2.1 (fun a _ _ => (ho.1 a (by omega)).2.2), hsc.blk hx.1, fun j hj => (hln j hj).blk (ho.sam (by omega)), ?_, hnx.blk (ho.sam (by omega)), ⟨hsv.blk (ho.sam (by omega)), by rw [(ho.1 (x + 6) (by omega)).1]; exact hrp⟩, fun j hj => by rw [(ho.1 (x + 45) (by omega)).1, (ho.1 (x + 46) (by omega)).1]; exact hes j hj⟩
  obtain ⟨a, b, c, e⟩ := hrs
  refine ⟨by rw [hx.1]; exact a, b, fun s hs => ?_, e.1, by rw [ho.2]; exact e.2⟩
  obtain ⟨c1, c2, c3, c4⟩ := c s hs
  refine ⟨by rw [(ho.1 (x + 2) (by omega)).2.1]; exact c1, c2, by rw [ho.2]; exact c3, ?_⟩
  show RqX S' (q s) s (va_up (gq g) r d s).1 (va_up (gq g) r d s).2.1 (va_up (gq g) r d s).2.2.1 (va_up (gq g) r d s).2.2.2.1 (va_up (gq g) r d s).2.2.2.2
  by_cases hc : s = r
  · subst hc; rw [va_up_self]; exact hR
  · rw [va_up_ne _ _ hc]
    exact c4.blk (ho.sam (by have := e.1 s r hs hr hc; omega))
/-- a number of the class itself is changed -/
theorem RX.num (h : RX S0 S x q p g) (k : Nat) (hk : k < 6) (v : Int32) : RX S0 (fw_wi S x (7 + k) v) x q p (pc g k v) := by
  obtain ⟨h0, hsh, hsc, hln, hrs, hnx, ⟨hsv, hrp⟩, hes⟩ := h
  have ho : ot x 1 S (fw_wi S x (7 + k) v) := ot.of sm_wi (fun a ha => fw_g_wi_ne (by omega))
  refine ⟨h0.tr (ho.sam (by omega)), hsh, ?_, fun j hj => (hln j hj).blk (ho.sam (by omega)), hrs.blk (g_k (by omega)) rfl (Nat.le_refl _) (fun r hr => ho.sam (by have := (hrs.2.2.1 r hr).2.1; omega)), hnx.blk (ho.sam (by omega)), ⟨hsv.blk (ho.sam (by omega)), ?_⟩, fun j hj => by rw [(ho.1 (x + 45) (by omega)).1, (ho.1 (x + 46) (by omega)).1]; exact hes j hj⟩
  · have key : ∀ j, fw_g S x (7 + j) = gc g j → fw_g (fw_wi S x (7 + k) v) x (7 + j) = va_up (gc g) k v j := by
      intro j hj
      by_cases hc : j = k
      · subst hc; rw [g_s, va_up_self]
      · rw [g_k (by omega), va_up_ne _ _ hc]; exact hj
    exact ⟨key 0 hsc.1, key 1 hsc.2.1, key 2 hsc.2.2.1, key 3 hsc.2.2.2.1, key 4 hsc.2.2.2.2.1, key 5 hsc.2.2.2.2.2⟩
  · show _ = va_up (gc g) k v 6
    rw [g_a (by omega), va_up_ne _ _ (by omega)]; exact hrp
/-- the serving end is changed -/
theorem RX.serv (h : RX S0 S x q p g) {ms : List sM} {v : Int32} (ho : ot (x + 6) 39 S S') (hv : SvX S' (x + 6) p' (gf g) ms) (hr : fw_g S' (x + 6) 3 = v) : RX S0 S' x q p' (pc (pm g ms) 6 v) := by
  obtain ⟨h0, hsh, hsc, hln, hrs, hnx, ⟨hsv, hrp⟩, hes⟩ := h
  have hx := ho.1 x (by omega)
  refine ⟨h0.tr (ho.sam (by omega)), ?_, ?_, fun j hj => (hln j hj).blk (ho.sam (by omega)), hrs.blk (by rw [hx.1]) (ho.1 (x + 2) (by omega)).2.1 (by rw [ho.2]; exact Nat.le_refl _) (fun r hr => ho.sam (by have := (hrs.2.2.1 r hr).2.1; omega)), hnx.blk (ho.sam (by omega)), ⟨hv, by rw [hr]; show v = va_up (gc (pm g ms)) 6 v 6; exact (va_up_self _ _ _).symm⟩, fun j hj => by rw [(ho.1 (x + 45) (by omega)).1, (ho.1 (x + 46) (by omega)).1]; exact hes j hj⟩
  · obtain ⟨a, b, c, d, e, f, l1, l2, l3, l4, w⟩ := hsh
    have hx1 := ho.1 (x + 1) (by omega)
    exact ⟨by rw [hx.2.1]; exact a, by rw [hx.2.1]; exact b, by rw [hx.2.1]; exact c, by rw [hx.2.1]; exact d, by rw [hx.2.1]; exact e, by rw [hx.2.1]; exact f, by rw [hx1.2.2]; exact l1, by rw [(ho.1 (x + 2) (by omega)).2.2]; exact l2, by rw [(ho.1 (x + 45) (by omega)).2.2]; exact l3, by rw [(ho.1 (x + 46) (by omega)).2.2]; exact l4, fun i hi => by rw [hx1.2.1]; exact w i hi⟩
  · obtain ⟨a, b, c, d, e, f⟩ := hsc
    exact ⟨by rw [hx.1]; exact a, by rw [hx.1]; exact b, by rw [hx.1]; exact c, by rw [hx.1]; exact d, by rw [hx.1]; exact e, by rw [hx.1]; exact f⟩
end XA
