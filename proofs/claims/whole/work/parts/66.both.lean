/-! Class and reference side by side: each leaves the other's cells alone. -/
section BO
variable {S0 S S' : fw_S} {x m : Nat} {q p : Nat → Nat} {g : sG} {B : Nat}
theorem RM.blk (h : RM S0 S m g) (hs : sam S S' m 40) : RM S' S' m g := by
  obtain ⟨h1, h2, h3, ⟨n1, n2, n3, n4⟩, h5, h6, h7, h8, -⟩ := h
  have key : ∀ a k, m ≤ a → a < m + 40 → fw_g S' a k = fw_g S a k := fun a k q1 q2 => by rw [(hs a q1 q2).1]
  refine ⟨⟨fun p hp => ?_, fun p hp => ?_⟩, h2.keep (fun a k q => key a k (by simp only [cS] at q; omega) (by simp only [cS] at q; omega)), fun i hi => (h3 i hi).keep (fun a k q => key a k (by simp only [cL] at q; omega) (by simp only [cL] at q; omega)), ⟨by rw [key m 14 (by omega) (by omega)]; exact n1, n2, fun r hr => (n3 r hr).keep (fun a k q => key a k (by simp only [cQ] at q; omega) (by simp only [cQ] at q; omega)), fun r q1 q2 => (n4 r q1 q2).keep (fun a k q => key a k (by simp only [cQ] at q; omega) (by simp only [cQ] at q; omega))⟩, h5.keep (key _ _ (by omega) (by omega)) (fun k => key _ _ (by omega) (by omega)) (fun k => key _ _ (by omega) (by omega)), h6.keep (key _ _ (by omega) (by omega)) (fun k => key _ _ (by omega) (by omega)) (fun k => key _ _ (by omega) (by omega)), h7.keep (fun a k q => key a k (by simp only [cM] at q; omega) (by simp only [cM] at q; omega)), fun i hi => ?_, df.rf⟩
  · rw [(hs m (by omega) (by omega)).2.1]; exact h1.1 p hp
  · have := mL_39 p hp
    rw [(hs _ (by omega) (by omega)).2.2]; exact h1.2 p hp
  · rw [key _ _ (by omega) (by omega), key _ _ (by omega) (by omega)]; exact h8 i hi
theorem RM.own (h : RM S0 S m g) : RM S S m g := h.blk (fun b _ _ => ⟨rfl, rfl, rfl⟩)
theorem RM.oth (h : RM S0 S m g) : ot m 40 S0 S := by
  obtain ⟨d1, d2⟩ : df S0 S (fun a _ => m ≤ a ∧ a < m + 40) := h.2.2.2.2.2.2.2.2
  exact ot.of d1 (fun a ha => funext (fun k => d2 a k (fun z => by omega)))
theorem RX.blk (h : RX S0 S x q p g) (ho : ot (x + 67) 40 S S') : RX S' S' x q p g := by
  obtain ⟨h0, hsh, hsc, hln, hrs, hnx, ⟨hsv, hrp⟩, hes⟩ := h
  have hx := ho.1 x (by omega)
  refine ⟨fun b _ _ => ⟨rfl, rfl, rfl⟩, hsh.blk hx.2.1 (ho.1 (x + 1) (by omega)).2.1 (fun a _ _ => (ho.1 a (by omega)).2.2), hsc.blk hx.1, fun j hj => (hln j hj).blk (ho.sam (by omega)), hrs.blk (by rw [hx.1]) (ho.1 (x + 2) (by omega)).2.1 (by rw [ho.2]; exact Nat.le_refl _) (fun r hr => ho.sam (by have := (hrs.2.2.1 r hr).2.1; omega)), hnx.blk (ho.sam (by omega)), ⟨hsv.blk (ho.sam (by omega)), by rw [(ho.1 (x + 6) (by omega)).1]; exact hrp⟩, fun j hj => by rw [(ho.1 (x + 45) (by omega)).1, (ho.1 (x + 46) (by omega)).1]; exact hes j hj⟩
/-- both stand for the same state, and the clock is at most B -/
def Go (S : fw_S) (x B : Nat) : Prop := ∃ q p g, RX S S x q p g ∧ RM S S (x + 67) g ∧ okG g ∧ okT g B
theorem Go.up {B' : Nat} (h : Go S x B) (hb : B ≤ B') : Go S x B' := by
  obtain ⟨q, p, g, a, b, c, d⟩ := h
  exact ⟨q, p, g, a, b, c, d.up hb⟩
theorem go_mid {S1 : fw_S} {q' p' : Nat → Nat} {g' : sG} (hM : RM S S (x + 67) g) (h1 : RX S S1 x q' p' g') : RM S1 S1 (x + 67) g := hM.blk h1.1
theorem go_end {S1 S2 : fw_S} {q' p' : Nat → Nat} {g' : sG} {B' : Nat} (h1 : RX S S1 x q' p' g') (h2 : RM S1 S2 (x + 67) g') (ho : okG g' ∧ okT g' B') : Go S2 x B' := ⟨q', p', g', h1.blk h2.oth, h2.own, ho.1, ho.2⟩
def Two (A : Option (Int32 × fw_S)) (C : fw_S → Option (Int32 × fw_S)) (x B : Nat) : Prop := ∃ v S1 S2, A = some (v, S1) ∧ C S1 = some (v, S2) ∧ Go S2 x B
theorem Go.upT (h : Go S x B) (v : Int32) : Two (F_FW_up x v S) (F_Mo_up (x + 67) v) x B := by
  obtain ⟨q, p, g, hX, hM, hok, ht⟩ := h
  obtain ⟨S1, e1, v1⟩ := hX.upA hok v
  obtain ⟨S2, e2, v2⟩ := (go_mid hM v1).upA hok v
  exact ⟨_, S1, S2, e1, e2, go_end v1 v2 (ok_up hok ht v)⟩
theorem Go.downT (h : Go S x B) (v : Int32) : Two (F_FW_down x v S) (F_Mo_down (x + 67) v) x B := by
  obtain ⟨q, p, g, hX, hM, hok, ht⟩ := h
  obtain ⟨S1, e1, v1⟩ := hX.downA v
  obtain ⟨S2, e2, v2⟩ := (go_mid hM v1).downA v
  exact ⟨_, S1, S2, e1, e2, go_end v1 v2 (ok_down hok ht v)⟩
theorem Go.setT (h : Go S x B) (v w : Int32) : Two (F_FW_setting x v w S) (F_Mo_setting (x + 67) v w) x B := by
  obtain ⟨q, p, g, hX, hM, hok, ht⟩ := h
  obtain ⟨S1, e1, v1⟩ := hX.setA v w
  obtain ⟨S2, e2, v2⟩ := (go_mid hM v1).setA v w
  exact ⟨_, S1, S2, e1, e2, go_end v1 v2 (ok_set hok ht v w)⟩
theorem Go.bindT (h : Go S x B) (v w : Int32) : Two (F_FW_bind x v w S) (F_Mo_bind (x + 67) v w) x B := by
  obtain ⟨q, p, g, hX, hM, hok, ht⟩ := h
  obtain ⟨S1, e1, v1⟩ := hX.bindA v w
  obtain ⟨S2, e2, v2⟩ := (go_mid hM v1).bindA v w
  exact ⟨_, S1, S2, e1, e2, go_end v1 v2 (ok_bind hok ht v w)⟩
theorem Go.askT (h : Go S x B) (v s : Int32) (hs : s = 0 ∨ s = 1) : Two (F_FW_ask x v s S) (F_Mo_ask (x + 67) v s) x B := by
  obtain ⟨q, p, g, hX, hM, hok, ht⟩ := h
  obtain ⟨S1, q', e1, v1⟩ := hX.askA hok v s hs
  obtain ⟨S2, e2, v2⟩ := (go_mid hM v1).askA hok v s hs
  exact ⟨_, S1, S2, e1, e2, go_end v1 v2 (ok_ask hok ht v s hs)⟩
theorem Go.octT (h : Go S x B) (v w : Int32) : Two (F_FW_octet x v w S) (F_Mo_octet (x + 67) v w) x B := by
  obtain ⟨q, p, g, hX, hM, hok, ht⟩ := h
  obtain ⟨S1, p', e1, v1⟩ := hX.octA hok v w
  obtain ⟨S2, e2, v2⟩ := (go_mid hM v1).octA hok v w
  exact ⟨_, S1, S2, e1, e2, go_end v1 v2 (ok_octet hok ht v w)⟩
theorem Go.outT (h : Go S x B) (v : Int32) : Two (F_FW_out x v S) (F_Mo_out (x + 67) v) x B := by
  obtain ⟨q, p, g, hX, hM, hok, ht⟩ := h
  obtain ⟨S1, e1, v1⟩ := hX.outA v
  obtain ⟨S2, e2, v2⟩ := (go_mid hM v1).outA v
  exact ⟨_, S1, S2, e1, e2, go_end v1 v2 (ok_out hok ht v)⟩
theorem Go.loopT (h : Go S x B) (v w : Int32) : Two (F_FW_loop x v w S) (F_Mo_loop (x + 67) v w) x B := by
  obtain ⟨q, p, g, hX, hM, hok, ht⟩ := h
  obtain ⟨S1, p', e1, v1⟩ := hX.loopC hok ht v w
  obtain ⟨S2, e2, v2⟩ := (go_mid hM v1).loopC hok ht v w
  exact ⟨_, S1, S2, e1, e2, go_end v1 v2 (ok_loop hok ht v w)⟩
theorem Go.tickT (h : Go S x B) (hB : B + 2000 < 2 ^ 31) (v : Int32) : Two (F_FW_tick x v S) (F_Mo_tick (x + 67) v) x (B + 1000) := by
  obtain ⟨q, p, g, hX, hM, hok, ht⟩ := h
  obtain ⟨S1, e1, v1⟩ := hX.tickA hok ht hB v
  obtain ⟨S2, e2, v2⟩ := (go_mid hM v1).tickA hok ht v
  exact ⟨_, S1, S2, e1, e2, go_end v1 v2 (ok_tick hok ht v)⟩
theorem Go.factT (h : Go S x B) (v w : Int32) : Two (F_FW_fact x v w S) (F_Mo_fact (x + 67) v w) x B := by
  obtain ⟨q, p, g, hX, hM, hok, ht⟩ := h
  obtain ⟨S1, e1, v1⟩ := hX.factA v w
  obtain ⟨S2, e2, v2⟩ := (go_mid hM v1).factA v w
  exact ⟨_, S1, S2, e1, e2, go_end v1 v2 (ok_fact hok ht v w)⟩
def Tel (A C : Option Int32) : Prop := ∃ v, A = some v ∧ C = some v
theorem Go.toldT (h : Go S x B) (v w : Int32) : Tel (F_FW_told x v w S) (F_Mo_told (x + 67) v w S) := by
  obtain ⟨q, p, g, hX, hM, hok, ht⟩ := h
  exact ⟨_, hX.told v w, hM.told hok v w⟩
theorem Go.rowT (h : Go S x B) (v i w : Int32) : Tel (F_FW_row x v i w S) (F_Mo_row (x + 67) v i w S) := by
  obtain ⟨q, p, g, hX, hM, hok, ht⟩ := h
  exact ⟨_, hX.rowA v i w, hM.rowA v i w⟩
theorem Go.joinT (h : Go S x B) (v i w : Int32) : Tel (F_FW_joined x v i w S) (F_Mo_joined (x + 67) v i w S) := by
  obtain ⟨q, p, g, hX, hM, hok, ht⟩ := h
  exact ⟨_, hX.joinA v i w, hM.joinA hok v i w⟩
theorem Go.estT (h : Go S x B) (v : Int32) : Tel (F_FW_estimate x v S) (F_Mo_estimate (x + 67) v S) := by
  obtain ⟨q, p, g, hX, hM, hok, ht⟩ := h
  exact ⟨_, hX.estA v, hM.estA v⟩
theorem Go.countT (h : Go S x B) (v : Int32) : Tel (F_FW_count x v S) (F_Mo_count (x + 67) v S) := by
  obtain ⟨q, p, g, hX, hM, hok, ht⟩ := h
  exact ⟨_, hX.countA v, hM.countA v⟩
theorem Go.lineT (h : Go S x B) (v w : Int32) : Tel (F_FW_line x v w S) (F_Mo_line (x + 67) v w S) := by
  obtain ⟨q, p, g, hX, hM, hok, ht⟩ := h
  exact ⟨_, hX.lineA v w, hM.lineA v w⟩
theorem two_fin {A : Option (Int32 × fw_S)} {C : fw_S → Option (Int32 × fw_S)} {K : fw_S → Option Int32} (h : Two A C x B) (hK : ∀ S', Go S' x B → K S' = some 1) : fw_b2 A (fun y S3 => fw_b2 (C S3) (fun y2 S7 => if y = y2 then K S7 else none)) = some 1 := by
  obtain ⟨v, S1, S2, e1, e2, hG⟩ := h
  rw [e1]
  simp only [fw_b2]
  rw [e2]
  simp only
  rw [if_pos trivial]
  exact hK S2 hG
theorem tel_fin {A C : Option Int32} {K : Option Int32} (h : Tel A C) (hK : K = some 1) : Option.bind A (fun y => Option.bind C (fun y2 => if y = y2 then K else none)) = some 1 := by
  obtain ⟨v, e1, e2⟩ := h
  rw [e1, e2, Option.bind_some, Option.bind_some, if_pos rfl]
  exact hK
end BO
