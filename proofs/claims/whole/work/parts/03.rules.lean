/-! The kit's rows over the abstract store. -/
def fw_C (G : fw_G) (own : String) (cc : ByteArray) (nL : Nat) (ret : Option FieldType) (p : Program) (s : State) (m : MethodId) (args : Array Value) (meth : Method) (c : Code) : Prop :=
  p.tables.exec = Jvm.exec ∧ c.code = cc ∧ c.maxLocals = nL ∧ s.vm.findClass own = some m.cls ∧ (∀ w ∈ fw_WS, w.before args s = true) ∧ meth.locks = false ∧ meth.sig.returnType = ret ∧ fw_K G s
-- a class of the tables
def fw_Cl (K : Nat) (Cn : String) (T : u_T) (N : Nat) : Prop :=
  fw_cl[K]? = some (Cn, T, N) ∧ (∀ w ∈ u_ws Cn T N, w ∈ fw_WS) ∧ N = (fw_ft K).length ∧ K < 100 ∧ (∃ ty0 : Nat → FieldType, ∀ j, j < N → parseFieldDescriptor (T j).2.2.1 = some (ty0 j)) ∧ (∀ a, a < N → ∀ b, b < N → a ≠ b → (T a).2.1 ≠ (T b).2.1) ∧ ∀ j, j < N → (T j).1 = Cn
-- a field's link: place idx of the pool of 'own' is field k of kind K, its type ty, final or not
def fw_F (own : String) (idx K k : Nat) (ty : FieldType) (fin : Bool) : Prop :=
  ∃ (Cn : String) (T : u_T) (N : Nat), fw_Cl K Cn T N ∧ k < N ∧ parseFieldDescriptor (T k).2.2.1 = some ty ∧ (T k).2.2.2 = fin ∧ (Cond.fieldLink own idx Cn (T k).2.1 (T k).2.2.1 ∈ fw_WS ∨ ∃ host, Cond.fieldLinkNest own idx Cn (T k).2.1 (T k).2.2.1 host ∈ fw_NS)
theorem fw_ifn {β : Type} {c : Prop} [Decidable c] {b : Option β} {y : β} (h : (if c then none else b) = some y) : ¬ c ∧ b = some y := by
  by_cases hc : c
  · rw [if_pos hc] at h; cases h
  · rw [if_neg hc] at h; exact ⟨hc, h⟩
theorem fw_ifp {β : Type} {c : Prop} [Decidable c] {b : Option β} {y : β} (h : (if c then b else none) = some y) : c ∧ b = some y := by
  by_cases hc : c
  · rw [if_pos hc] at h; exact ⟨hc, h⟩
  · rw [if_neg hc] at h; cases h
theorem fw_let_ex {α β : Type} {a : α} {f : α → β} {y : β} (h : fw_let a f = y) : ∃ x, x = a ∧ f x = y := ⟨a, rfl, h⟩
def fw_b2 {α β γ : Type} (o : Option (α × β)) (f : α → β → Option γ) : Option γ := match o with
  | none => none
  | some (x, s) => f x s
theorem fw_b2_ex {α β γ : Type} {o : Option (α × β)} {f : α → β → Option γ} {y : γ} (h : fw_b2 o f = some y) : ∃ x s, o = some (x, s) ∧ f x s = some y := by
  cases o with
  | none => cases h
  | some q => exact ⟨q.1, q.2, rfl, h⟩
theorem fw_tout {x : Int32} (lo hi : Int) (h : ∀ k : Int, lo ≤ k → k ≤ hi → x = Int32.ofInt k → False) : x.toInt < lo ∨ hi < x.toInt := by
  by_cases h1 : x.toInt < lo
  · exact Or.inl h1
  · by_cases h2 : hi < x.toInt
    · exact Or.inr h2
    · exact (h x.toInt (by omega) (by omega) (Int32.ofInt_toInt x).symm).elim
theorem fw_bd1 {n : Int32} {B : Nat} {b : Nat} (h : ¬ (n < 0 ∨ B < n.toNatClampNeg)) (hb : B * b ≤ 536870912 := by decide) : n.toNatClampNeg * b ≤ 536870912 := by
  have h1 : n.toNatClampNeg ≤ B := Nat.not_lt.mp (fun q => h (Or.inr q))
  exact Nat.le_trans (Nat.mul_le_mul_right b h1) hb
theorem fw_bd2 {n : Int32} {B s R : Nat} (h : ¬ (n < 0 ∨ B < n.toNatClampNeg)) (hb : s + B ≤ R) : s + n.toNatClampNeg ≤ R := by
  have h1 : n.toNatClampNeg ≤ B := Nat.not_lt.mp (fun q => h (Or.inr q))
  omega
theorem fw_bd3 {n : Int32} {B s : Nat} (h : ¬ (n < 0 ∨ B < n.toNatClampNeg)) : s + n.toNatClampNeg ≤ s + B := fw_bd2 h (Nat.le_refl _)
theorem fw_R.put {G : fw_G} {kd : Nat → Option Nat} {S S' : fw_S} {H H1 : Heap} {locs : List Loc} {a K i : Nat} (Rr : fw_R G kd S H locs) (hk : kd a = some K) (z : H1.size = H.size) (oq : ∀ q : Nat, q ≠ a → H1[q]? = H[q]?)
    (hS' : ∀ b, b ≠ a → fw_l S' b = fw_l S b ∧ fw_g S' b = fw_g S b ∧ fw_r S' b = fw_r S b) (hz : fw_z S' = fw_z S) (hW : fw_W kd S') (hat : va_at G.1 fw_cl (a, fw_cell G.2.1 K (fw_l S' a) (fw_g S' a) (fw_r S' a)) H1) : fw_R G kd S' H1 (locs ++ [⟨a, i⟩]) := by
  obtain ⟨r1, r2, r3, r4, r5, r6⟩ := Rr
  have hga := (r1 a K hk).1
  refine ⟨fun b K' hb => ?_, fun q hq => ?_, by rw [z]; exact r3, fun q hq => ?_, by rw [z, hz]; exact r5, hW⟩
  · by_cases hba : b = a
    · subst hba
      cases hk.symm.trans hb
      exact ⟨hga, hat⟩
    · obtain ⟨e1, e2, e3⟩ := hS' b hba
      rw [e1, e2, e3]
      exact ⟨(r1 b K' hb).1, (r1 b K' hb).2.kept (oq b hba)⟩
  · rw [oq q (by omega)]; exact r2 q hq
  · rcases List.mem_append.mp hq with h | h
    · exact r4 q h
    · rw [List.mem_singleton.mp h]; exact hga
theorem fw_W.wi {kd : Nat → Option Nat} {S : fw_S} {a k : Nat} {v : Int32} (h : fw_W kd S) : fw_W kd (fw_wi S a k v) := h
theorem fw_W.wr {kd : Nat → Option Nat} {S : fw_S} {a k K : Nat} {v : Option Nat} (h : fw_W kd S) (hk : kd a = some K) (hv : ∀ b, v = some b → ∀ K', fw_rt K k = some K' → kd b = some K') : fw_W kd (fw_wr S a k v) := by
  intro b Kb hb j x hx K' hK'
  rw [fw_r_wr] at hx
  by_cases hc : b = a ∧ j = k
  · rw [if_pos hc] at hx
    obtain ⟨rfl, rfl⟩ := hc
    cases hk.symm.trans hb
    exact hv x hx K' hK'
  · rw [if_neg hc] at hx
    exact h b Kb hb j x hx K' hK'
section FWR
variable {p : Program} {l : Launch} {e : Env} {Rm : Room} {s : State} {m : MethodId} {args : Array Value} {below : List Frame} {meth : Method} {c : Code} {H : Heap} {locs : List Loc} {cells slots : Nat} {Q : State → Prop} {G : fw_G} {own : String} {cc : ByteArray} {nL : Nat} {ret : Option FieldType} {kd : Nat → Option Nat} {S : fw_S} {pc : Nat} {ls : Array Slot} {rest : List Value} {a : Nat}
theorem fw_get (C : fw_C G own cc nL ret p s m args meth c) (Rr : fw_R G kd S H locs) {K k idx : Nat} {ty : FieldType} {fin : Bool} (F : fw_F own idx K k ty fin) (hk : kd a = some K) {v : Value} (hv : fw_fv K (fw_g S a) (fw_r S a) k = v) (hdg : decode cc pc = .ok (.getfield idx, 3))
    (kk : W p l e Rm s m args below meth c H locs cells slots Q (F0 m (pc + 3) ls (v :: rest))) : W p l e Rm s m args below meth c H locs cells slots Q (F0 m pc ls (.ref a :: rest)) := by
  obtain ⟨hx, hb, -, hown, hts, -, -, hK⟩ := C
  obtain ⟨Cn, T, N, ⟨hcl, hin, hN, hK1, -, -, hT⟩, hkN, -, -, hlk⟩ := F
  have hat := (Rr.1 a K hk).2
  have hP : va_P G.1 fw_cl [(a, .inr (K, fw_fl K (fw_g S a) (fw_r S a)))] H := by
    intro i q hi
    cases i with
    | zero => cases hi; simpa [fw_cell, hK1] using hat
    | succ i => simp at hi
  have hf : (fw_fl K (fw_g S a) (fw_r S a))[k]? = some v := by subst hv; simp [fw_fl, ← hN, hkN]
  have hTk := hT k hkN
  rcases hlk with h | ⟨host, h⟩
  · exact va_get hx hb hts hin hown hK.1 hP 0 rfl hcl k hkN (hts _ h) (fun x h9 => by rw [hTk] at h9; exact h9) hf hdg kk
  · exact va_getN hx hb hts hin hown hK.1 hP 0 rfl hcl k hkN (va_Nw.use rfl (hK.2.1 _ h)) (fun x h9 => by rw [hTk] at h9; exact h9) hf hdg kk
theorem fw_getr (C : fw_C G own cc nL ret p s m args meth c) (Rr : fw_R G kd S H locs) {K k K' idx : Nat} {ty : FieldType} {fin : Bool} (F : fw_F own idx K k ty fin) (hk : kd a = some K) (hv : fw_fv K (fw_g S a) (fw_r S a) k = va_rf (fw_r S a k)) (hrt : fw_rt K k = some K') (hdg : decode cc pc = .ok (.getfield idx, 3))
    (k0 : fw_r S a k = none → W p l e Rm s m args below meth c H locs cells slots Q (F0 m (pc + 3) ls (.null :: rest))) (k1 : ∀ b, fw_r S a k = some b → kd b = some K' → W p l e Rm s m args below meth c H locs cells slots Q (F0 m (pc + 3) ls (.ref b :: rest))) : W p l e Rm s m args below meth c H locs cells slots Q (F0 m pc ls (.ref a :: rest)) := by
  refine fw_get C Rr F hk hv hdg ?_
  cases hq : fw_r S a k with
  | none => exact k0 hq
  | some b => exact k1 b hq (Rr.2.2.2.2.2 a K hk k b hq K' hrt)
theorem fw_putG (C : fw_C G own cc nL ret p s m args meth c) (Rr : fw_R G kd S H locs) {K k idx : Nat} {ty : FieldType} {v : Value} (F : fw_F own idx K k ty false) (hk : kd a = some K) (hn : narrow ty v = v) (hfit : fits ty v = true) (S' : fw_S)
    (hset : (fw_fl K (fw_g S a) (fw_r S a)).set k v = fw_fl K (fw_g S' a) (fw_r S' a)) (hS' : ∀ b, b ≠ a → fw_l S' b = fw_l S b ∧ fw_g S' b = fw_g S b ∧ fw_r S' b = fw_r S b) (hz : fw_z S' = fw_z S) (hW : fw_W kd S') (hdg : decode cc pc = .ok (.putfield idx, 3))
    (kk : ∀ (H1 : Heap) (locs1 : List Loc), fw_R G kd S' H1 locs1 → W p l e Rm s m args below meth c H1 locs1 cells slots Q (F0 m (pc + 3) ls rest)) : W p l e Rm s m args below meth c H locs cells slots Q (F0 m pc ls (v :: .ref a :: rest)) := by
  obtain ⟨hx, hb, -, hown, hts, -, -, hK⟩ := C
  obtain ⟨Cn, T, N, ⟨hcl, hin, hN, hK1, ⟨ty0, hty⟩, hnm, hT⟩, hkN, hd, hfin, hlk⟩ := F
  have hat := (Rr.1 a K hk).2
  rw [show fw_cell G.2.1 K (fw_l S a) (fw_g S a) (fw_r S a) = .inr (K, fw_fl K (fw_g S a) (fw_r S a)) by simp [fw_cell, hK1]] at hat
  have hap := va_apart (own := own) hts hin ty0 hty hnm hK.1 hcl
  obtain ⟨r, h1, cell, q1, q2, q3, q4⟩ := hat
  have hr : r = (Cn, T, N) := Option.some.inj (h1.symm.trans hcl)
  subst hr
  obtain ⟨hS, hfc, kC, hkC, hkind⟩ := hK.1.1 K _ hcl
  obtain ⟨cf, kf, fi, f, hi, hsl⟩ := hS k hkN
  have hlay := hts _ (hin _ (u_in_lay hkN))
  unfold u_lay at hlay
  rw [if_neg (by rw [hfin]; decide)] at hlay
  have hst := (u_facts hfc hkC (u_lays hts hin hkN) hi).1
  have h6 := u_store hfc hkC hkind hlay hi hd hn hfit
  have hl : k < (fw_fl K (fw_g S a) (fw_r S a)).length := by simp [fw_fl, ← hN, hkN]
  have hTk := hT k hkN
  have hi2 : s.fieldFound? Cn (T k).2.1 (T k).2.2.1 = some (cf, kf, fi, f) := by rw [hTk] at hi; exact hi
  have done : ∀ H' : Heap, H'[a]? = some (cell.setSlot f.slot v) → H'.size = H.size → (∀ q, q ≠ a → H'[q]? = H[q]?) → fw_R G kd S' H' (locs ++ [⟨a, f.slot⟩]) := by
    intro H' e1 e2 e3
    rw [hsl] at e1 ⊢
    refine Rr.put hk e2 e3 hS' hz hW ?_
    rw [show fw_cell G.2.1 K (fw_l S' a) (fw_g S' a) (fw_r S' a) = .inr (K, (fw_fl K (fw_g S a) (fw_r S a)).set k v) by rw [hset]; simp [fw_cell, hK1]]
    exact ⟨_, hcl, t_OB.to (V := updV (vp_V (fw_fl K (fw_g S a) (fw_r S a))) k v) ⟨_, e1, q2, q3, t_set q4 hap hkN v⟩ (fun j _ => vp_updV_set hl v j)⟩
  rcases hlk with h | ⟨host, h⟩
  · exact W.putK hx hb (f := f) ⟨hown, hts _ h, ⟨_, _, _, hi2⟩, hst⟩ (by rw [q2]; exact h6) q1 q3 (by rw [hsl]; exact k2_hasslot (q4 k hkN)) rfl rfl hdg fun H' e1 e2 e3 => kk H' _ (done H' e1 e2 e3)
  · exact va_WputK hx hb (f := f) hown (va_Nw.use rfl (hK.2.1 _ h)) hi2 hst (by rw [q2]; exact h6) q1 q3 (by rw [hsl]; exact k2_hasslot (q4 k hkN)) rfl rfl hdg fun H' e1 e2 e3 => kk H' _ (done H' e1 e2 e3)
theorem fw_putFG (C : fw_C G own cc nL ret p s m args meth c) (hin2 : meth.name = "<init>") (Rr : fw_R G kd S H locs) {K k idx : Nat} {ty : FieldType} {v : Value} (F : fw_F own idx K k ty true) (hown2 : fw_cl[K]?.map (fun q => q.1) = some own) (hk : kd a = some K) (hn : narrow ty v = v) (hfit : fits ty v = true) (S' : fw_S)
    (hset : (fw_fl K (fw_g S a) (fw_r S a)).set k v = fw_fl K (fw_g S' a) (fw_r S' a)) (hS' : ∀ b, b ≠ a → fw_l S' b = fw_l S b ∧ fw_g S' b = fw_g S b ∧ fw_r S' b = fw_r S b) (hz : fw_z S' = fw_z S) (hW : fw_W kd S') (hdg : decode cc pc = .ok (.putfield idx, 3)) (hlw : ∀ host Cn nm d, Cond.fieldLinkNest own idx Cn nm d host ∉ fw_NS)
    (kk : ∀ (H1 : Heap) (locs1 : List Loc), fw_R G kd S' H1 locs1 → W p l e Rm s m args below meth c H1 locs1 cells slots Q (F0 m (pc + 3) ls rest)) : W p l e Rm s m args below meth c H locs cells slots Q (F0 m pc ls (v :: .ref a :: rest)) := by
  obtain ⟨hx, hb, -, hown, hts, -, -, hK⟩ := C
  obtain ⟨Cn, T, N, ⟨hcl, hin, hN, hK1, ⟨ty0, hty⟩, hnm, hT⟩, hkN, hd, hfin, hlk⟩ := F
  have hCo : Cn = own := by rw [hcl] at hown2; exact Option.some.inj hown2
  have hat := (Rr.1 a K hk).2
  rw [show fw_cell G.2.1 K (fw_l S a) (fw_g S a) (fw_r S a) = .inr (K, fw_fl K (fw_g S a) (fw_r S a)) by simp [fw_cell, hK1]] at hat
  have hap := va_apart (own := own) hts hin ty0 hty hnm hK.1 hcl
  obtain ⟨r, h1, cell, q1, q2, q3, q4⟩ := hat
  have hr : r = (Cn, T, N) := Option.some.inj (h1.symm.trans hcl)
  subst hr
  obtain ⟨hS, hfc, kC, hkC, hkind⟩ := hK.1.1 K _ hcl
  obtain ⟨cf, kf, fi, f, hi, hsl⟩ := hS k hkN
  have hlay := hts _ (hin _ (u_in_lay hkN))
  unfold u_lay at hlay
  rw [if_pos hfin] at hlay
  have hst := (u_facts hfc hkC (u_lays hts hin hkN) hi).1
  have hTk := hT k hkN
  have hcf : m.cls = cf := by
    obtain ⟨_, _, c', _, _, _, -, -, hf', -, -, -, hown3, -⟩ := Cond.laysFinal_spec hlay
    have e1 : c' = cf := by have := hi.symm.trans hf'; simp at this; exact this.1.symm
    rw [hTk, hCo] at hown3
    rw [← e1]; exact Option.some.inj (hown.symm.trans hown3)
  have h6 := u_fits hfc hkC hkind (Or.inr hlay) hi hd hn hfit
  have hl : k < (fw_fl K (fw_g S a) (fw_r S a)).length := by simp [fw_fl, ← hN, hkN]
  have hi2 : s.fieldFound? Cn (T k).2.1 (T k).2.2.1 = some (cf, kf, fi, f) := by rw [hTk] at hi; exact hi
  rcases hlk with h | ⟨host, h⟩
  · refine W.putFinK hx hb hown (hts _ h) hi2 hst hcf hin2 (by rw [q2]; exact h6) q1 q3 (by rw [hsl]; exact k2_hasslot (q4 k hkN)) rfl rfl hdg fun H' e1 e2 e3 => kk H' _ ?_
    rw [hsl] at e1 ⊢
    refine Rr.put hk e2 e3 hS' hz hW ?_
    rw [show fw_cell G.2.1 K (fw_l S' a) (fw_g S' a) (fw_r S' a) = .inr (K, (fw_fl K (fw_g S a) (fw_r S a)).set k v) by rw [hset]; simp [fw_cell, hK1]]
    exact ⟨_, hcl, t_OB.to (V := updV (vp_V (fw_fl K (fw_g S a) (fw_r S a))) k v) ⟨_, e1, q2, q3, t_set q4 hap hkN v⟩ (fun j _ => vp_updV_set hl v j)⟩
  · exact absurd h (hlw _ _ _ _)
theorem fw_wi_keep {S : fw_S} {a k : Nat} {v : Int32} : ∀ b, b ≠ a → fw_l (fw_wi S a k v) b = fw_l S b ∧ fw_g (fw_wi S a k v) b = fw_g S b ∧ fw_r (fw_wi S a k v) b = fw_r S b := fun _ h => ⟨rfl, fw_g_wi_ne h, rfl⟩
theorem fw_wr_keep {S : fw_S} {a k : Nat} {v : Option Nat} : ∀ b, b ≠ a → fw_l (fw_wr S a k v) b = fw_l S b ∧ fw_g (fw_wr S a k v) b = fw_g S b ∧ fw_r (fw_wr S a k v) b = fw_r S b := fun _ h => ⟨rfl, rfl, fw_r_wr_ne h⟩
theorem fw_puti (C : fw_C G own cc nL ret p s m args meth c) (Rr : fw_R G kd S H locs) {K k idx : Nat} {v : Int32} (F : fw_F own idx K k .int false) (hf : (fw_ft K)[k]? = some none) (hk : kd a = some K) (hdg : decode cc pc = .ok (.putfield idx, 3))
    (kk : ∀ (H1 : Heap) (locs1 : List Loc), fw_R G kd (fw_wi S a k v) H1 locs1 → W p l e Rm s m args below meth c H1 locs1 cells slots Q (F0 m (pc + 3) ls rest)) : W p l e Rm s m args below meth c H locs cells slots Q (F0 m pc ls (.int v :: .ref a :: rest)) :=
  fw_putG C Rr F hk rfl rfl (fw_wi S a k v) (by rw [fw_fl_i hf, fw_g_wi_self]; rfl) fw_wi_keep rfl Rr.2.2.2.2.2.wi hdg kk
theorem fw_z01 {v : Int32} (h : v = 0 ∨ v = 1) : narrow .boolean (.int v) = .int v ∧ fits .boolean (.int v) = true := by
  rcases h with rfl | rfl <;> exact ⟨by decide, by decide⟩
theorem fw_putz (C : fw_C G own cc nL ret p s m args meth c) (Rr : fw_R G kd S H locs) {K k idx : Nat} {v : Int32} (F : fw_F own idx K k .boolean false) (hf : (fw_ft K)[k]? = some none) (hv : v = 0 ∨ v = 1) (hk : kd a = some K) (hdg : decode cc pc = .ok (.putfield idx, 3))
    (kk : ∀ (H1 : Heap) (locs1 : List Loc), fw_R G kd (fw_wi S a k v) H1 locs1 → W p l e Rm s m args below meth c H1 locs1 cells slots Q (F0 m (pc + 3) ls rest)) : W p l e Rm s m args below meth c H locs cells slots Q (F0 m pc ls (.int v :: .ref a :: rest)) :=
  fw_putG C Rr F hk (fw_z01 hv).1 (fw_z01 hv).2 (fw_wi S a k v) (by rw [fw_fl_i hf, fw_g_wi_self]; rfl) fw_wi_keep rfl Rr.2.2.2.2.2.wi hdg kk
theorem fw_putr (C : fw_C G own cc nL ret p s m args meth c) (Rr : fw_R G kd S H locs) {K k K' idx b : Nat} {ty : FieldType} (F : fw_F own idx K k ty false) (hty : fits ty (.ref b) = true) (hf : (fw_ft K)[k]? = some (some K')) (hK1 : K < 100) (hb : kd b = some K') (hk : kd a = some K) (hdg : decode cc pc = .ok (.putfield idx, 3))
    (kk : ∀ (H1 : Heap) (locs1 : List Loc), fw_R G kd (fw_wr S a k (some b)) H1 locs1 → W p l e Rm s m args below meth c H1 locs1 cells slots Q (F0 m (pc + 3) ls rest)) : W p l e Rm s m args below meth c H locs cells slots Q (F0 m pc ls (.ref b :: .ref a :: rest)) :=
  fw_putG C Rr F hk (by cases ty <;> first | rfl | cases hty) hty (fw_wr S a k (some b)) (by rw [show Value.ref b = va_rf (some b) from rfl, fw_fl_r hf, fw_r_wr_self]; rfl) fw_wr_keep rfl (Rr.2.2.2.2.2.wr hk (fun x hx K2 h2 => by cases hx; simp [fw_rt, hK1, hf] at h2; rw [← h2]; exact hb)) hdg kk
theorem fw_putFi (C : fw_C G own cc nL ret p s m args meth c) (hin2 : meth.name = "<init>") (Rr : fw_R G kd S H locs) {K k idx : Nat} {v : Int32} (F : fw_F own idx K k .int true) (hown2 : fw_cl[K]?.map (fun q => q.1) = some own) (hlw : ∀ host Cn nm d, Cond.fieldLinkNest own idx Cn nm d host ∉ fw_NS) (hf : (fw_ft K)[k]? = some none) (hk : kd a = some K) (hdg : decode cc pc = .ok (.putfield idx, 3))
    (kk : ∀ (H1 : Heap) (locs1 : List Loc), fw_R G kd (fw_wi S a k v) H1 locs1 → W p l e Rm s m args below meth c H1 locs1 cells slots Q (F0 m (pc + 3) ls rest)) : W p l e Rm s m args below meth c H locs cells slots Q (F0 m pc ls (.int v :: .ref a :: rest)) :=
  fw_putFG C hin2 Rr F hown2 hk rfl rfl (fw_wi S a k v) (by rw [fw_fl_i hf, fw_g_wi_self]; rfl) fw_wi_keep rfl Rr.2.2.2.2.2.wi hdg hlw kk
theorem fw_putFz (C : fw_C G own cc nL ret p s m args meth c) (hin2 : meth.name = "<init>") (Rr : fw_R G kd S H locs) {K k idx : Nat} {v : Int32} (F : fw_F own idx K k .boolean true) (hown2 : fw_cl[K]?.map (fun q => q.1) = some own) (hlw : ∀ host Cn nm d, Cond.fieldLinkNest own idx Cn nm d host ∉ fw_NS) (hf : (fw_ft K)[k]? = some none) (hv : v = 0 ∨ v = 1) (hk : kd a = some K) (hdg : decode cc pc = .ok (.putfield idx, 3))
    (kk : ∀ (H1 : Heap) (locs1 : List Loc), fw_R G kd (fw_wi S a k v) H1 locs1 → W p l e Rm s m args below meth c H1 locs1 cells slots Q (F0 m (pc + 3) ls rest)) : W p l e Rm s m args below meth c H locs cells slots Q (F0 m pc ls (.int v :: .ref a :: rest)) :=
  fw_putFG C hin2 Rr F hown2 hk (fw_z01 hv).1 (fw_z01 hv).2 (fw_wi S a k v) (by rw [fw_fl_i hf, fw_g_wi_self]; rfl) fw_wi_keep rfl Rr.2.2.2.2.2.wi hdg hlw kk
theorem fw_putFr (C : fw_C G own cc nL ret p s m args meth c) (hin2 : meth.name = "<init>") (Rr : fw_R G kd S H locs) {K k K' idx b : Nat} {ty : FieldType} (F : fw_F own idx K k ty true) (hown2 : fw_cl[K]?.map (fun q => q.1) = some own) (hlw : ∀ host Cn nm d, Cond.fieldLinkNest own idx Cn nm d host ∉ fw_NS) (hty : fits ty (.ref b) = true) (hf : (fw_ft K)[k]? = some (some K')) (hK1 : K < 100) (hb : kd b = some K') (hk : kd a = some K) (hdg : decode cc pc = .ok (.putfield idx, 3))
    (kk : ∀ (H1 : Heap) (locs1 : List Loc), fw_R G kd (fw_wr S a k (some b)) H1 locs1 → W p l e Rm s m args below meth c H1 locs1 cells slots Q (F0 m (pc + 3) ls rest)) : W p l e Rm s m args below meth c H locs cells slots Q (F0 m pc ls (.ref b :: .ref a :: rest)) :=
  fw_putFG C hin2 Rr F hown2 hk (by cases ty <;> first | rfl | cases hty) hty (fw_wr S a k (some b)) (by rw [show Value.ref b = va_rf (some b) from rfl, fw_fl_r hf, fw_r_wr_self]; rfl) fw_wr_keep rfl (Rr.2.2.2.2.2.wr hk (fun x hx K2 h2 => by cases hx; simp [fw_rt, hK1, hf] at h2; rw [← h2]; exact hb)) hdg hlw kk
-- arrays
theorem fw_tyAt {U : State} (hK : fw_K G U) {K : Nat} {ty : FieldType} (ht : (K, ty) ∈ fw_tys) : ArrOfT U (G.2.1 K) ty ∧ va_RA U (G.2.1 K) ty := by
  obtain ⟨i, hi⟩ := List.getElem?_of_mem ht
  exact hK.1.2 i (G.2.1 K, ty) (by unfold fw_T; rw [List.getElem?_map, hi]; rfl)
theorem fw_iald (C : fw_C G own cc nL ret p s m args meth c) (Rr : fw_R G kd S H locs) (ht : (100, FieldType.int) ∈ fw_tys) (hk : kd a = some 100) {i : Int32} (hin : ¬ (i < 0 ∨ fw_l S a ≤ i.toNatClampNeg)) (hdg : decode cc pc = .ok (.iaload, 1))
    (kk : W p l e Rm s m args below meth c H locs cells slots Q (F0 m (pc + 1) ls (.int (fw_g S a i.toNatClampNeg) :: rest))) : W p l e Rm s m args below meth c H locs cells slots Q (F0 m pc ls (.int i :: .ref a :: rest)) := by
  have hat := (Rr.1 a 100 hk).2
  have hlt : i.toNatClampNeg < fw_l S a := Nat.not_le.mp fun q => hin (Or.inr q)
  exact W.iald (v := .int (fw_g S a i.toNatClampNeg)) C.1 C.2.1 hat ((fw_tyAt C.2.2.2.2.2.2.2 ht).1 (fw_l S a) (fun j => .int (fw_g S a j))) (fun q => by cases q) (by show ¬ (i < 0 ∨ (arrV _ _ _).slots.size ≤ _); rw [arrV_size]; exact hin) (by show (arrV _ _ _).slots[_]? = _; rw [arrV_read _ _ hlt]) rfl rfl hdg kk
theorem fw_zald (C : fw_C G own cc nL ret p s m args meth c) (Rr : fw_R G kd S H locs) (ht : (101, FieldType.boolean) ∈ fw_tys) (hk : kd a = some 101) {i : Int32} (hin : ¬ (i < 0 ∨ fw_l S a ≤ i.toNatClampNeg)) (hdg : decode cc pc = .ok (.baload, 1))
    (kk : W p l e Rm s m args below meth c H locs cells slots Q (F0 m (pc + 1) ls (.int (fw_g S a i.toNatClampNeg) :: rest))) : W p l e Rm s m args below meth c H locs cells slots Q (F0 m pc ls (.int i :: .ref a :: rest)) := by
  have hat := (Rr.1 a 101 hk).2
  have hlt : i.toNatClampNeg < fw_l S a := Nat.not_le.mp fun q => hin (Or.inr q)
  exact W.zald (v := .int (fw_g S a i.toNatClampNeg)) C.1 C.2.1 hat ((fw_tyAt C.2.2.2.2.2.2.2 ht).1 (fw_l S a) (fun j => .int (fw_g S a j))) (fun q => by cases q) (by show ¬ (i < 0 ∨ (arrV _ _ _).slots.size ≤ _); rw [arrV_size]; exact hin) (by show (arrV _ _ _).slots[_]? = _; rw [arrV_read _ _ hlt]) rfl rfl hdg kk
theorem fw_aald (C : fw_C G own cc nL ret p s m args meth c) (Rr : fw_R G kd S H locs) {K : Nat} {ty : FieldType} (ht : (200 + K, ty) ∈ fw_tys) (hty : ty.isReference = true) (hk : kd a = some (200 + K)) {i : Int32} (hin : ¬ (i < 0 ∨ fw_l S a ≤ i.toNatClampNeg)) (hdg : decode cc pc = .ok (.aaload, 1))
    (kk : W p l e Rm s m args below meth c H locs cells slots Q (F0 m (pc + 1) ls (va_rf (fw_r S a i.toNatClampNeg) :: rest))) : W p l e Rm s m args below meth c H locs cells slots Q (F0 m pc ls (.int i :: .ref a :: rest)) := by
  have hat := (Rr.1 a _ hk).2
  rw [show fw_cell G.2.1 (200 + K) (fw_l S a) (fw_g S a) (fw_r S a) = .inl (G.2.1 (200 + K), fw_l S a, .inr (.inr (.inr (.inr (fw_r S a))))) by simp [fw_cell, show ¬ 200 + K < 100 by omega, show ¬ 200 + K < 200 by omega]] at hat
  have hlt : i.toNatClampNeg < fw_l S a := Nat.not_le.mp fun q => hin (Or.inr q)
  exact W.aald (v := va_rf (fw_r S a i.toNatClampNeg)) (ty := ty) C.1 C.2.1 hat ((fw_tyAt C.2.2.2.2.2.2.2 ht).1 (fw_l S a) (fun j => va_rf (fw_r S a j))) hty (fun q => by cases q) (by show ¬ (i < 0 ∨ (arrV _ _ _).slots.size ≤ _); rw [arrV_size]; exact hin) (by show (arrV _ _ _).slots[_]? = _; rw [arrV_read _ _ hlt]) rfl rfl hdg kk
theorem fw_aaldr (C : fw_C G own cc nL ret p s m args meth c) (Rr : fw_R G kd S H locs) {K : Nat} {ty : FieldType} (ht : (200 + K, ty) ∈ fw_tys) (hty : ty.isReference = true) (hk : kd a = some (200 + K)) {i : Int32} (hin : ¬ (i < 0 ∨ fw_l S a ≤ i.toNatClampNeg)) (hdg : decode cc pc = .ok (.aaload, 1))
    (k0 : fw_r S a i.toNatClampNeg = none → W p l e Rm s m args below meth c H locs cells slots Q (F0 m (pc + 1) ls (.null :: rest))) (k1 : ∀ b, fw_r S a i.toNatClampNeg = some b → kd b = some K → W p l e Rm s m args below meth c H locs cells slots Q (F0 m (pc + 1) ls (.ref b :: rest))) : W p l e Rm s m args below meth c H locs cells slots Q (F0 m pc ls (.int i :: .ref a :: rest)) := by
  refine fw_aald C Rr ht hty hk hin hdg ?_
  cases hq : fw_r S a i.toNatClampNeg with
  | none => exact k0 hq
  | some b => exact k1 b hq (Rr.2.2.2.2.2 a _ hk _ b hq K (by simp [fw_rt, show ¬ 200 + K < 100 by omega]))
theorem fw_alen (C : fw_C G own cc nL ret p s m args meth c) (Rr : fw_R G kd S H locs) {K : Nat} {ty : FieldType} (ht : (K, ty) ∈ fw_tys) (hK1 : ¬ K < 100) (hk : kd a = some K) (hdg : decode cc pc = .ok (.arraylength, 1))
    (kk : W p l e Rm s m args below meth c H locs cells slots Q (F0 m (pc + 1) ls (.int (nI (fw_l S a)) :: rest))) : W p l e Rm s m args below meth c H locs cells slots Q (F0 m pc ls (.ref a :: rest)) := by
  have hat := (Rr.1 a _ hk).2
  have hA := (fw_tyAt C.2.2.2.2.2.2.2 ht).1
  by_cases h2 : K < 200
  · rw [show fw_cell G.2.1 K (fw_l S a) (fw_g S a) (fw_r S a) = .inl (G.2.1 K, fw_l S a, .inl (fw_g S a)) by simp [fw_cell, hK1, h2]] at hat
    exact W.alen (n := nI (fw_l S a)) C.1 C.2.1 hat (hA (fw_l S a) (fun j => .int (fw_g S a j))) (by rw [vp_cell_i, arrV_size] <;> rfl) rfl rfl hdg kk
  · rw [show fw_cell G.2.1 K (fw_l S a) (fw_g S a) (fw_r S a) = .inl (G.2.1 K, fw_l S a, .inr (.inr (.inr (.inr (fw_r S a))))) by simp [fw_cell, hK1, h2]] at hat
    exact W.alen (n := nI (fw_l S a)) C.1 C.2.1 hat (hA (fw_l S a) (fun j => va_rf (fw_r S a j))) (by rw [vp_cell_q, arrV_size] <;> rfl) rfl rfl hdg kk
theorem fw_iast (C : fw_C G own cc nL ret p s m args meth c) (Rr : fw_R G kd S H locs) (ht : (100, FieldType.int) ∈ fw_tys) (hk : kd a = some 100) {i x : Int32} (hin : ¬ (i < 0 ∨ fw_l S a ≤ i.toNatClampNeg)) (hdg : decode cc pc = .ok (.iastore, 1))
    (kk : ∀ (H1 : Heap) (locs1 : List Loc), fw_R G kd (fw_wi S a i.toNatClampNeg x) H1 locs1 → W p l e Rm s m args below meth c H1 locs1 cells slots Q (F0 m (pc + 1) ls rest)) : W p l e Rm s m args below meth c H locs cells slots Q (F0 m pc ls (.int x :: .int i :: .ref a :: rest)) := by
  have hat := (Rr.1 a 100 hk).2
  refine W.iast C.1 C.2.1 hat ((fw_tyAt C.2.2.2.2.2.2.2 ht).1 (fw_l S a) (fun j => .int (fw_g S a j))) (fun q => by cases q) (by show ¬ (i < 0 ∨ (arrV _ _ _).slots.size ≤ _); rw [arrV_size]; exact hin) rfl rfl hdg fun H1 e z oq => kk H1 _ (Rr.put hk z oq fw_wi_keep rfl Rr.2.2.2.2.2.wi ?_)
  show H1[a]? = some (vp_cell _ _)
  rw [e, fw_g_wi_self]
  show some ((vp_cell (G.2.1 100) (fw_l S a, .inl (fw_g S a))).setSlot _ _) = some (vp_cell (G.2.1 100) (fw_l S a, .inl (va_up (fw_g S a) i.toNatClampNeg x)))
  rw [vp_cell_i, vp_cell_i, arrV_store]
  congr 2
  funext q
  by_cases hq : q = i.toNatClampNeg
  · subst hq
    simp [updV, va_up]
  · simp [updV, va_up, hq]
theorem fw_zast (C : fw_C G own cc nL ret p s m args meth c) (Rr : fw_R G kd S H locs) (ht : (101, FieldType.boolean) ∈ fw_tys) (hk : kd a = some 101) {i x : Int32} (hv : x = 0 ∨ x = 1) (hin : ¬ (i < 0 ∨ fw_l S a ≤ i.toNatClampNeg)) (hdg : decode cc pc = .ok (.bastore, 1))
    (kk : ∀ (H1 : Heap) (locs1 : List Loc), fw_R G kd (fw_wi S a i.toNatClampNeg x) H1 locs1 → W p l e Rm s m args below meth c H1 locs1 cells slots Q (F0 m (pc + 1) ls rest)) : W p l e Rm s m args below meth c H locs cells slots Q (F0 m pc ls (.int x :: .int i :: .ref a :: rest)) := by
  have hat := (Rr.1 a 101 hk).2
  refine W.zast C.1 C.2.1 hat ((fw_tyAt C.2.2.2.2.2.2.2 ht).1 (fw_l S a) (fun j => .int (fw_g S a j))) (fun q => by cases q) (by show ¬ (i < 0 ∨ (arrV _ _ _).slots.size ≤ _); rw [arrV_size]; exact hin) rfl rfl hdg fun H1 e z oq => kk H1 _ (Rr.put hk z oq fw_wi_keep rfl Rr.2.2.2.2.2.wi ?_)
  show H1[a]? = some (vp_cell _ _)
  rw [e, (fw_z01 hv).1, fw_g_wi_self]
  show some ((vp_cell (G.2.1 101) (fw_l S a, .inl (fw_g S a))).setSlot _ _) = some (vp_cell (G.2.1 101) (fw_l S a, .inl (va_up (fw_g S a) i.toNatClampNeg x)))
  rw [vp_cell_i, vp_cell_i, arrV_store]
  congr 2
  funext q
  by_cases hq : q = i.toNatClampNeg
  · subst hq
    simp [updV, va_up]
  · simp [updV, va_up, hq]
theorem fw_aast (C : fw_C G own cc nL ret p s m args meth c) (Rr : fw_R G kd S H locs) {K v : Nat} {q : vw_C} (hcl : fw_cl[K]? = some q) (hK1 : K < 100) (ht : (200 + K, FieldType.object q.1) ∈ fw_tys) (hk : kd a = some (200 + K)) (hkv : kd v = some K) {i : Int32} (hin : ¬ (i < 0 ∨ fw_l S a ≤ i.toNatClampNeg)) (hdg : decode cc pc = .ok (.aastore, 1))
    (kk : ∀ (H1 : Heap) (locs1 : List Loc), fw_R G kd (fw_wr S a i.toNatClampNeg (some v)) H1 locs1 → W p l e Rm s m args below meth c H1 locs1 cells slots Q (F0 m (pc + 1) ls rest)) : W p l e Rm s m args below meth c H locs cells slots Q (F0 m pc ls (.ref v :: .int i :: .ref a :: rest)) := by
  have hat := (Rr.1 a _ hk).2
  rw [show fw_cell G.2.1 (200 + K) (fw_l S a) (fw_g S a) (fw_r S a) = .inl (G.2.1 (200 + K), fw_l S a, .inr (.inr (.inr (.inr (fw_r S a))))) by simp [fw_cell, show ¬ 200 + K < 100 by omega, show ¬ 200 + K < 200 by omega]] at hat
  have hvt := (Rr.1 v K hkv).2
  rw [show fw_cell G.2.1 K (fw_l S v) (fw_g S v) (fw_r S v) = .inr (K, fw_fl K (fw_g S v) (fw_r S v)) by simp [fw_cell, hK1]] at hvt
  obtain ⟨r', hr', cellV, g1, g2, g3, -⟩ := hvt
  have hKs := C.2.2.2.2.2.2.2
  have hlt : i.toNatClampNeg < fw_l S a := Nat.not_le.mp fun q => hin (Or.inr q)
  have h0 : ¬ i < 0 := fun q => hin (Or.inl q)
  have hcls := (hKs.1.1 K q hcl).2
  obtain ⟨kA, comp, k1, k2, k3, -⟩ := (fw_tyAt hKs ht).2
  have hcomp : comp = G.1.1 K := Option.some.inj (k3.symm.trans hcls.1)
  subst hcomp
  obtain ⟨kC, hkC, -⟩ := id hcls.2
  refine W.aast C.1 C.2.1 hat (fun q h => by cases h) (fun h => by cases h) k1 k2 rfl hkC ⟨h0, by show _ < (arrV _ _ _).slots.size; rw [arrV_size]; exact hlt⟩ g1 (fun q h => by rw [g3] at h; cases h) (by rw [g2]; exact hkC) (by rw [g2]; exact va_assign hcls) rfl rfl hdg fun H1 e z oq => kk H1 _ (Rr.put hk z oq fw_wr_keep rfl (Rr.2.2.2.2.2.wr hk (fun x hx K2 h2 => by cases hx; simp [fw_rt, show ¬ 200 + K < 100 by omega] at h2; rw [← h2]; exact hkv)) ?_)
  rw [show fw_cell G.2.1 (200 + K) (fw_l (fw_wr S a i.toNatClampNeg (some v)) a) (fw_g (fw_wr S a i.toNatClampNeg (some v)) a) (fw_r (fw_wr S a i.toNatClampNeg (some v)) a) = .inl (G.2.1 (200 + K), fw_l S a, .inr (.inr (.inr (.inr (va_up (fw_r S a) i.toNatClampNeg (some v)))))) by rw [fw_r_wr_self]; simp [fw_cell, show ¬ 200 + K < 100 by omega, show ¬ 200 + K < 200 by omega]; rfl]
  show H1[a]? = some (vp_cell _ _)
  rw [e]
  rw [vp_cell_q, vp_cell_q, arrV_store]
  congr 2
  funext q
  by_cases hq : q = i.toNatClampNeg
  · subst hq
    simp [updV, va_up, va_rf]
  · simp [updV, va_up, hq]
theorem fw_aastN (C : fw_C G own cc nL ret p s m args meth c) (Rr : fw_R G kd S H locs) {K : Nat} {Cn : String} (ht : (200 + K, FieldType.object Cn) ∈ fw_tys) (hk : kd a = some (200 + K)) {i : Int32} (hin : ¬ (i < 0 ∨ fw_l S a ≤ i.toNatClampNeg)) (hdg : decode cc pc = .ok (.aastore, 1))
    (kk : ∀ (H1 : Heap) (locs1 : List Loc), fw_R G kd (fw_wr S a i.toNatClampNeg none) H1 locs1 → W p l e Rm s m args below meth c H1 locs1 cells slots Q (F0 m (pc + 1) ls rest)) : W p l e Rm s m args below meth c H locs cells slots Q (F0 m pc ls (.null :: .int i :: .ref a :: rest)) := by
  have hat := (Rr.1 a _ hk).2
  rw [show fw_cell G.2.1 (200 + K) (fw_l S a) (fw_g S a) (fw_r S a) = .inl (G.2.1 (200 + K), fw_l S a, .inr (.inr (.inr (.inr (fw_r S a))))) by simp [fw_cell, show ¬ 200 + K < 100 by omega, show ¬ 200 + K < 200 by omega]] at hat
  refine va_WaastN (C := Cn) C.1 C.2.1 hat ((fw_tyAt C.2.2.2.2.2.2.2 ht).1 (fw_l S a) (fun j => va_rf (fw_r S a j))) (fun h => by cases h) (by show ¬ (i < 0 ∨ (arrV _ _ _).slots.size ≤ _); rw [arrV_size]; exact hin) rfl rfl hdg fun H1 e z oq => kk H1 _ (Rr.put hk z oq fw_wr_keep rfl (Rr.2.2.2.2.2.wr hk (fun x hx K2 h2 => by cases hx)) ?_)
  rw [show fw_cell G.2.1 (200 + K) (fw_l (fw_wr S a i.toNatClampNeg none) a) (fw_g (fw_wr S a i.toNatClampNeg none) a) (fw_r (fw_wr S a i.toNatClampNeg none) a) = .inl (G.2.1 (200 + K), fw_l S a, .inr (.inr (.inr (.inr (va_up (fw_r S a) i.toNatClampNeg none))))) by rw [fw_r_wr_self]; simp [fw_cell, show ¬ 200 + K < 100 by omega, show ¬ 200 + K < 200 by omega]; rfl]
  show H1[a]? = some (vp_cell _ _)
  rw [e]
  rw [vp_cell_q, vp_cell_q, arrV_store]
  congr 2
  funext q
  by_cases hq : q = i.toNatClampNeg
  · subst hq
    simp [updV, va_up, va_rf]
  · simp [updV, va_up, hq]
-- what is made
theorem fw_R.made {H1 : Heap} {K n : Nat} (Rr : fw_R G kd S H locs) (z : H1.size = H.size + 1) (oq : ∀ q : Nat, q < H.size → H1[q]? = H[q]?) (hat : va_at G.1 fw_cl (H.size, fw_cell G.2.1 K n (fun _ => 0) (fun _ => none)) H1) :
    ∃ kd', fw_X kd kd' ∧ kd' (fw_z S) = some K ∧ fw_R G kd' (fw_nw S n) H1 locs := by
  obtain ⟨r1, r2, r3, r4, r5, r6⟩ := Rr
  have hlt : ∀ a K, kd a = some K → a < H.size := fun a K h => (r1 a K h).2.lt
  have hne : ∀ a K, kd a = some K → a ≠ fw_z S := fun a K h => by have := hlt a K h; omega
  refine ⟨va_up kd (fw_z S) (some K), fun a K' h => by rw [va_up_ne _ _ (hne a K' h)]; exact h, va_up_self _ _ _, fun a K' h => ?_, fun q hq => ?_, by omega, r4, by rw [fw_z_nw, z, r5], ?_⟩
  · by_cases ha : a = fw_z S
    · subst ha
      rw [va_up_self] at h
      cases h
      rw [fw_l_nw_self, fw_g_nw_self, fw_r_nw_self, ← r5]
      exact ⟨r3, hat⟩
    · rw [va_up_ne _ _ ha] at h
      rw [fw_l_nw_ne ha, fw_g_nw_ne ha, fw_r_nw_ne ha]
      exact ⟨(r1 a K' h).1, (r1 a K' h).2.kept (oq a (hlt a K' h))⟩
  · rw [oq q (by omega)]; exact r2 q hq
  · intro a Ka ha k b hb K' hK'
    by_cases hz : a = fw_z S
    · subst hz
      rw [fw_r_nw_self] at hb
      cases hb
    · rw [va_up_ne _ _ hz] at ha
      rw [fw_r_nw_ne hz] at hb
      have := r6 a Ka ha k b hb K' hK'
      rw [va_up_ne _ _ (hne b K' this)]
      exact this
theorem fw_new (C : fw_C G own cc nL ret p s m args meth c) (Rr : fw_R G kd S H locs) {K idx N : Nat} {Cn : String} {T : u_T} (hC : fw_Cl K Cn T N) (hd : ∀ j, j < N → ((parseFieldDescriptor (T j).2.2.1).map defaultValue) = some (fw_fv K (fun _ => 0) (fun _ => none) j)) (hcl : Cond.classLink own idx Cn ∈ fw_WS) (hinst : Cond.instantiable Cn N ∈ fw_WS) (hini : Cond.initialized Cn ∈ fw_WS) (hcells : cells + 1 ≤ Rm.cells) (hslots : slots + N ≤ Rm.slots) (hdg : decode cc pc = .ok (.new idx, 3))
    (kk : ∀ (H1 : Heap) (kd' : Nat → Option Nat), fw_X kd kd' → kd' (fw_z S) = some K → fw_R G kd' (fw_nw S 0) H1 locs → W p l e Rm s m args below meth c H1 locs (cells + 1) (slots + N) Q (F0 m (pc + 3) ls (.ref (fw_z S) :: rest))) : W p l e Rm s m args below meth c H locs cells slots Q (F0 m pc ls rest) := by
  obtain ⟨hx, hb, -, hown, hts, -, -, hK⟩ := C
  obtain ⟨hc, hin, hN, hK1, ⟨ty0, hty⟩, hnm, hT⟩ := hC
  have hKn := hK.1.1 K _ hc
  have hsz : H.size = fw_z S := Rr.2.2.2.2.1
  refine W.newcK hx hb hown (hts _ hcl) (hts _ hinst) (hts _ hini) rfl hdg hcells hslots hKn.2.1 rfl fun H1 kC hkC e1 z1 o1 => ?_
  obtain ⟨kd', h1, h2, h3⟩ := Rr.made (K := K) (n := 0) z1 o1 (by
    rw [show fw_cell G.2.1 K 0 (fun _ => 0) (fun _ => none) = .inr (K, fw_fl K (fun _ => 0) (fun _ => none)) by simp [fw_cell, hK1]]
    refine ⟨_, hc, (u_born ty0 hts hin hKn hkC e1 hty).to (fun j hj => ?_)⟩
    have h := hd j hj
    rw [hty j hj] at h
    have h' : defaultValue (ty0 j) = fw_fv K (fun _ => 0) (fun _ => none) j := Option.some.inj h
    rw [h']
    have hj' : j < (fw_ft K).length := hN ▸ hj
    simp [vp_V, fw_fl, hj'])
  have := kk H1 kd' h1 h2 h3
  rw [← hsz] at this
  exact this
theorem fw_newa (C : fw_C G own cc nL ret p s m args meth c) (Rr : fw_R G kd S H locs) {K : Nat} {atype : ArrayType} {ty : FieldType} (hty : newarray.typeOf atype = ty) (harr : Cond.arrayClass ty ∈ fw_WS) (ht : (K, ty) ∈ fw_tys) (hK1 : ¬ K < 100) (hK2 : K < 200) (hdef : defaultValue ty = .int 0) {n : Int32} (hn : ¬ n < 0) (hbytes : n.toNatClampNeg * componentBytes ty ≤ 536870912) (hcells : cells + 1 ≤ Rm.cells) (hslots : slots + n.toNatClampNeg ≤ Rm.slots) (hdg : decode cc pc = .ok (.newarray atype, 2)) (hra : ∀ cA, va_RA s cA ty → s.vm.findClass ("[" ++ ty.toString) = some cA)
    (kk : ∀ (H1 : Heap) (kd' : Nat → Option Nat), fw_X kd kd' → kd' (fw_z S) = some K → fw_R G kd' (fw_nw S n.toNatClampNeg) H1 locs → W p l e Rm s m args below meth c H1 locs (cells + 1) (slots + n.toNatClampNeg) Q (F0 m (pc + 2) ls (.ref (fw_z S) :: rest))) : W p l e Rm s m args below meth c H locs cells slots Q (F0 m pc ls (.int n :: rest)) := by
  subst hty
  have hsz : H.size = fw_z S := Rr.2.2.2.2.1
  refine va_newaK C.1 C.2.1 (C.2.2.2.2.1 _ harr) rfl hdg rfl hn rfl hbytes hcells hslots rfl fun H1 cA e1 z1 o1 hAr hNm => ?_
  have hcA : cA = G.2.1 K := Option.some.inj (hNm.symm.trans (hra _ (fw_tyAt C.2.2.2.2.2.2.2 ht).2))
  subst hcA
  obtain ⟨kd', h1, h2, h3⟩ := Rr.made (K := K) (n := n.toNatClampNeg) z1 o1 (by
    rw [show fw_cell G.2.1 K n.toNatClampNeg (fun _ => 0) (fun _ => none) = .inl (G.2.1 K, n.toNatClampNeg, .inl (fun _ => 0)) by simp [fw_cell, hK1, hK2]]
    show H1[H.size]? = some (vp_cell _ _)
    rw [vp_cell_i, e1, hdef])
  have := kk H1 kd' h1 h2 h3
  rw [← hsz] at this
  exact this
theorem fw_newq (C : fw_C G own cc nL ret p s m args meth c) (Rr : fw_R G kd S H locs) {K idx : Nat} {Cn : String} (hcl : Cond.classLink own idx Cn ∈ fw_WS) (hao : Cn ∈ fw_ao) (ht : (200 + K, FieldType.object Cn) ∈ fw_tys) {n : Int32} (hn : ¬ n < 0) (hbytes : n.toNatClampNeg * 4 ≤ 536870912) (hcells : cells + 1 ≤ Rm.cells) (hslots : slots + n.toNatClampNeg ≤ Rm.slots) (hdg : decode cc pc = .ok (.anewarray idx, 3))
    (kk : ∀ (H1 : Heap) (kd' : Nat → Option Nat), fw_X kd kd' → kd' (fw_z S) = some (200 + K) → fw_R G kd' (fw_nw S n.toNatClampNeg) H1 locs → W p l e Rm s m args below meth c H1 locs (cells + 1) (slots + n.toNatClampNeg) Q (F0 m (pc + 3) ls (.ref (fw_z S) :: rest))) : W p l e Rm s m args below meth c H locs cells slots Q (F0 m pc ls (.int n :: rest)) := by
  have hsz : H.size = fw_z S := Rr.2.2.2.2.1
  have hKs := C.2.2.2.2.2.2.2
  refine W.anew C.1 C.2.1 C.2.2.2.1 (C.2.2.2.2.1 _ hcl) (va_AO.use (hKs.2.2 _ hao)) rfl hdg rfl hn hbytes hcells hslots fun cA kA comp f1 f2 f3 f4 => ?_
  obtain ⟨kA', comp', k1, k2, k3, k4⟩ := (fw_tyAt hKs ht).2
  have hcA : cA = G.2.1 (200 + K) := Option.some.inj (f1.symm.trans k4)
  subst hcA
  generalize hH1 : H.push ({ cls := G.2.1 (200 + K), slots := Array.replicate n.toNatClampNeg .null, vm := .none } : Cell) = H1
  have z1 : H1.size = H.size + 1 := by rw [← hH1, Array.size_push]
  have e1 : H1[H.size]? = some (arrV (G.2.1 (200 + K)) n.toNatClampNeg (fun _ => .null)) := by rw [← hH1, Array.getElem?_push_size, ← arrV_new]
  have o1 : ∀ q : Nat, q < H.size → H1[q]? = H[q]? := fun q hq => by rw [← hH1, Array.getElem?_push, if_neg (Nat.ne_of_lt hq)]
  obtain ⟨kd', h1, h2, h3⟩ := Rr.made (K := 200 + K) (n := n.toNatClampNeg) z1 o1 (by
    rw [show fw_cell G.2.1 (200 + K) n.toNatClampNeg (fun _ => 0) (fun _ => none) = .inl (G.2.1 (200 + K), n.toNatClampNeg, .inr (.inr (.inr (.inr (fun _ => none))))) by simp [fw_cell, show ¬ 200 + K < 100 by omega, show ¬ 200 + K < 200 by omega]]
    show H1[H.size]? = some (vp_cell _ _)
    rw [vp_cell_q, e1]
    rfl)
  have := kk H1 kd' h1 h2 h3
  rw [← hsz] at this
  exact this
end FWR
