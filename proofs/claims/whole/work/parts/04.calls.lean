/-! Contracts, starts, ends and calls over the abstract store. -/
def fw_Q (G : fw_G) (kd : Nat → Option Nat) (v : Option Value) (S' : fw_S) (P : (Nat → Option Nat) → Prop) : Array Value → State → Outcome → State → Prop := fun _ _ oc t => oc = .returned v ∧ ∃ kd', fw_X kd kd' ∧ P kd' ∧ fw_R G kd' S' t.heap []
def fw_M (l : Launch) (G : fw_G) (y : MethodName) (cc : ByteArray) (nL : Nat) (ret : Option FieldType) (fr lo mc ms : Nat) (kd : Nat → Option Nat) (S : fw_S) (as : List Value) (v : Option Value) (S' : fw_S) (P : (Nat → Option Nat) → Prop) : Prop :=
  Met l y (Cond.code y cc nL ret :: fw_WS) { frames := fr, cells := mc, slots := ms, locals := lo } (va_Pc as (fun U => fw_R G kd S U.heap [] ∧ fw_K G U)) (fw_Q G kd v S' P) mc ms (fw_A G)
theorem fw_R.nil {G : fw_G} {kd : Nat → Option Nat} {S : fw_S} {H : Heap} {locs : List Loc} (h : fw_R G kd S H locs) : fw_R G kd S H [] := ⟨h.1, h.2.1, h.2.2.1, (fun _ h => by cases h), h.2.2.2.2⟩
theorem fw_R.more {G : fw_G} {kd : Nat → Option Nat} {S : fw_S} {H : Heap} {locs L : List Loc} (h : fw_R G kd S H []) (h1 : ∀ q ∈ locs, G.2.2.size ≤ q.base) (h2 : ∀ q ∈ L, G.2.2.size ≤ q.base) : fw_R G kd S H (locs ++ L) := ⟨h.1, h.2.1, h.2.2.1, fun q hq => (List.mem_append.mp hq).elim (h1 q) (h2 q), h.2.2.2.2⟩
theorem fw_start {l : Launch} {G : fw_G} {y : MethodName} {cc : ByteArray} {nL : Nat} {ret : Option FieldType} {fr lo mc ms : Nat} {kd : Nat → Option Nat} {S : fw_S} {as : List Value} {v : Option Value} {S' : fw_S} {P : (Nat → Option Nat) → Prop} (hy : plainName y.cls = true) (hlen : (lg_sl as).length ≤ nL)
    (body : ∀ (p : Program) (e : Env) (s : State) (m : MethodId) (below : List Frame) (meth : Method) (c : Code) (ls : Array Slot), fw_C G y.cls cc nL ret p s m as.toArray meth c → meth.name = y.name → fw_R G kd S s.heap [] → lv_has ls nL (lv_args 0 as) →
      W p l e { frames := fr, cells := mc, slots := ms, locals := lo } s m as.toArray below meth c s.heap [] 0 0 (MQ below (fw_Q G kd v S' P) as.toArray s mc ms (fw_A G)) (F0 m 0 ls [])) : fw_M l G y cc nL ret fr lo mc ms kd S as v S' P := by
  refine Met.ofW (cc := cc) (maxL := nL) (ret := ret) hy rfl ?_
  intro p e s m args below meth c s₁ B hml hv
  obtain ⟨rfl, hR, hK⟩ := hv
  have hts := atoms_spec (ws := Cond.code y cc nL ret :: fw_WS) B.pre
  rw [lg_entry_eq]
  exact body p e s m below meth c _ ⟨B.exec, B.bytes, hml, findClass_of_methodNamed B.named, fun w hw => hts w (List.mem_cons_of_mem _ hw), B.notSynchronized, B.returns, hK⟩ (name_of_methodNamed B.named B.method).1 hR (lv_entry as hlen)
-- a call's fixed facts
def fw_L (own : String) (idx : Nat) (y : MethodName) (cc : ByteArray) (nL : Nat) (ret : Option FieldType) (n : Nat) : Prop :=
  Cond.code y cc nL ret ∈ fw_WS ∧ Cond.initialized y.cls ∈ fw_WS ∧ (y.cls ≠ "java/lang/invoke/MethodHandle" ∧ y.cls ≠ "java/lang/invoke/VarHandle") ∧ (parseMethodDescriptor y.desc).map (fun d => d.parameters.length) = some n ∧ (Cond.methodLink own idx y ∈ fw_WS ∨ ∃ host, Cond.methodLinkNest own idx y host ∈ fw_NS)
theorem fw_good {y : MethodName} {cc : ByteArray} {nL : Nat} {ret : Option FieldType} (h : Cond.code y cc nL ret ∈ fw_WS) : GoodIn fw_WS (Cond.code y cc nL ret :: fw_WS) := by
  intro w hw
  rcases List.mem_cons.mp hw with rfl | hw
  · exact ⟨h, good_of_word (fw_WS_ok _ h)⟩
  · exact ⟨hw, good_of_word (fw_WS_ok _ hw)⟩
section FWC
variable {p : Program} {l : Launch} {e : Env} {Rm : Room} {s : State} {m : MethodId} {args : Array Value} {below : List Frame} {meth : Method} {c : Code} {H : Heap} {locs : List Loc} {cells slots : Nat} {Q : State → Prop} {G : fw_G} {own : String} {cc : ByteArray} {nL : Nat} {ret : Option FieldType} {kd : Nat → Option Nat} {S : fw_S} {pc : Nat} {ls : Array Slot} {rest : List Value} {a : Nat}
variable {y : MethodName} {cc' : ByteArray} {nL' : Nat} {ret' : Option FieldType} {fr lo mc ms idx n b : Nat} {As st : List Value} {v : Option Value} {S' : fw_S} {P : (Nat → Option Nat) → Prop}
theorem fw_blind {as : List Value} : FrameBlind (va_Pc as (fun U => fw_R G kd S U.heap [] ∧ fw_K G U)) := fun _ _ _ _ q => ⟨q.1, q.2.1, q.2.2.calling⟩
theorem fw_back {st0 : List Value} {as : Array Value} (Rr : fw_R G kd S H locs) (hr : va_Run p l e Rm s m args below meth c H locs cells slots mc ms (F0 m pc ls st0) rest (fw_Q G kd v S' P as) (fw_A G))
    (kk : ∀ (H1 : Heap) (locs1 : List Loc) (kd' : Nat → Option Nat), fw_X kd kd' → P kd' → fw_R G kd' S' H1 locs1 → W p l e Rm s m args below meth c H1 locs1 (cells + mc) (slots + ms) Q (F0 m (pc + 3) ls (v.toList ++ rest))) : W p l e Rm s m args below meth c H locs cells slots Q (F0 m pc ls st0) := by
  intro T hT X
  obtain ⟨v', st₀, t, T', L, h0, X', hL, e1, e2, ⟨hv, kd', h1, h2, h3⟩, st⟩ := hr T hT X
  cases hv
  obtain ⟨t2, a1, b1⟩ := kk T'.heap (locs ++ L) kd' h1 h2 (by rw [e1]; exact h3.more Rr.2.2.2.1 hL) T' rfl X'
  exact ⟨t2, st t2 a1, b1⟩
theorem fw_recv (hK : fw_K G s) (Rr : fw_R G kd S H locs) {K : Nat} (hk : kd b = some K) (hK1 : K < 100) {Cn : String} (hc : fw_cl[K]?.map (fun q => q.1) = some Cn) : ∃ cell : Cell, H[b]? = some cell ∧ cell.vm.isStatics = false ∧ s.vm.findClass Cn = some cell.cls := by
  have hat := (Rr.1 b K hk).2
  rw [show fw_cell G.2.1 K (fw_l S b) (fw_g S b) (fw_r S b) = .inr (K, fw_fl K (fw_g S b) (fw_r S b)) by simp [fw_cell, hK1]] at hat
  obtain ⟨q, h1, cell, g1, g2, g3, -⟩ := hat
  rw [h1] at hc
  cases hc
  exact ⟨cell, g1, by rw [g3]; rfl, by rw [g2]; exact (hK.1.1 K q h1).2.1⟩
theorem fw_callV (C : fw_C G own cc nL ret p s m args meth c) (Rr : fw_R G kd S H locs) (LK : fw_L own idx y cc' nL' ret' n) (hi : Cond.instanceMethod y ∈ fw_WS) (hs : Cond.selects y.cls y y ∈ fw_WS) (hM : fw_M l G y cc' nL' ret' fr lo mc ms kd S (.ref b :: As) v S' P) {K : Nat} (hk : kd b = some K) (hK1 : K < 100) (hc : fw_cl[K]?.map (fun q => q.1) = some y.cls)
    (hn : As.length = n) (hsize : ls.size = nL) (hst : st = As.reverse ++ .ref b :: rest) (hW : 2 * (F0 m pc ls st).monitorRoom + (rest.map fun v => v.category).sum ≤ 8) (hR : fr + 1 ≤ Rm.frames ∧ 8 + (nL' + 11) + lo ≤ Rm.locals) (hcs : cells + mc ≤ Rm.cells ∧ slots + ms ≤ Rm.slots) (hdg : decode cc pc = .ok (.invokevirtual idx, 3))
    (kk : ∀ (H1 : Heap) (locs1 : List Loc) (kd' : Nat → Option Nat), fw_X kd kd' → P kd' → fw_R G kd' S' H1 locs1 → W p l e Rm s m args below meth c H1 locs1 (cells + mc) (slots + ms) Q (F0 m (pc + 3) ls (v.toList ++ rest))) : W p l e Rm s m args below meth c H locs cells slots Q (F0 m pc ls st) := by
  obtain ⟨hx, hb, hml, hown, hts, -, -, hK⟩ := C
  obtain ⟨l1, l2, l3, l4, l5⟩ := LK
  have hp : PreV s H y.cls b (va_Pc (.ref b :: As) (fun U => fw_R G kd S U.heap [] ∧ fw_K G U)) As := ⟨fw_blind, fw_recv hK Rr hk hK1 hc, fun U hU hW => ⟨rfl, by rw [hU]; exact Rr.nil, hK.moved hW⟩⟩
  rcases l5 with l5 | ⟨host, l5⟩
  · exact fw_back Rr (va_runV ⟨hx, hb, hml, hown, hts⟩ hM ⟨callB_of n hts (fw_good l1) rfl rfl rfl (hts _ l2) (hts _ l5) ⟨l3.1, l3.2, l4⟩ hR, hts _ hi, hts _ hs⟩ hp rfl hn hsize hst hW hdg hcs) kk
  · exact fw_back Rr (va_runVN ⟨hx, hb, hml, hown, hts⟩ hM ⟨va_cnB n hts (fw_good l1) rfl rfl rfl (hK.2.1 _ l5) (hts _ l2) ⟨l3.1, l3.2, l4⟩ hR, hts _ hi, hts _ hs⟩ hp rfl hn hsize hst hW hdg hcs) kk
theorem fw_callS (C : fw_C G own cc nL ret p s m args meth c) (Rr : fw_R G kd S H locs) (LK : fw_L own idx y cc' nL' ret' n) (hi : Cond.static y ∈ fw_WS) (hM : fw_M l G y cc' nL' ret' fr lo mc ms kd S As v S' P)
    (hn : As.length = n) (hsize : ls.size = nL) (hst : st = As.reverse ++ rest) (hW : 2 * (F0 m pc ls st).monitorRoom + (rest.map fun v => v.category).sum ≤ 8) (hR : fr + 1 ≤ Rm.frames ∧ 8 + (nL' + 11) + lo ≤ Rm.locals) (hcs : cells + mc ≤ Rm.cells ∧ slots + ms ≤ Rm.slots) (hdg : decode cc pc = .ok (.invokestatic idx, 3))
    (kk : ∀ (H1 : Heap) (locs1 : List Loc) (kd' : Nat → Option Nat), fw_X kd kd' → P kd' → fw_R G kd' S' H1 locs1 → W p l e Rm s m args below meth c H1 locs1 (cells + mc) (slots + ms) Q (F0 m (pc + 3) ls (v.toList ++ rest))) : W p l e Rm s m args below meth c H locs cells slots Q (F0 m pc ls st) := by
  obtain ⟨hx, hb, hml, hown, hts, -, -, hK⟩ := C
  obtain ⟨l1, l2, l3, l4, l5⟩ := LK
  have hp : PreS s H (va_Pc As (fun U => fw_R G kd S U.heap [] ∧ fw_K G U)) As := ⟨fw_blind, fun U hU hW => ⟨rfl, by rw [hU]; exact Rr.nil, hK.moved hW⟩⟩
  rcases l5 with l5 | ⟨host, l5⟩
  · exact fw_back Rr (va_runS ⟨hx, hb, hml, hown, hts⟩ hM ⟨callB_of n hts (fw_good l1) rfl rfl rfl (hts _ l2) (hts _ l5) ⟨l3.1, l3.2, l4⟩ hR, hts _ hi⟩ hp rfl hn hsize hst hW hdg hcs) kk
  · exact fw_back Rr (va_runSN ⟨hx, hb, hml, hown, hts⟩ hM ⟨va_cnB n hts (fw_good l1) rfl rfl rfl (hK.2.1 _ l5) (hts _ l2) ⟨l3.1, l3.2, l4⟩ hR, hts _ hi, trivial⟩ hp rfl hn hsize hst hW hdg hcs) kk
theorem fw_callI (C : fw_C G own cc nL ret p s m args meth c) (Rr : fw_R G kd S H locs) (LK : fw_L own idx y cc' nL' none n) (hi : Cond.instanceMethod y ∈ fw_WS) (hy : y.name = "<init>") (hM : fw_M l G y cc' nL' none fr lo mc ms kd S (.ref b :: As) v S' P)
    (hn : As.length = n) (hsize : ls.size = nL) (hst : st = As.reverse ++ .ref b :: rest) (hW : 2 * (F0 m pc ls st).monitorRoom + (rest.map fun v => v.category).sum ≤ 8) (hR : fr + 1 ≤ Rm.frames ∧ 8 + (nL' + 11) + lo ≤ Rm.locals) (hcs : cells + mc ≤ Rm.cells ∧ slots + ms ≤ Rm.slots) (hdg : decode cc pc = .ok (.invokespecial idx, 3))
    (kk : ∀ (H1 : Heap) (locs1 : List Loc) (kd' : Nat → Option Nat), fw_X kd kd' → P kd' → fw_R G kd' S' H1 locs1 → W p l e Rm s m args below meth c H1 locs1 (cells + mc) (slots + ms) Q (F0 m (pc + 3) ls (v.toList ++ rest))) : W p l e Rm s m args below meth c H locs cells slots Q (F0 m pc ls st) := by
  obtain ⟨hx, hb, hml, hown, hts, -, -, hK⟩ := C
  obtain ⟨l1, l2, l3, l4, l5⟩ := LK
  have hp : PreS s H (va_Pc (.ref b :: As) (fun U => fw_R G kd S U.heap [] ∧ fw_K G U)) (.ref b :: As) := ⟨fw_blind, fun U hU hW => ⟨rfl, by rw [hU]; exact Rr.nil, hK.moved hW⟩⟩
  rcases l5 with l5 | ⟨host, l5⟩
  · exact fw_back Rr (va_runI ⟨hx, hb, hml, hown, hts⟩ hM ⟨callB_of n hts (fw_good l1) rfl rfl rfl (hts _ l2) (hts _ l5) ⟨l3.1, l3.2, l4⟩ hR, hy, hts _ hi⟩ hp rfl hn hsize hst hW hdg hcs) kk
  · exact fw_back Rr (va_runIN ⟨hx, hb, hml, hown, hts⟩ hM ⟨va_cnB n hts (fw_good l1) rfl rfl rfl (hK.2.1 _ l5) (hts _ l2) ⟨l3.1, l3.2, l4⟩ hR, hy, hts _ hi⟩ hp rfl hn hsize hst hW hdg hcs) kk
theorem fw_min (C : fw_C G own cc nL ret p s m args meth c) (hl : Cond.methodLink own idx Lib.Math.min.name ∈ fw_WS) (h1 : Cond.static Lib.Math.min.name ∈ fw_WS) (h2 : Cond.initialized "java/lang/Math" ∈ fw_WS) (h3 : Cond.code Lib.Math.min.name Lib.Math.min.code 2 (some .int) ∈ fw_WS) (hsize : ls.size = nL)
    (hf : 1 ≤ Rm.frames) (hlo : (rest.map fun v => v.category).sum + 13 ≤ Rm.locals) (hc : cells ≤ Rm.cells) (hs : slots ≤ Rm.slots) {x z : Int32} (hdg : decode cc pc = .ok (.invokestatic idx, 3))
    (kk : W p l e Rm s m args below meth c H locs cells slots Q (F0 m (pc + 3) ls (.int (if z < x then z else x) :: rest))) : W p l e Rm s m args below meth c H locs cells slots Q (F0 m pc ls (.int z :: .int x :: rest)) :=
  va_mmin C.1 C.2.1 (C.2.2.1.trans hsize.symm) C.2.2.2.1 (C.2.2.2.2.1 _ hl) (C.2.2.2.2.1 _ h1) (C.2.2.2.2.1 _ h2) (C.2.2.2.2.1 _ h3) hf hlo hc hs hdg kk
theorem fw_max (C : fw_C G own cc nL ret p s m args meth c) (hl : Cond.methodLink own idx Lib.Math.max.name ∈ fw_WS) (h1 : Cond.static Lib.Math.max.name ∈ fw_WS) (h2 : Cond.initialized "java/lang/Math" ∈ fw_WS) (h3 : Cond.code Lib.Math.max.name Lib.Math.max.code 2 (some .int) ∈ fw_WS) (hsize : ls.size = nL)
    (hf : 1 ≤ Rm.frames) (hlo : (rest.map fun v => v.category).sum + 13 ≤ Rm.locals) (hc : cells ≤ Rm.cells) (hs : slots ≤ Rm.slots) {x z : Int32} (hdg : decode cc pc = .ok (.invokestatic idx, 3))
    (kk : W p l e Rm s m args below meth c H locs cells slots Q (F0 m (pc + 3) ls (.int (if x < z then z else x) :: rest))) : W p l e Rm s m args below meth c H locs cells slots Q (F0 m pc ls (.int z :: .int x :: rest)) :=
  va_mmax C.1 C.2.1 (C.2.2.1.trans hsize.symm) C.2.2.2.1 (C.2.2.2.2.1 _ hl) (C.2.2.2.2.1 _ h1) (C.2.2.2.2.1 _ h2) (C.2.2.2.2.1 _ h3) hf hlo hc hs hdg kk
theorem fw_obj (C : fw_C G own cc nL ret p s m args meth c) (hl : Cond.methodLink own idx objectInit ∈ fw_WS) (h1 : Cond.instanceMethod objectInit ∈ fw_WS) (h2 : Cond.code objectInit ⟨#[0xb1]⟩ 1 none ∈ fw_WS) (hsize : ls.size = nL) (hd : decode cc pc = .ok (.invokespecial idx, 3))
    (hf : 1 ≤ Rm.frames) (hlo : 2 * (F0 m pc ls (.ref a :: rest)).monitorRoom + (rest.map fun v => v.category).sum + 12 ≤ Rm.locals)
    (kk : W p l e Rm s m args below meth c H locs cells slots Q (F0 m (pc + 3) ls rest)) : W p l e Rm s m args below meth c H locs cells slots Q (F0 m pc ls (.ref a :: rest)) :=
  W.objInit C.1 C.2.1 C.2.2.2.1 (C.2.2.2.2.1 _ hl) (C.2.2.2.2.1 _ h1) (C.2.2.2.2.1 _ h2) rfl (hsize.trans C.2.2.1.symm) rfl hd hf hlo kk
-- ends
variable {kd0 : Nat → Option Nat}
theorem fw_iret {x : Int32} (C : fw_C G own cc nL (some .int) p s m args meth c) (hX : fw_X kd0 kd) (hP : P kd) (Rr : fw_R G kd S H locs) (hdg : decode cc pc = .ok (.ireturn, 1)) : W p l e Rm s m args below meth c H locs cells slots (MQ below (fw_Q G kd0 (some (.int x)) S P) args s cells slots (fw_A G)) (F0 m pc ls [.int x]) :=
  W.iret C.1 C.2.1 C.2.2.2.2.2.2.1 (fun t ht _ => ⟨rfl, kd, hX, hP, by rw [ht]; exact Rr.nil⟩) Rr.2.2.2.1 hdg C.2.2.2.2.2.1
theorem fw_zret {x : Int32} (C : fw_C G own cc nL (some .boolean) p s m args meth c) (hx : x = 0 ∨ x = 1) (hX : fw_X kd0 kd) (hP : P kd) (Rr : fw_R G kd S H locs) (hdg : decode cc pc = .ok (.ireturn, 1)) : W p l e Rm s m args below meth c H locs cells slots (MQ below (fw_Q G kd0 (some (.int x)) S P) args s cells slots (fw_A G)) (F0 m pc ls [.int x]) :=
  W.zret C.1 C.2.1 C.2.2.2.2.2.2.1 (fw_z01 hx).1 (fun t ht _ => ⟨rfl, kd, hX, hP, by rw [ht]; exact Rr.nil⟩) Rr.2.2.2.1 hdg C.2.2.2.2.2.1
theorem fw_vret (C : fw_C G own cc nL none p s m args meth c) (hX : fw_X kd0 kd) (hP : P kd) (Rr : fw_R G kd S H locs) (hdg : decode cc pc = .ok (.return_, 1)) : W p l e Rm s m args below meth c H locs cells slots (MQ below (fw_Q G kd0 none S P) args s cells slots (fw_A G)) (F0 m pc ls []) :=
  W.vret C.1 C.2.1 C.2.2.2.2.2.2.1 (fun t ht _ => ⟨rfl, kd, hX, hP, by rw [ht]; exact Rr.nil⟩) Rr.2.2.2.1 hdg C.2.2.2.2.2.1
theorem fw_aret {Cn : String} {o : Option Nat} (C : fw_C G own cc nL (some (.object Cn)) p s m args meth c) (hX : fw_X kd0 kd) (hP : P kd) (Rr : fw_R G kd S H locs) (hdg : decode cc pc = .ok (.areturn, 1)) : W p l e Rm s m args below meth c H locs cells slots (MQ below (fw_Q G kd0 (some (va_rf o)) S P) args s cells slots (fw_A G)) (F0 m pc ls [va_rf o]) :=
  W.aret C.1 C.2.1 C.2.2.2.2.2.2.1 (Or.inl ⟨_, rfl⟩) (by cases o <;> simp [va_rf]) (fun t ht _ => ⟨rfl, kd, hX, hP, by rw [ht]; exact Rr.nil⟩) Rr.2.2.2.1 hdg C.2.2.2.2.2.1
end FWC
