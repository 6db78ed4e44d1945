/-! An abstract store (ints, references, lengths, the next address), what it is on the heap, and the kit's rows over it. -/
abbrev fw_S : Type := (Nat → Nat → Int32) × (Nat → Nat → Option Nat) × (Nat → Nat) × Nat
def fw_g (S : fw_S) (a : Nat) : Nat → Int32 := S.1 a
def fw_r (S : fw_S) (a : Nat) : Nat → Option Nat := S.2.1 a
def fw_l (S : fw_S) (a : Nat) : Nat := S.2.2.1 a
def fw_z (S : fw_S) : Nat := S.2.2.2
def fw_wi (S : fw_S) (a k : Nat) (v : Int32) : fw_S := (va_up S.1 a (va_up (S.1 a) k v), S.2.1, S.2.2.1, S.2.2.2)
def fw_wr (S : fw_S) (a k : Nat) (v : Option Nat) : fw_S := (S.1, va_up S.2.1 a (va_up (S.2.1 a) k v), S.2.2.1, S.2.2.2)
def fw_nw (S : fw_S) (n : Nat) : fw_S := (va_up S.1 S.2.2.2 (fun _ => 0), va_up S.2.1 S.2.2.2 (fun _ => none), va_up S.2.2.1 S.2.2.2 n, S.2.2.2 + 1)
def fw_let {α β : Type} (a : α) (f : α → β) : β := f a
def fw_om {α β : Type} (o : Option α) (n : β) (f : α → β) : β := match o with
  | none => n
  | some a => f a
theorem fw_let_use {α β : Type} {a x : α} {f : α → β} {y : β} (hx : x = a) (h : fw_let a f = y) : f x = y := by subst hx; exact h
theorem fw_om_none {α β : Type} {o : Option α} {n y : β} {f : α → β} (ho : o = none) (h : fw_om o n f = y) : n = y := by subst ho; exact h
theorem fw_om_some {α β : Type} {o : Option α} {n y : β} {f : α → β} {a : α} (ho : o = some a) (h : fw_om o n f = y) : f a = y := by subst ho; exact h
theorem fw_if_t {β : Type} {c : Prop} [Decidable c] {a b y : β} (hc : c) (h : (if c then a else b) = y) : a = y := by rw [if_pos hc] at h; exact h
theorem fw_if_f {β : Type} {c : Prop} [Decidable c] {a b y : β} (hc : ¬ c) (h : (if c then a else b) = y) : b = y := by rw [if_neg hc] at h; exact h
theorem fw_bind {α β : Type} {o : Option α} {f : α → Option β} {y : β} (h : o.bind f = some y) : ∃ x, o = some x ∧ f x = some y := Option.bind_eq_some_iff.mp h
-- reads behind writes
theorem fw_g_wi (S : fw_S) (a k : Nat) (v : Int32) (b j : Nat) : fw_g (fw_wi S a k v) b j = if b = a ∧ j = k then v else fw_g S b j := by
  by_cases hb : b = a
  · subst hb
    by_cases hj : j = k
    · subst hj; simp [fw_g, fw_wi, va_up]
    · simp [fw_g, fw_wi, va_up, hj]
  · simp [fw_g, fw_wi, va_up, hb]
theorem fw_g_wi_ne {S : fw_S} {a k b : Nat} {v : Int32} (h : b ≠ a) : fw_g (fw_wi S a k v) b = fw_g S b := va_up_ne _ _ h
theorem fw_g_wi_self {S : fw_S} {a k : Nat} {v : Int32} : fw_g (fw_wi S a k v) a = va_up (fw_g S a) k v := va_up_self _ _ _
theorem fw_g_wr (S : fw_S) (a k : Nat) (v : Option Nat) (b : Nat) : fw_g (fw_wr S a k v) b = fw_g S b := rfl
theorem fw_r_wi (S : fw_S) (a k : Nat) (v : Int32) (b : Nat) : fw_r (fw_wi S a k v) b = fw_r S b := rfl
theorem fw_l_wi (S : fw_S) (a k : Nat) (v : Int32) (b : Nat) : fw_l (fw_wi S a k v) b = fw_l S b := rfl
theorem fw_z_wi (S : fw_S) (a k : Nat) (v : Int32) : fw_z (fw_wi S a k v) = fw_z S := rfl
theorem fw_l_wr (S : fw_S) (a k : Nat) (v : Option Nat) (b : Nat) : fw_l (fw_wr S a k v) b = fw_l S b := rfl
theorem fw_z_wr (S : fw_S) (a k : Nat) (v : Option Nat) : fw_z (fw_wr S a k v) = fw_z S := rfl
theorem fw_r_wr_ne {S : fw_S} {a k b : Nat} {v : Option Nat} (h : b ≠ a) : fw_r (fw_wr S a k v) b = fw_r S b := va_up_ne _ _ h
theorem fw_r_wr_self {S : fw_S} {a k : Nat} {v : Option Nat} : fw_r (fw_wr S a k v) a = va_up (fw_r S a) k v := va_up_self _ _ _
theorem fw_r_wr (S : fw_S) (a k : Nat) (v : Option Nat) (b j : Nat) : fw_r (fw_wr S a k v) b j = if b = a ∧ j = k then v else fw_r S b j := by
  by_cases hb : b = a
  · subst hb
    by_cases hj : j = k
    · subst hj; simp [fw_r, fw_wr, va_up]
    · simp [fw_r, fw_wr, va_up, hj]
  · simp [fw_r, fw_wr, va_up, hb]
theorem fw_g_nw_ne {S : fw_S} {n b : Nat} (h : b ≠ fw_z S) : fw_g (fw_nw S n) b = fw_g S b := va_up_ne _ _ h
theorem fw_r_nw_ne {S : fw_S} {n b : Nat} (h : b ≠ fw_z S) : fw_r (fw_nw S n) b = fw_r S b := va_up_ne _ _ h
theorem fw_l_nw_ne {S : fw_S} {n b : Nat} (h : b ≠ fw_z S) : fw_l (fw_nw S n) b = fw_l S b := va_up_ne _ _ h
theorem fw_g_nw_self {S : fw_S} {n : Nat} : fw_g (fw_nw S n) (fw_z S) = fun _ => 0 := va_up_self _ _ _
theorem fw_r_nw_self {S : fw_S} {n : Nat} : fw_r (fw_nw S n) (fw_z S) = fun _ => none := va_up_self _ _ _
theorem fw_l_nw_self {S : fw_S} {n : Nat} : fw_l (fw_nw S n) (fw_z S) = n := va_up_self _ _ _
theorem fw_z_nw (S : fw_S) (n : Nat) : fw_z (fw_nw S n) = fw_z S + 1 := rfl
-- cells: kind K < 100 an object of class K; 100 .. 199 an array of numbers; 200 + K an array of references to kind K
def fw_fv (K : Nat) (g : Nat → Int32) (r : Nat → Option Nat) (j : Nat) : Value := match (fw_ft K)[j]? with
  | some (some _) => va_rf (r j)
  | _ => .int (g j)
def fw_fl (K : Nat) (g : Nat → Int32) (r : Nat → Option Nat) : List Value := (List.range (fw_ft K).length).map (fw_fv K g r)
def fw_cell (tA : Nat → ClassId) (K n : Nat) (g : Nat → Int32) (r : Nat → Option Nat) : va_E := if K < 100 then .inr (K, fw_fl K g r) else if K < 200 then .inl (tA K, n, .inl g) else .inl (tA K, n, .inr (.inr (.inr (.inr r))))
def fw_rt (K k : Nat) : Option Nat := if K < 100 then ((fw_ft K)[k]?).bind id else if 200 ≤ K then some (K - 200) else none
def fw_W (kd : Nat → Option Nat) (S : fw_S) : Prop := ∀ (a K : Nat), kd a = some K → ∀ (k b : Nat), fw_r S a k = some b → ∀ K' : Nat, fw_rt K k = some K' → kd b = some K'
def fw_X (kd kd' : Nat → Option Nat) : Prop := ∀ (a K : Nat), kd a = some K → kd' a = some K
theorem fw_X.rf {kd : Nat → Option Nat} : fw_X kd kd := fun _ _ h => h
theorem fw_X.tr {k1 k2 k3 : Nat → Option Nat} (h : fw_X k1 k2) (h' : fw_X k2 k3) : fw_X k1 k3 := fun a K q => h' a K (h a K q)
theorem fw_fl_i {K k : Nat} {g : Nat → Int32} {r : Nat → Option Nat} {v : Int32} (hf : (fw_ft K)[k]? = some none) : (fw_fl K g r).set k (.int v) = fw_fl K (va_up g k v) r := by
  have hk : k < (fw_ft K).length := (List.getElem?_eq_some_iff.mp hf).1
  apply List.ext_getElem?
  intro j
  by_cases hj : j = k
  · subst hj
    rw [List.getElem?_set_self (by simp [fw_fl, hk])]
    have h1 : fw_fv K (va_up g j v) r j = .int v := by unfold fw_fv; rw [hf]; simp [va_up]
    simp only [fw_fl, List.getElem?_map, List.getElem?_range hk, Option.map_some, h1]
  · rw [List.getElem?_set_ne (Ne.symm hj)]
    simp only [fw_fl, List.getElem?_map]
    by_cases hl : j < (fw_ft K).length
    · simp [hl, fw_fv, va_up, hj]
    · simp [hl]
theorem fw_fl_r {K k K' : Nat} {g : Nat → Int32} {r : Nat → Option Nat} {v : Option Nat} (hf : (fw_ft K)[k]? = some (some K')) : (fw_fl K g r).set k (va_rf v) = fw_fl K g (va_up r k v) := by
  have hk : k < (fw_ft K).length := (List.getElem?_eq_some_iff.mp hf).1
  apply List.ext_getElem?
  intro j
  by_cases hj : j = k
  · subst hj
    rw [List.getElem?_set_self (by simp [fw_fl, hk])]
    have h1 : fw_fv K g (va_up r j v) j = va_rf v := by unfold fw_fv; rw [hf]; simp [va_up]
    simp only [fw_fl, List.getElem?_map, List.getElem?_range hk, Option.map_some, h1]
  · rw [List.getElem?_set_ne (Ne.symm hj)]
    simp only [fw_fl, List.getElem?_map]
    by_cases hl : j < (fw_ft K).length
    · simp [hl, fw_fv, va_up, hj]
    · simp [hl]
-- the context: classes and slots D, array classes tA, the heap at the start of the law
abbrev fw_G : Type := va_G × (Nat → ClassId) × Heap
def fw_A (G : fw_G) : Nat → Prop := fun q => G.2.2.size ≤ q
def fw_T (G : fw_G) : List (ClassId × FieldType) := fw_tys.map (fun q => (G.2.1 q.1, q.2))
def fw_K (G : fw_G) (U : State) : Prop := va_K G.1 fw_cl (fw_T G) U ∧ (∀ w ∈ fw_NS, va_Nw w U) ∧ ∀ C ∈ fw_ao, va_AO C U
theorem fw_K.moved {G : fw_G} {s U : State} (hW : s.WarmedH U.vm) (h : fw_K G s) : fw_K G U := by
  refine ⟨va_K.moved hW.alike h.1, fun w hw => ?_, fun C hC => va_AO.moved hW.alike (h.2.2 C hC)⟩
  have h1 := h.2.1 w hw
  have h2 := fw_NS_ok w hw
  cases w <;> first | exact va_Nw.warmF hW h1 | exact va_Nw.warmM hW h1 | (exact absurd h2 (by decide)) | cases h2
theorem fw_K.calling {G : fw_G} {U : State} {g : JFrame} {mk : MethodId} {a : Array Value} (h : fw_K G U) : fw_K G (U.calling g mk a) := by
  refine ⟨va_K.moved (u := U) (U := U.calling g mk a) (Vm.Alike.refl U.vm) h.1, fun w hw => ?_, fun C hC => va_AO.moved (u := U) (U := U.calling g mk a) (Vm.Alike.refl U.vm) (h.2.2 C hC)⟩
  have h2 := fw_NS_ok w hw
  have h1 := h.2.1 w hw
  cases w <;> first | exact va_Nw.same rfl (u := U) rfl h1 | cases h2
def fw_R (G : fw_G) (kd : Nat → Option Nat) (S : fw_S) (H : Heap) (locs : List Loc) : Prop :=
  (∀ (a K : Nat), kd a = some K → G.2.2.size ≤ a ∧ va_at G.1 fw_cl (a, fw_cell G.2.1 K (fw_l S a) (fw_g S a) (fw_r S a)) H) ∧ (∀ q : Nat, q < G.2.2.size → H[q]? = G.2.2[q]?) ∧ G.2.2.size ≤ H.size ∧ (∀ l ∈ locs, G.2.2.size ≤ l.base) ∧ H.size = fw_z S ∧ fw_W kd S
