/-! The start: the tables give the context; what is owed of the functions is one equation. -/
def fw_S0 (z : Nat) : fw_S := ((fun _ _ => 0), (fun _ _ => none), (fun _ => 0), z)
theorem fw_arr {args : Array Value} {s : State} {ty : FieldType} (h : (Cond.arrayClass ty).before args s = true) : ∃ c, ArrOfT s c ty ∧ s.vm.findClass ("[" ++ ty.toString) = some c := by
  obtain ⟨c, k, comp, h1, h2, h3⟩ := Cond.arrayClass_spec h
  exact ⟨c, fun n z => ⟨fun k h => (by cases h), k, h2, comp, h3⟩, h1⟩
theorem fw_arrO {args : Array Value} {s : State} {C : String} (h : (Cond.arrayOver (.object C)).before args s = true) : ∃ c, ArrOfT s c (.object C) ∧ va_RA s c (.object C) := by
  obtain ⟨comp, c, k, h1, -, h3, h4, h5⟩ := Cond.arrayOver_spec h
  exact ⟨c, fun n z => ⟨fun k h => (by cases h), k, h3, comp, h4⟩, k, comp, h3, h4, h1, h5⟩
set_option maxHeartbeats 4000000 in
set_option maxRecDepth 100000 in
theorem whole_start_open (hB : ∀ (z L : Nat) (xs : Nat → Int32), L ≤ 2048 → F_Law L xs (fw_S0 z) = some 1) {p : Program} {e : Env} {s : State} {m : MethodId} {below : List Frame} {meth : Method} {c : Code} (l : Launch) {b L : Nat} {xs : Nat → Int32} (hL : L ≤ 2048) (C0 : lw_At p s m meth c b L xs) : W p l e room_1 s m #[Value.ref b] below meth c s.heap [] 0 0 (lw_Z below #[Value.ref b] s) (entryFrame m ([Value.ref b] : List Value).toArray 4) := by
  obtain ⟨hx, hb, hr, hml, hown, hts, hX, hbl, hlocks, hgv⟩ := C0
  obtain ⟨c0, iS0, hKn0⟩ := u_known (C := "FederationWire$Frame") (T := fT_0) (N := 4) (n := 4) hts cw_0 (hts _ (fw_WS_in _ ni_0))
  obtain ⟨c1, iS1, hKn1⟩ := u_known (C := "FederationWire$Memory") (T := fT_1) (N := 4) (n := 4) hts cw_1 (hts _ (fw_WS_in _ ni_1))
  obtain ⟨c2, iS2, hKn2⟩ := u_known (C := "FederationWire$Pairs") (T := fT_2) (N := 3) (n := 3) hts cw_2 (hts _ (fw_WS_in _ ni_2))
  obtain ⟨c3, iS3, hKn3⟩ := u_known (C := "FederationWire$Request") (T := fT_3) (N := 16) (n := 16) hts cw_3 (hts _ (fw_WS_in _ ni_3))
  obtain ⟨c4, iS4, hKn4⟩ := u_known (C := "FederationWire$ServingEnd") (T := fT_4) (N := 5) (n := 5) hts cw_4 (hts _ (fw_WS_in _ ni_4))
  obtain ⟨c5, iS5, hKn5⟩ := u_known (C := "FederationWire$Wire") (T := fT_5) (N := 7) (n := 7) hts cw_5 (hts _ (fw_WS_in _ ni_5))
  obtain ⟨c6, iS6, hKn6⟩ := u_known (C := "FederationWire") (T := fT_6) (N := 13) (n := 13) hts cw_6 (hts _ (fw_WS_in _ ni_6))
  obtain ⟨c7, iS7, hKn7⟩ := u_known (C := "FederationWireModel") (T := fT_7) (N := 51) (n := 51) hts cw_7 (hts _ (fw_WS_in _ ni_7))
  obtain ⟨tI, aI, fI⟩ := fw_arr (hts _ (fw_WS_in _ ac_int))
  obtain ⟨tZ, aZ, fZ⟩ := fw_arr (hts _ (fw_WS_in _ ac_boolean))
  have hO1 := hts (Cond.arrayOver (.object "FederationWire$Memory")) (fw_tb (i := 54) (by decide +kernel))
  obtain ⟨t1, a1, f1⟩ := fw_arrO hO1
  have hO3 := hts (Cond.arrayOver (.object "FederationWire$Request")) (fw_tb (i := 21) (by decide +kernel))
  obtain ⟨t3, a3, f3⟩ := fw_arrO hO3
  have hO5 := hts (Cond.arrayOver (.object "FederationWire$Wire")) (fw_tb (i := 19) (by decide +kernel))
  obtain ⟨t5, a5, f5⟩ := fw_arrO hO5
  obtain ⟨dC, hdC⟩ : ∃ f : Nat → ClassId, f = fun k => if k = 0 then c0 else if k = 1 then c1 else if k = 2 then c2 else if k = 3 then c3 else if k = 4 then c4 else if k = 5 then c5 else if k = 6 then c6 else c7 := ⟨_, rfl⟩
  obtain ⟨dI, hdI⟩ : ∃ f : Nat → Nat → Nat, f = fun k => if k = 0 then iS0 else if k = 1 then iS1 else if k = 2 then iS2 else if k = 3 then iS3 else if k = 4 then iS4 else if k = 5 then iS5 else if k = 6 then iS6 else iS7 := ⟨_, rfl⟩
  obtain ⟨tA, htA⟩ : ∃ f : Nat → ClassId, f = fun k => if k = 101 then tZ else if k = 201 then t1 else if k = 203 then t3 else if k = 205 then t5 else tI := ⟨_, rfl⟩
  have hK : fw_K ((dC, dI), tA, s.heap) s := by
    refine ⟨⟨fun k q hq => ?_, fun k q hq => ?_⟩, fun w hw => va_Nw.of (by have := fw_NS_ok w hw; cases w <;> first | rfl | cases this) (hts w (fw_NS_in w hw)), fun C hC => ?_⟩
    · subst hdC hdI
      match k, hq with
      | 0, hq => cases hq; exact hKn0
      | 1, hq => cases hq; exact hKn1
      | 2, hq => cases hq; exact hKn2
      | 3, hq => cases hq; exact hKn3
      | 4, hq => cases hq; exact hKn4
      | 5, hq => cases hq; exact hKn5
      | 6, hq => cases hq; exact hKn6
      | 7, hq => cases hq; exact hKn7
      | k + 8, hq => simp at hq
    · subst htA
      match k, hq with
      | 0, hq => cases hq; exact ⟨aI, fI⟩
      | 1, hq => cases hq; exact ⟨aZ, fZ⟩
      | 2, hq => cases hq; exact ⟨a1, f1⟩
      | 3, hq => cases hq; exact ⟨a3, f3⟩
      | 4, hq => cases hq; exact ⟨a5, f5⟩
      | k + 5, hq => simp [fw_T] at hq
    · simp only [List.mem_cons, List.not_mem_nil, or_false] at hC
      rcases hC with rfl | rfl | rfl
      · exact va_AO.of hO1
      · exact va_AO.of hO3
      · exact va_AO.of hO5
  rw [lg_entry_eq]
  exact law_start (G := ((dC, dI), tA, s.heap)) ⟨hx, hb, hml, hown, fun w hw => hts w (fw_WS_in w hw), hlocks, hr, hK⟩ hX hbl (Nat.not_le.mpr hbl) rfl (fw_S0 s.heap.size) (fun _ => none) s.heap _ ⟨(fun a K h => by cases h), fun _ _ => rfl, Nat.le_refl _, (fun _ h => by cases h), rfl, (fun a K h => by cases h)⟩ (lv_entry ([.ref b]) (n := 4) (Nat.le_of_ble_eq_true rfl)) (hB _ _ _ hL)
