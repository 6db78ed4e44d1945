set_option maxHeartbeats 4000000 in
set_option maxRecDepth 100000 in
theorem ct_FW_wireAt (l : Launch) (G : fw_G) (kd0 : Nat → Option Nat) (S0 : fw_S) (a0 : Nat) (p1 : Int32) (r0 : Option Nat) (hk_a0 : kd0 a0 = some 6) (hE : F_FW_wireAt a0 p1 S0 = some r0) : fw_M l G y_FW_wireAt prog_1_method_19_code 2 (some (.object "FederationWire$Wire")) 0 0 0 0 kd0 S0 ([.ref a0, .int p1] : List Value) (some (va_rf r0)) S0 (fun k => k = kd0 ∧ ∀ b, r0 = some b → k b = some 5) := by
  refine fw_start (by decide) (Nat.le_of_ble_eq_true rfl) ?_
  intro p e s m below meth c ls C hnm R hl
  clear hnm
  have hx := C.1
  have hb := C.2.1
  have hl : lv_has ls 2 [(0, .ref a0), (1, .int p1)] := hl
  unfold F_FW_wireAt at hE
  refine lv_iload_n hx hb d_FW_wireAt_0 rfl (lv_at hl 1 rfl) ?_
  refine lv_if_lt (tgt := 22) hx hb d_FW_wireAt_1 (by decide) (fun hc => ?_) (fun hc => ?_)
  · replace hE := fw_if_t hc hE
    refine lv_null hx hb d_FW_wireAt_22 ?_
    cases hE
    exact fw_aret (o := none) C fw_X.rf ⟨rfl, (fun _ h => by cases h)⟩ R d_FW_wireAt_23
  · replace hE := fw_if_f hc hE
    refine lv_iload_n hx hb d_FW_wireAt_4 rfl (lv_at hl 1 rfl) ?_
    refine lv_aload_n hx hb d_FW_wireAt_5 rfl (lv_at hl 0 rfl) ?_
    refine fw_getr C R ft_field_6_11 hk_a0 rfl rfl d_FW_wireAt_6 (fun hq => ?_) (fun b1 hq hk_b1 => ?_)
    · replace hE := fw_om_none hq hE
      cases hE
    · replace hE := fw_om_some hq hE
      refine fw_alen (K := 205) (ty := .object "FederationWire$Wire") C R (by decide) (by decide) hk_b1 d_FW_wireAt_9 ?_
      refine lv_icmp_ge (tgt := 22) hx hb d_FW_wireAt_10 (by decide) (fun hc => ?_) (fun hc => ?_)
      · replace hE := fw_if_t hc hE
        refine lv_null hx hb d_FW_wireAt_22 ?_
        cases hE
        exact fw_aret (o := none) C fw_X.rf ⟨rfl, (fun _ h => by cases h)⟩ R d_FW_wireAt_23
      · replace hE := fw_if_f hc hE
        refine lv_aload_n hx hb d_FW_wireAt_13 rfl (lv_at hl 0 rfl) ?_
        refine fw_getr C R ft_field_6_11 hk_a0 rfl rfl d_FW_wireAt_14 (fun hq => ?_) (fun b2 hq hk_b2 => ?_)
        · replace hE := fw_om_none hq hE
          refine lv_iload_n hx hb d_FW_wireAt_17 rfl (lv_at hl 1 rfl) ?_
          cases hE
        · replace hE := fw_om_some hq hE
          refine lv_iload_n hx hb d_FW_wireAt_17 rfl (lv_at hl 1 rfl) ?_
          obtain ⟨hi3, hE⟩ := fw_ifn hE
          refine fw_aaldr (K := 5) (ty := .object "FederationWire$Wire") C R (by decide) rfl hk_b2 hi3 d_FW_wireAt_18 (fun hq => ?_) (fun b4 hq hk_b4 => ?_)
          · replace hE := fw_om_none hq hE
            refine lv_goto (tgt := 23) hx hb d_FW_wireAt_19 (by decide) ?_
            cases hE
            exact fw_aret (o := none) C fw_X.rf ⟨rfl, (fun _ h => by cases h)⟩ R d_FW_wireAt_23
          · replace hE := fw_om_some hq hE
            refine lv_goto (tgt := 23) hx hb d_FW_wireAt_19 (by decide) ?_
            cases hE
            exact fw_aret (o := (some b4)) C fw_X.rf ⟨rfl, (fun _ h => by cases h; exact hk_b4)⟩ R d_FW_wireAt_23
set_option maxHeartbeats 4000000 in
set_option maxRecDepth 100000 in
theorem ct_FW_houseWire (l : Launch) (G : fw_G) (kd0 : Nat → Option Nat) (S0 : fw_S) (a0 : Nat) (p1 : Int32) (r0 : Option Nat) (hk_a0 : kd0 a0 = some 6) (hE : F_FW_houseWire a0 p1 S0 = some r0) : fw_M l G y_FW_houseWire prog_1_method_20_code 2 (some (.object "FederationWire$Wire")) 1 21 0 0 kd0 S0 ([.ref a0, .int p1] : List Value) (some (va_rf r0)) S0 (fun k => k = kd0 ∧ ∀ b, r0 = some b → k b = some 5) := by
  refine fw_start (by decide) (Nat.le_of_ble_eq_true rfl) ?_
  intro p e s m below meth c ls C hnm R hl
  clear hnm
  have hx := C.1
  have hb := C.2.1
  have hl : lv_has ls 2 [(0, .ref a0), (1, .int p1)] := hl
  unfold F_FW_houseWire at hE
  refine lv_iload_n hx hb d_FW_houseWire_0 rfl (lv_at hl 1 rfl) ?_
  refine lv_iconst (v := 4) hx hb d_FW_houseWire_1 (by decide) ?_
  refine lv_icmp_ge (tgt := 13) hx hb d_FW_houseWire_2 (by decide) (fun hc => ?_) (fun hc => ?_)
  · replace hE := fw_if_t hc hE
    refine lv_null hx hb d_FW_houseWire_13 ?_
    cases hE
    exact fw_aret (o := none) C fw_X.rf ⟨rfl, (fun _ h => by cases h)⟩ R d_FW_houseWire_14
  · replace hE := fw_if_f hc hE
    refine lv_aload_n hx hb d_FW_houseWire_5 rfl (lv_at hl 0 rfl) ?_
    refine lv_iload_n hx hb d_FW_houseWire_6 rfl (lv_at hl 1 rfl) ?_
    obtain ⟨o1, hF, hE⟩ := fw_bind hE
    refine fw_callV (As := [.int p1]) (rest := []) C R ft_callV_6_119 yi_FW_wireAt ys_FW_wireAt (ct_FW_wireAt l G kd0 S0 _ _ _ hk_a0 hF) hk_a0 (by decide) rfl rfl hl.1 rfl (lv_room (Nat.le_of_ble_eq_true rfl)) ⟨Nat.le_of_ble_eq_true rfl, Nat.le_of_ble_eq_true rfl⟩ ⟨Nat.le_of_ble_eq_true rfl, Nat.le_of_ble_eq_true rfl⟩ d_FW_houseWire_7 (fun H locs kd2 hxkd2 hP R => ?_)
    obtain ⟨hP0, hP⟩ := hP
    rw [hP0] at hP R; clear hP0 hxkd2
    cases o1 with
    | none =>
      replace hE := fw_om_none rfl hE
      refine lv_goto (tgt := 14) hx hb d_FW_houseWire_10 (by decide) ?_
      cases hE
      exact fw_aret (o := none) C fw_X.rf ⟨rfl, (fun _ h => by cases h)⟩ R d_FW_houseWire_14
    | some b3 =>
      replace hE := fw_om_some rfl hE
      have hk_b3 := hP _ rfl
      clear hP
      refine lv_goto (tgt := 14) hx hb d_FW_houseWire_10 (by decide) ?_
      cases hE
      exact fw_aret (o := (some b3)) C fw_X.rf ⟨rfl, (fun _ h => by cases h; exact hk_b3)⟩ R d_FW_houseWire_14
set_option maxHeartbeats 4000000 in
set_option maxRecDepth 100000 in
theorem ct_FW_requestAt (l : Launch) (G : fw_G) (kd0 : Nat → Option Nat) (S0 : fw_S) (a0 : Nat) (p1 : Int32) (r0 : Option Nat) (hk_a0 : kd0 a0 = some 6) (hE : F_FW_requestAt a0 p1 S0 = some r0) : fw_M l G y_FW_requestAt prog_1_method_21_code 2 (some (.object "FederationWire$Request")) 0 0 0 0 kd0 S0 ([.ref a0, .int p1] : List Value) (some (va_rf r0)) S0 (fun k => k = kd0 ∧ ∀ b, r0 = some b → k b = some 3) := by
  refine fw_start (by decide) (Nat.le_of_ble_eq_true rfl) ?_
  intro p e s m below meth c ls C hnm R hl
  clear hnm
  have hx := C.1
  have hb := C.2.1
  have hl : lv_has ls 2 [(0, .ref a0), (1, .int p1)] := hl
  unfold F_FW_requestAt at hE
  refine lv_iload_n hx hb d_FW_requestAt_0 rfl (lv_at hl 1 rfl) ?_
  refine lv_if_lt (tgt := 30) hx hb d_FW_requestAt_1 (by decide) (fun hc => ?_) (fun hc => ?_)
  · replace hE := fw_if_t hc hE
    refine lv_null hx hb d_FW_requestAt_30 ?_
    cases hE
    exact fw_aret (o := none) C fw_X.rf ⟨rfl, (fun _ h => by cases h)⟩ R d_FW_requestAt_31
  · replace hE := fw_if_f hc hE
    refine lv_iload_n hx hb d_FW_requestAt_4 rfl (lv_at hl 1 rfl) ?_
    refine lv_aload_n hx hb d_FW_requestAt_5 rfl (lv_at hl 0 rfl) ?_
    refine fw_get (v := .int (fw_g S0 a0 2)) C R ft_field_6_21 hk_a0 rfl d_FW_requestAt_6 ?_
    refine lv_icmp_ge (tgt := 30) hx hb d_FW_requestAt_9 (by decide) (fun hc => ?_) (fun hc => ?_)
    · replace hE := fw_if_t hc hE
      refine lv_null hx hb d_FW_requestAt_30 ?_
      cases hE
      exact fw_aret (o := none) C fw_X.rf ⟨rfl, (fun _ h => by cases h)⟩ R d_FW_requestAt_31
    · replace hE := fw_if_f hc hE
      refine lv_iload_n hx hb d_FW_requestAt_12 rfl (lv_at hl 1 rfl) ?_
      refine lv_aload_n hx hb d_FW_requestAt_13 rfl (lv_at hl 0 rfl) ?_
      refine fw_getr C R ft_field_6_17 hk_a0 rfl rfl d_FW_requestAt_14 (fun hq => ?_) (fun b1 hq hk_b1 => ?_)
      · replace hE := fw_om_none hq hE
        cases hE
      · replace hE := fw_om_some hq hE
        refine fw_alen (K := 203) (ty := .object "FederationWire$Request") C R (by decide) (by decide) hk_b1 d_FW_requestAt_17 ?_
        refine lv_icmp_ge (tgt := 30) hx hb d_FW_requestAt_18 (by decide) (fun hc => ?_) (fun hc => ?_)
        · replace hE := fw_if_t hc hE
          refine lv_null hx hb d_FW_requestAt_30 ?_
          cases hE
          exact fw_aret (o := none) C fw_X.rf ⟨rfl, (fun _ h => by cases h)⟩ R d_FW_requestAt_31
        · replace hE := fw_if_f hc hE
          refine lv_aload_n hx hb d_FW_requestAt_21 rfl (lv_at hl 0 rfl) ?_
          refine fw_getr C R ft_field_6_17 hk_a0 rfl rfl d_FW_requestAt_22 (fun hq => ?_) (fun b2 hq hk_b2 => ?_)
          · replace hE := fw_om_none hq hE
            refine lv_iload_n hx hb d_FW_requestAt_25 rfl (lv_at hl 1 rfl) ?_
            cases hE
          · replace hE := fw_om_some hq hE
            refine lv_iload_n hx hb d_FW_requestAt_25 rfl (lv_at hl 1 rfl) ?_
            obtain ⟨hi3, hE⟩ := fw_ifn hE
            refine fw_aaldr (K := 3) (ty := .object "FederationWire$Request") C R (by decide) rfl hk_b2 hi3 d_FW_requestAt_26 (fun hq => ?_) (fun b4 hq hk_b4 => ?_)
            · replace hE := fw_om_none hq hE
              refine lv_goto (tgt := 31) hx hb d_FW_requestAt_27 (by decide) ?_
              cases hE
              exact fw_aret (o := none) C fw_X.rf ⟨rfl, (fun _ h => by cases h)⟩ R d_FW_requestAt_31
            · replace hE := fw_om_some hq hE
              refine lv_goto (tgt := 31) hx hb d_FW_requestAt_27 (by decide) ?_
              cases hE
              exact fw_aret (o := (some b4)) C fw_X.rf ⟨rfl, (fun _ h => by cases h; exact hk_b4)⟩ R d_FW_requestAt_31
set_option maxHeartbeats 4000000 in
set_option maxRecDepth 100000 in
theorem ct_FW_send (l : Launch) (G : fw_G) (kd0 : Nat → Option Nat) (S0 : fw_S) (a0 : Nat) (p1 : Nat) (p2 : Nat) (r0 : Int32) (S' : fw_S) (hk_a0 : kd0 a0 = some 6) (hk_p1 : kd0 p1 = some 0) (hk_p2 : kd0 p2 = some 5) (hE : F_FW_send a0 p1 p2 S0 = some (r0, S')) : fw_M l G y_FW_send prog_1_method_22_code 4 (some .boolean) 2 44 0 0 kd0 S0 ([.ref a0, .ref p1, .ref p2] : List Value) (some (.int r0)) S' (fun k => k = kd0) := by
  refine fw_start (by decide) (Nat.le_of_ble_eq_true rfl) ?_
  intro p e s m below meth c ls C hnm R hl
  clear hnm
  have hx := C.1
  have hb := C.2.1
  have hl : lv_has ls 4 [(0, .ref a0), (1, .ref p1), (2, .ref p2)] := hl
  unfold F_FW_send at hE
  refine lv_aload_n hx hb d_FW_send_0 rfl (lv_at hl 2 rfl) ?_
  refine lv_aload_n hx hb d_FW_send_1 rfl (lv_at hl 1 rfl) ?_
  obtain ⟨x2, S1, hF, hE⟩ := fw_b2_ex hE
  refine fw_callV (As := [.ref p1]) (rest := []) C R ft_callV_6_187 yi_Wire_send ys_Wire_send (ct_Wire_send l G kd0 S0 _ _ _ _ hk_p2 hk_p1 hF) hk_p2 (by decide) rfl rfl hl.1 rfl (lv_room (Nat.le_of_ble_eq_true rfl)) ⟨Nat.le_of_ble_eq_true rfl, Nat.le_of_ble_eq_true rfl⟩ ⟨Nat.le_of_ble_eq_true rfl, Nat.le_of_ble_eq_true rfl⟩ d_FW_send_2 (fun H locs kd3 hxkd3 hP R => ?_)
  rw [hP] at R; clear hP hxkd3
  refine lv_istore_n (lv' := [(3, .int x2), (0, .ref a0), (1, .ref p1), (2, .ref p2)]) hx hb d_FW_send_5 rfl hl (by decide) rfl (fun ls hl => ?_)
  refine lv_iload_n hx hb d_FW_send_6 rfl (lv_at hl 0 rfl) ?_
  refine lv_if_ne (tgt := 20) hx hb d_FW_send_7 (by decide) (fun hc => ?_) (fun hc => ?_)
  · replace hE := fw_if_f hc hE
    refine lv_iload_n hx hb d_FW_send_20 rfl (lv_at hl 0 rfl) ?_
    obtain ⟨hz4, hE⟩ := fw_ifp hE
    cases hE
    exact fw_zret C hz4 fw_X.rf rfl R d_FW_send_21
  · replace hE := fw_if_t hc hE
    refine lv_aload_n hx hb d_FW_send_10 rfl (lv_at hl 1 rfl) ?_
    refine lv_dup hx hb d_FW_send_11 rfl ?_
    refine fw_get (v := .int (fw_g S1 a0 12)) C R ft_field_6_64 hk_a0 rfl d_FW_send_12 ?_
    refine lv_iconst (v := 1) hx hb d_FW_send_15 (by decide) ?_
    refine lv_iadd hx hb d_FW_send_16 ?_
    refine fw_puti C R ft_field_6_64 rfl hk_a0 d_FW_send_17 (fun H locs R => ?_)
    obtain ⟨S5, eS5, hE⟩ := fw_let_ex hE
    rw [← eS5] at R
    clear eS5
    refine lv_iload_n hx hb d_FW_send_20 rfl (lv_at hl 0 rfl) ?_
    obtain ⟨hz6, hE⟩ := fw_ifp hE
    cases hE
    exact fw_zret C hz6 fw_X.rf rfl R d_FW_send_21
set_option maxHeartbeats 4000000 in
set_option maxRecDepth 100000 in
theorem ct_FW_sendFirst (l : Launch) (G : fw_G) (kd0 : Nat → Option Nat) (S0 : fw_S) (a0 : Nat) (p1 : Nat) (p2 : Nat) (r0 : Int32) (S' : fw_S) (hk_a0 : kd0 a0 = some 6) (hk_p1 : kd0 p1 = some 3) (hk_p2 : kd0 p2 = some 5) (hE : F_FW_sendFirst a0 p1 p2 S0 = some (r0, S')) : fw_M l G y_FW_sendFirst prog_1_method_23_code 3 (some .boolean) 3 67 0 0 kd0 S0 ([.ref a0, .ref p1, .ref p2] : List Value) (some (.int r0)) S' (fun k => k = kd0) := by
  refine fw_start (by decide) (Nat.le_of_ble_eq_true rfl) ?_
  intro p e s m below meth c ls C hnm R hl
  clear hnm
  have hx := C.1
  have hb := C.2.1
  have hl : lv_has ls 3 [(0, .ref a0), (1, .ref p1), (2, .ref p2)] := hl
  unfold F_FW_sendFirst at hE
  refine lv_aload_n hx hb d_FW_sendFirst_0 rfl (lv_at hl 1 rfl) ?_
  refine lv_aload_n hx hb d_FW_sendFirst_1 rfl (lv_at hl 0 rfl) ?_
  refine fw_get (v := .int (fw_g S0 a0 10)) C R ft_field_6_58 hk_a0 rfl d_FW_sendFirst_2 ?_
  refine fw_puti C R ft_field_6_191 rfl hk_p1 d_FW_sendFirst_5 (fun H locs R => ?_)
  obtain ⟨S1, eS1, hE⟩ := fw_let_ex hE
  rw [← eS1] at R
  clear eS1
  refine lv_aload_n hx hb d_FW_sendFirst_8 rfl (lv_at hl 1 rfl) ?_
  refine lv_iconst (v := 0) hx hb d_FW_sendFirst_9 (by decide) ?_
  refine fw_puti C R ft_field_6_160 rfl hk_p1 d_FW_sendFirst_10 (fun H locs R => ?_)
  obtain ⟨S2, eS2, hE⟩ := fw_let_ex hE
  rw [← eS2] at R
  clear eS2
  refine lv_aload_n hx hb d_FW_sendFirst_13 rfl (lv_at hl 0 rfl) ?_
  refine lv_aload_n hx hb d_FW_sendFirst_14 rfl (lv_at hl 1 rfl) ?_
  refine fw_getr C R ft_field_6_194 hk_p1 rfl rfl d_FW_sendFirst_15 (fun hq => ?_) (fun b3 hq hk_b3 => ?_)
  · replace hE := fw_om_none hq hE
    refine lv_aload_n hx hb d_FW_sendFirst_18 rfl (lv_at hl 2 rfl) ?_
    cases hE
  · replace hE := fw_om_some hq hE
    refine lv_aload_n hx hb d_FW_sendFirst_18 rfl (lv_at hl 2 rfl) ?_
    obtain ⟨x5, S4, hF, hE⟩ := fw_b2_ex hE
    refine fw_callV (As := [.ref b3, .ref p2]) (rest := []) C R ft_callV_6_198 yi_FW_send ys_FW_send (ct_FW_send l G kd0 S2 _ _ _ _ _ hk_a0 hk_b3 hk_p2 hF) hk_a0 (by decide) rfl rfl hl.1 rfl (lv_room (Nat.le_of_ble_eq_true rfl)) ⟨Nat.le_of_ble_eq_true rfl, Nat.le_of_ble_eq_true rfl⟩ ⟨Nat.le_of_ble_eq_true rfl, Nat.le_of_ble_eq_true rfl⟩ d_FW_sendFirst_19 (fun H locs kd6 hxkd6 hP R => ?_)
    rw [hP] at R; clear hP hxkd6
    obtain ⟨hz7, hE⟩ := fw_ifp hE
    cases hE
    exact fw_zret C hz7 fw_X.rf rfl R d_FW_sendFirst_22
set_option maxHeartbeats 4000000 in
set_option maxRecDepth 100000 in
theorem ct_FW_up (l : Launch) (G : fw_G) (kd0 : Nat → Option Nat) (S0 : fw_S) (a0 : Nat) (p1 : Int32) (r0 : Int32) (S' : fw_S) (hk_a0 : kd0 a0 = some 6) (hE : F_FW_up a0 p1 S0 = some (r0, S')) : fw_M l G y_FW_up prog_1_method_2_code 6 (some .int) 4 89 0 0 kd0 S0 ([.ref a0, .int p1] : List Value) (some (.int r0)) S' (fun k => k = kd0) := by
  refine fw_start (by decide) (Nat.le_of_ble_eq_true rfl) ?_
  intro p e s m below meth c ls C hnm R hl
  clear hnm
  have hx := C.1
  have hb := C.2.1
  have hl : lv_has ls 6 [(0, .ref a0), (1, .int p1)] := hl
  have h_l32 : ∀ (n : Nat), ∀ v0 : Nat, ∀ v1 : Int32, ∀ v2 : Nat, ∀ v3 : Int32, ∀ v4 : Int32, ∀ S0 : fw_S, kd0 v0 = some 6 → kd0 v2 = some 5 → ∀ (H : Heap) (locs : List Loc) (ls : Array Slot), fw_R G kd0 S0 H locs → lv_has ls 6 [(0, .ref v0), (1, .int v1), (2, .ref v2), (3, .int v3), (4, .int v4)] → F_FW_up_l32 n v0 v1 v2 v3 v4 S0 = some (r0, S') → W p l e { frames := 4, cells := 0, slots := 0, locals := 89 } s m ([.ref a0, .int p1] : List Value).toArray below meth c H locs 0 0 (MQ below (fw_Q G kd0 (some (.int r0)) S' (fun k => k = kd0)) ([.ref a0, .int p1] : List Value).toArray s 0 0 (fw_A G)) (F0 m 32 ls []) := by
    intro n
    induction n with
    | zero =>
      intro v0 v1 v2 v3 v4 S0 hk_v0 hk_v2 H locs ls R hl hE
      rw [F_FW_up_l32] at hE
      cases hE
    | succ n ih =>
      intro v0 v1 v2 v3 v4 S0 hk_v0 hk_v2 H locs ls R hl hE
      rw [F_FW_up_l32] at hE
      refine lv_iload hx hb d_FW_up_32 (lv_at hl 4 rfl) ?_
      refine lv_aload_n hx hb d_FW_up_34 rfl (lv_at hl 0 rfl) ?_
      refine fw_get (v := .int (fw_g S0 v0 2)) C R ft_field_6_21 hk_v0 rfl d_FW_up_35 ?_
      refine lv_icmp_ge (tgt := 90) hx hb d_FW_up_38 (by decide) (fun hc => ?_) (fun hc => ?_)
      · replace hE := fw_if_t hc hE
        refine lv_iload_n hx hb d_FW_up_90 rfl (lv_at hl 3 rfl) ?_
        cases hE
        exact fw_iret C fw_X.rf rfl R d_FW_up_91
      · replace hE := fw_if_f hc hE
        refine lv_aload_n hx hb d_FW_up_41 rfl (lv_at hl 0 rfl) ?_
        refine lv_iload hx hb d_FW_up_42 (lv_at hl 4 rfl) ?_
        obtain ⟨o5, hF, hE⟩ := fw_bind hE
        refine fw_callV (As := [.int v4]) (rest := []) C R ft_callV_6_78 yi_FW_requestAt ys_FW_requestAt (ct_FW_requestAt l G kd0 S0 _ _ _ hk_v0 hF) hk_v0 (by decide) rfl rfl hl.1 rfl (lv_room (Nat.le_of_ble_eq_true rfl)) ⟨Nat.le_of_ble_eq_true rfl, Nat.le_of_ble_eq_true rfl⟩ ⟨Nat.le_of_ble_eq_true rfl, Nat.le_of_ble_eq_true rfl⟩ d_FW_up_44 (fun H locs kd6 hxkd6 hP R => ?_)
        obtain ⟨hP0, hP⟩ := hP
        rw [hP0] at hP R; clear hP0 hxkd6
        cases o5 with
        | none =>
          replace hE := fw_om_none rfl hE
          refine lv_astoreN (lv' := [(5, .null), (0, .ref v0), (1, .int v1), (2, .ref v2), (3, .int v3), (4, .int v4)]) hx hb d_FW_up_47 hl (by decide) rfl (fun ls hl => ?_)
          refine lv_aloadN hx hb d_FW_up_49 (lv_at hl 0 rfl) ?_
          refine lv_ifnullN (tgt := 84) hx hb d_FW_up_51 (by decide) ?_
          refine lv_iinc (v := (v4 + (1 : Int32))) (lv' := [(4, .int (v4 + (1 : Int32))), (5, .null), (0, .ref v0), (1, .int v1), (2, .ref v2), (3, .int v3)]) hx hb d_FW_up_84 hl (k := 5) rfl rfl (by decide) rfl (fun ls hl => ?_)
          refine lv_goto (tgt := 32) hx hb d_FW_up_87 (by decide) ?_
          exact ih _ _ _ _ _ _ hk_v0 hk_v2 _ _ _ R (lv_sub hl [2, 3, 4, 5, 0] rfl) hE
        | some b7 =>
          replace hE := fw_om_some rfl hE
          have hk_b7 := hP _ rfl
          clear hP
          refine lv_astore (lv' := [(5, .ref b7), (0, .ref v0), (1, .int v1), (2, .ref v2), (3, .int v3), (4, .int v4)]) hx hb d_FW_up_47 hl (by decide) rfl (fun ls hl => ?_)
          refine lv_aload hx hb d_FW_up_49 (lv_at hl 0 rfl) ?_
          refine lv_ifnull hx hb d_FW_up_51 ?_
          refine lv_aload hx hb d_FW_up_54 (lv_at hl 0 rfl) ?_
          refine fw_get (v := .int (fw_g S0 b7 0)) C R ft_field_6_82 hk_b7 rfl d_FW_up_56 ?_
          refine lv_iload_n hx hb d_FW_up_59 rfl (lv_at hl 2 rfl) ?_
          refine lv_icmp_ne (tgt := 84) hx hb d_FW_up_60 (by decide) (fun hc => ?_) (fun hc => ?_)
          · replace hE := fw_if_f hc hE
            refine lv_iinc (v := (v4 + (1 : Int32))) (lv' := [(4, .int (v4 + (1 : Int32))), (5, .ref b7), (0, .ref v0), (1, .int v1), (2, .ref v2), (3, .int v3)]) hx hb d_FW_up_84 hl (k := 5) rfl rfl (by decide) rfl (fun ls hl => ?_)
            refine lv_goto (tgt := 32) hx hb d_FW_up_87 (by decide) ?_
            exact ih _ _ _ _ _ _ hk_v0 hk_v2 _ _ _ R (lv_sub hl [2, 3, 4, 5, 0] rfl) hE
          · replace hE := fw_if_t hc hE
            refine lv_aload hx hb d_FW_up_63 (lv_at hl 0 rfl) ?_
            refine fw_get (v := .int (fw_g S0 b7 14)) C R ft_field_6_85 hk_b7 rfl d_FW_up_65 ?_
            refine lv_if_ne (tgt := 84) hx hb d_FW_up_68 (by decide) (fun hc => ?_) (fun hc => ?_)
            · replace hE := fw_if_f hc hE
              refine lv_iinc (v := (v4 + (1 : Int32))) (lv' := [(4, .int (v4 + (1 : Int32))), (5, .ref b7), (0, .ref v0), (1, .int v1), (2, .ref v2), (3, .int v3)]) hx hb d_FW_up_84 hl (k := 5) rfl rfl (by decide) rfl (fun ls hl => ?_)
              refine lv_goto (tgt := 32) hx hb d_FW_up_87 (by decide) ?_
              exact ih _ _ _ _ _ _ hk_v0 hk_v2 _ _ _ R (lv_sub hl [2, 3, 4, 5, 0] rfl) hE
            · replace hE := fw_if_t hc hE
              refine lv_aload_n hx hb d_FW_up_71 rfl (lv_at hl 1 rfl) ?_
              refine lv_aload hx hb d_FW_up_72 (lv_at hl 0 rfl) ?_
              refine lv_aload_n hx hb d_FW_up_74 rfl (lv_at hl 3 rfl) ?_
              obtain ⟨x9, S8, hF, hE⟩ := fw_b2_ex hE
              refine fw_callV (As := [.ref b7, .ref v2]) (rest := []) C R ft_callV_6_88 yi_FW_sendFirst ys_FW_sendFirst (ct_FW_sendFirst l G kd0 S0 _ _ _ _ _ hk_v0 hk_b7 hk_v2 hF) hk_v0 (by decide) rfl rfl hl.1 rfl (lv_room (Nat.le_of_ble_eq_true rfl)) ⟨Nat.le_of_ble_eq_true rfl, Nat.le_of_ble_eq_true rfl⟩ ⟨Nat.le_of_ble_eq_true rfl, Nat.le_of_ble_eq_true rfl⟩ d_FW_up_75 (fun H locs kd10 hxkd10 hP R => ?_)
              rw [hP] at R; clear hP hxkd10
              refine lv_if_eq (tgt := 84) hx hb d_FW_up_78 (by decide) (fun hc => ?_) (fun hc => ?_)
              · replace hE := fw_if_t hc hE
                refine lv_iinc (v := (v4 + (1 : Int32))) (lv' := [(4, .int (v4 + (1 : Int32))), (5, .ref b7), (0, .ref v0), (1, .int v1), (2, .ref v2), (3, .int v3)]) hx hb d_FW_up_84 hl (k := 5) rfl rfl (by decide) rfl (fun ls hl => ?_)
                refine lv_goto (tgt := 32) hx hb d_FW_up_87 (by decide) ?_
                exact ih _ _ _ _ _ _ hk_v0 hk_v2 _ _ _ R (lv_sub hl [2, 3, 4, 5, 0] rfl) hE
              · replace hE := fw_if_f hc hE
                refine lv_iinc (v := (v3 + (1 : Int32))) (lv' := [(3, .int (v3 + (1 : Int32))), (5, .ref b7), (0, .ref v0), (1, .int v1), (2, .ref v2), (4, .int v4)]) hx hb d_FW_up_81 hl (k := 4) rfl rfl (by decide) rfl (fun ls hl => ?_)
                refine lv_iinc (v := (v4 + (1 : Int32))) (lv' := [(4, .int (v4 + (1 : Int32))), (3, .int (v3 + (1 : Int32))), (5, .ref b7), (0, .ref v0), (1, .int v1), (2, .ref v2)]) hx hb d_FW_up_84 hl (k := 5) rfl rfl (by decide) rfl (fun ls hl => ?_)
                refine lv_goto (tgt := 32) hx hb d_FW_up_87 (by decide) ?_
                exact ih _ _ _ _ _ _ hk_v0 hk_v2 _ _ _ R (lv_sub hl [3, 4, 5, 1, 0] rfl) hE
  unfold F_FW_up at hE
  refine lv_aload_n hx hb d_FW_up_0 rfl (lv_at hl 0 rfl) ?_
  refine lv_iload_n hx hb d_FW_up_1 rfl (lv_at hl 1 rfl) ?_
  obtain ⟨o1, hF, hE⟩ := fw_bind hE
  refine fw_callV (As := [.int p1]) (rest := []) C R ft_callV_6_70 yi_FW_houseWire ys_FW_houseWire (ct_FW_houseWire l G kd0 S0 _ _ _ hk_a0 hF) hk_a0 (by decide) rfl rfl hl.1 rfl (lv_room (Nat.le_of_ble_eq_true rfl)) ⟨Nat.le_of_ble_eq_true rfl, Nat.le_of_ble_eq_true rfl⟩ ⟨Nat.le_of_ble_eq_true rfl, Nat.le_of_ble_eq_true rfl⟩ d_FW_up_2 (fun H locs kd2 hxkd2 hP R => ?_)
  obtain ⟨hP0, hP⟩ := hP
  rw [hP0] at hP R; clear hP0 hxkd2
  cases o1 with
  | none =>
    replace hE := fw_om_none rfl hE
    refine lv_astore_nN (lv' := [(2, .null), (0, .ref a0), (1, .int p1)]) hx hb d_FW_up_5 rfl hl (by decide) rfl (fun ls hl => ?_)
    refine lv_aload_nN hx hb d_FW_up_6 rfl (lv_at hl 0 rfl) ?_
    refine lv_ifnonnullN hx hb d_FW_up_7 ?_
    refine lv_iconst (v := -1) hx hb d_FW_up_10 (by decide) ?_
    cases hE
    exact fw_iret C fw_X.rf rfl R d_FW_up_11
  | some b3 =>
    replace hE := fw_om_some rfl hE
    have hk_b3 := hP _ rfl
    clear hP
    refine lv_astore_n (lv' := [(2, .ref b3), (0, .ref a0), (1, .int p1)]) hx hb d_FW_up_5 rfl hl (by decide) rfl (fun ls hl => ?_)
    refine lv_aload_n hx hb d_FW_up_6 rfl (lv_at hl 0 rfl) ?_
    refine lv_ifnonnull (tgt := 12) hx hb d_FW_up_7 (by decide) ?_
    refine lv_aload_n hx hb d_FW_up_12 rfl (lv_at hl 0 rfl) ?_
    refine fw_get (v := .int (fw_g S0 b3 0)) C R ft_field_6_74 hk_b3 rfl d_FW_up_13 ?_
    refine lv_if_eq (tgt := 22) hx hb d_FW_up_16 (by decide) (fun hc => ?_) (fun hc => ?_)
    · replace hE := fw_if_t hc hE
      refine lv_aload_n hx hb d_FW_up_22 rfl (lv_at hl 0 rfl) ?_
      refine lv_iconst (v := 1) hx hb d_FW_up_23 (by decide) ?_
      refine fw_putz C R ft_field_6_74 rfl (by decide) hk_b3 d_FW_up_24 (fun H locs R => ?_)
      obtain ⟨S4, eS4, hE⟩ := fw_let_ex hE
      rw [← eS4] at R
      clear eS4
      refine lv_iconst (v := 0) hx hb d_FW_up_27 (by decide) ?_
      refine lv_istore_n (lv' := [(3, .int (0 : Int32)), (2, .ref b3), (0, .ref a0), (1, .int p1)]) hx hb d_FW_up_28 rfl hl (by decide) rfl (fun ls hl => ?_)
      refine lv_iconst (v := 0) hx hb d_FW_up_29 (by decide) ?_
      refine lv_istore (lv' := [(4, .int (0 : Int32)), (3, .int (0 : Int32)), (2, .ref b3), (0, .ref a0), (1, .int p1)]) hx hb d_FW_up_30 hl (by decide) rfl (fun ls hl => ?_)
      exact h_l32 _ _ _ _ _ _ _ hk_a0 hk_b3 _ _ _ R (lv_sub hl [3, 4, 2, 1, 0] rfl) hE
    · replace hE := fw_if_f hc hE
      refine lv_bipush (v := -2) hx hb d_FW_up_19 (by decide) ?_
      cases hE
      exact fw_iret C fw_X.rf rfl R d_FW_up_21
set_option maxHeartbeats 4000000 in
set_option maxRecDepth 100000 in
theorem ct_FW_down (l : Launch) (G : fw_G) (kd0 : Nat → Option Nat) (S0 : fw_S) (a0 : Nat) (p1 : Int32) (r0 : Int32) (S' : fw_S) (hk_a0 : kd0 a0 = some 6) (hE : F_FW_down a0 p1 S0 = some (r0, S')) : fw_M l G y_FW_down prog_1_method_3_code 3 (some .int) 2 42 0 0 kd0 S0 ([.ref a0, .int p1] : List Value) (some (.int r0)) S' (fun k => k = kd0) := by
  refine fw_start (by decide) (Nat.le_of_ble_eq_true rfl) ?_
  intro p e s m below meth c ls C hnm R hl
  clear hnm
  have hx := C.1
  have hb := C.2.1
  have hl : lv_has ls 3 [(0, .ref a0), (1, .int p1)] := hl
  unfold F_FW_down at hE
  refine lv_aload_n hx hb d_FW_down_0 rfl (lv_at hl 0 rfl) ?_
  refine lv_iload_n hx hb d_FW_down_1 rfl (lv_at hl 1 rfl) ?_
  obtain ⟨o1, hF, hE⟩ := fw_bind hE
  refine fw_callV (As := [.int p1]) (rest := []) C R ft_callV_6_70 yi_FW_houseWire ys_FW_houseWire (ct_FW_houseWire l G kd0 S0 _ _ _ hk_a0 hF) hk_a0 (by decide) rfl rfl hl.1 rfl (lv_room (Nat.le_of_ble_eq_true rfl)) ⟨Nat.le_of_ble_eq_true rfl, Nat.le_of_ble_eq_true rfl⟩ ⟨Nat.le_of_ble_eq_true rfl, Nat.le_of_ble_eq_true rfl⟩ d_FW_down_2 (fun H locs kd2 hxkd2 hP R => ?_)
  obtain ⟨hP0, hP⟩ := hP
  rw [hP0] at hP R; clear hP0 hxkd2
  cases o1 with
  | none =>
    replace hE := fw_om_none rfl hE
    refine lv_astore_nN (lv' := [(2, .null), (0, .ref a0), (1, .int p1)]) hx hb d_FW_down_5 rfl hl (by decide) rfl (fun ls hl => ?_)
    refine lv_aload_nN hx hb d_FW_down_6 rfl (lv_at hl 0 rfl) ?_
    refine lv_ifnonnullN hx hb d_FW_down_7 ?_
    refine lv_iconst (v := -1) hx hb d_FW_down_10 (by decide) ?_
    cases hE
    exact fw_iret C fw_X.rf rfl R d_FW_down_11
  | some b3 =>
    replace hE := fw_om_some rfl hE
    have hk_b3 := hP _ rfl
    clear hP
    refine lv_astore_n (lv' := [(2, .ref b3), (0, .ref a0), (1, .int p1)]) hx hb d_FW_down_5 rfl hl (by decide) rfl (fun ls hl => ?_)
    refine lv_aload_n hx hb d_FW_down_6 rfl (lv_at hl 0 rfl) ?_
    refine lv_ifnonnull (tgt := 12) hx hb d_FW_down_7 (by decide) ?_
    refine lv_aload_n hx hb d_FW_down_12 rfl (lv_at hl 0 rfl) ?_
    refine fw_get (v := .int (fw_g S0 b3 0)) C R ft_field_6_74 hk_b3 rfl d_FW_down_13 ?_
    refine lv_if_ne (tgt := 22) hx hb d_FW_down_16 (by decide) (fun hc => ?_) (fun hc => ?_)
    · replace hE := fw_if_f hc hE
      refine lv_aload_n hx hb d_FW_down_22 rfl (lv_at hl 0 rfl) ?_
      obtain ⟨S4, hF, hE⟩ := fw_bind hE
      refine fw_callV (As := []) (rest := []) C R ft_callV_6_92 yi_Wire_end ys_Wire_end (ct_Wire_end l G kd0 S0 _ _ hk_b3 hF) hk_b3 (by decide) rfl rfl hl.1 rfl (lv_room (Nat.le_of_ble_eq_true rfl)) ⟨Nat.le_of_ble_eq_true rfl, Nat.le_of_ble_eq_true rfl⟩ ⟨Nat.le_of_ble_eq_true rfl, Nat.le_of_ble_eq_true rfl⟩ d_FW_down_23 (fun H locs kd5 hxkd5 hP R => ?_)
      rw [hP] at R; clear hP hxkd5
      refine lv_iconst (v := 1) hx hb d_FW_down_26 (by decide) ?_
      cases hE
      exact fw_iret C fw_X.rf rfl R d_FW_down_27
    · replace hE := fw_if_t hc hE
      refine lv_bipush (v := -2) hx hb d_FW_down_19 (by decide) ?_
      cases hE
      exact fw_iret C fw_X.rf rfl R d_FW_down_21
set_option maxHeartbeats 4000000 in
set_option maxRecDepth 100000 in
theorem ct_FW_setting (l : Launch) (G : fw_G) (kd0 : Nat → Option Nat) (S0 : fw_S) (a0 : Nat) (p1 : Int32) (p2 : Int32) (r0 : Int32) (S' : fw_S) (hk_a0 : kd0 a0 = some 6) (hE : F_FW_setting a0 p1 p2 S0 = some (r0, S')) : fw_M l G y_FW_setting prog_1_method_4_code 4 (some .int) 0 0 0 0 kd0 S0 ([.ref a0, .int p1, .int p2] : List Value) (some (.int r0)) S' (fun k => k = kd0) := by
  refine fw_start (by decide) (Nat.le_of_ble_eq_true rfl) ?_
  intro p e s m below meth c ls C hnm R hl
  clear hnm
  have hx := C.1
  have hb := C.2.1
  have hl : lv_has ls 4 [(0, .ref a0), (1, .int p1), (2, .int p2)] := hl
  have h_j57 : ∀ v0 : Nat, ∀ v1 : Int32, ∀ v2 : Int32, ∀ S0 : fw_S, kd0 v0 = some 6 → ∀ (H : Heap) (locs : List Loc) (ls : Array Slot), fw_R G kd0 S0 H locs → lv_has ls 4 [(0, .ref v0), (1, .int v1), (2, .int v2)] → F_FW_setting_j57 v0 v1 v2 S0 = some (r0, S') → W p l e { frames := 0, cells := 0, slots := 0, locals := 0 } s m ([.ref a0, .int p1, .int p2] : List Value).toArray below meth c H locs 0 0 (MQ below (fw_Q G kd0 (some (.int r0)) S' (fun k => k = kd0)) ([.ref a0, .int p1, .int p2] : List Value).toArray s 0 0 (fw_A G)) (F0 m 57 ls []) := by
    intro v0 v1 v2 S0 hk_v0 H locs ls R hl hE
    unfold F_FW_setting_j57 at hE
    refine lv_iload_n hx hb d_FW_setting_57 rfl (lv_at hl 1 rfl) ?_
    refine lv_iconst (v := 2) hx hb d_FW_setting_58 (by decide) ?_
    refine lv_icmp_ne (tgt := 84) hx hb d_FW_setting_59 (by decide) (fun hc => ?_) (fun hc => ?_)
    · replace hE := fw_if_f hc hE
      refine lv_iconst (v := -1) hx hb d_FW_setting_84 (by decide) ?_
      refine lv_istore_n (lv' := [(3, .int (-1 : Int32)), (0, .ref v0), (1, .int v1), (2, .int v2)]) hx hb d_FW_setting_85 rfl hl (by decide) rfl (fun ls hl => ?_)
      refine lv_iload_n hx hb d_FW_setting_86 rfl (lv_at hl 0 rfl) ?_
      cases hE
      exact fw_iret C fw_X.rf rfl R d_FW_setting_87
    · replace hE := fw_if_t hc hE
      refine lv_iload_n hx hb d_FW_setting_62 rfl (lv_at hl 2 rfl) ?_
      refine lv_if_lt (tgt := 84) hx hb d_FW_setting_63 (by decide) (fun hc => ?_) (fun hc => ?_)
      · replace hE := fw_if_t hc hE
        refine lv_iconst (v := -1) hx hb d_FW_setting_84 (by decide) ?_
        refine lv_istore_n (lv' := [(3, .int (-1 : Int32)), (0, .ref v0), (1, .int v1), (2, .int v2)]) hx hb d_FW_setting_85 rfl hl (by decide) rfl (fun ls hl => ?_)
        refine lv_iload_n hx hb d_FW_setting_86 rfl (lv_at hl 0 rfl) ?_
        cases hE
        exact fw_iret C fw_X.rf rfl R d_FW_setting_87
      · replace hE := fw_if_f hc hE
        refine lv_iload_n hx hb d_FW_setting_66 rfl (lv_at hl 2 rfl) ?_
        refine lv_iconst (v := 5) hx hb d_FW_setting_67 (by decide) ?_
        refine lv_icmp_gt (tgt := 84) hx hb d_FW_setting_68 (by decide) (fun hc => ?_) (fun hc => ?_)
        · replace hE := fw_if_t hc hE
          refine lv_iconst (v := -1) hx hb d_FW_setting_84 (by decide) ?_
          refine lv_istore_n (lv' := [(3, .int (-1 : Int32)), (0, .ref v0), (1, .int v1), (2, .int v2)]) hx hb d_FW_setting_85 rfl hl (by decide) rfl (fun ls hl => ?_)
          refine lv_iload_n hx hb d_FW_setting_86 rfl (lv_at hl 0 rfl) ?_
          cases hE
          exact fw_iret C fw_X.rf rfl R d_FW_setting_87
        · replace hE := fw_if_f hc hE
          refine lv_aload_n hx hb d_FW_setting_71 rfl (lv_at hl 0 rfl) ?_
          refine fw_get (v := .int (fw_g S0 v0 9)) C R ft_field_6_55 hk_v0 rfl d_FW_setting_72 ?_
          refine lv_topi (fun x1 ex1 => ?_)
          replace hE := fw_let_use ex1 hE
          clear ex1
          refine lv_istore_n (lv' := [(3, .int x1), (0, .ref v0), (1, .int v1), (2, .int v2)]) hx hb d_FW_setting_75 rfl hl (by decide) rfl (fun ls hl => ?_)
          refine lv_aload_n hx hb d_FW_setting_76 rfl (lv_at hl 1 rfl) ?_
          refine lv_iload_n hx hb d_FW_setting_77 rfl (lv_at hl 3 rfl) ?_
          refine fw_puti C R ft_field_6_55 rfl hk_v0 d_FW_setting_78 (fun H locs R => ?_)
          obtain ⟨S2, eS2, hE⟩ := fw_let_ex hE
          rw [← eS2] at R
          clear eS2
          refine lv_goto (tgt := 86) hx hb d_FW_setting_81 (by decide) ?_
          refine lv_iload_n hx hb d_FW_setting_86 rfl (lv_at hl 0 rfl) ?_
          cases hE
          exact fw_iret C fw_X.rf rfl R d_FW_setting_87
  have h_j28 : ∀ v0 : Nat, ∀ v1 : Int32, ∀ v2 : Int32, ∀ S0 : fw_S, kd0 v0 = some 6 → ∀ (H : Heap) (locs : List Loc) (ls : Array Slot), fw_R G kd0 S0 H locs → lv_has ls 4 [(0, .ref v0), (1, .int v1), (2, .int v2)] → F_FW_setting_j28 v0 v1 v2 S0 = some (r0, S') → W p l e { frames := 0, cells := 0, slots := 0, locals := 0 } s m ([.ref a0, .int p1, .int p2] : List Value).toArray below meth c H locs 0 0 (MQ below (fw_Q G kd0 (some (.int r0)) S' (fun k => k = kd0)) ([.ref a0, .int p1, .int p2] : List Value).toArray s 0 0 (fw_A G)) (F0 m 28 ls []) := by
    intro v0 v1 v2 S0 hk_v0 H locs ls R hl hE
    unfold F_FW_setting_j28 at hE
    refine lv_iload_n hx hb d_FW_setting_28 rfl (lv_at hl 1 rfl) ?_
    refine lv_iconst (v := 1) hx hb d_FW_setting_29 (by decide) ?_
    refine lv_icmp_ne (tgt := 57) hx hb d_FW_setting_30 (by decide) (fun hc => ?_) (fun hc => ?_)
    · replace hE := fw_if_f hc hE
      exact h_j57 _ _ _ _ hk_v0 _ _ _ R (lv_sub hl [0, 1, 2] rfl) hE
    · replace hE := fw_if_t hc hE
      refine lv_iload_n hx hb d_FW_setting_33 rfl (lv_at hl 2 rfl) ?_
      refine lv_iconst (v := 1) hx hb d_FW_setting_34 (by decide) ?_
      refine lv_icmp_lt (tgt := 57) hx hb d_FW_setting_35 (by decide) (fun hc => ?_) (fun hc => ?_)
      · replace hE := fw_if_t hc hE
        exact h_j57 _ _ _ _ hk_v0 _ _ _ R (lv_sub hl [0, 1, 2] rfl) hE
      · replace hE := fw_if_f hc hE
        refine lv_iload_n hx hb d_FW_setting_38 rfl (lv_at hl 2 rfl) ?_
        refine lv_bipush (v := 100) hx hb d_FW_setting_39 (by decide) ?_
        refine lv_icmp_gt (tgt := 57) hx hb d_FW_setting_41 (by decide) (fun hc => ?_) (fun hc => ?_)
        · replace hE := fw_if_t hc hE
          exact h_j57 _ _ _ _ hk_v0 _ _ _ R (lv_sub hl [0, 1, 2] rfl) hE
        · replace hE := fw_if_f hc hE
          refine lv_aload_n hx hb d_FW_setting_44 rfl (lv_at hl 0 rfl) ?_
          refine fw_get (v := .int (fw_g S0 v0 8)) C R ft_field_6_52 hk_v0 rfl d_FW_setting_45 ?_
          refine lv_topi (fun x3 ex3 => ?_)
          replace hE := fw_let_use ex3 hE
          clear ex3
          refine lv_istore_n (lv' := [(3, .int x3), (0, .ref v0), (1, .int v1), (2, .int v2)]) hx hb d_FW_setting_48 rfl hl (by decide) rfl (fun ls hl => ?_)
          refine lv_aload_n hx hb d_FW_setting_49 rfl (lv_at hl 1 rfl) ?_
          refine lv_iload_n hx hb d_FW_setting_50 rfl (lv_at hl 3 rfl) ?_
          refine fw_puti C R ft_field_6_52 rfl hk_v0 d_FW_setting_51 (fun H locs R => ?_)
          obtain ⟨S4, eS4, hE⟩ := fw_let_ex hE
          rw [← eS4] at R
          clear eS4
          refine lv_goto (tgt := 86) hx hb d_FW_setting_54 (by decide) ?_
          refine lv_iload_n hx hb d_FW_setting_86 rfl (lv_at hl 0 rfl) ?_
          cases hE
          exact fw_iret C fw_X.rf rfl R d_FW_setting_87
  unfold F_FW_setting at hE
  refine lv_iload_n hx hb d_FW_setting_0 rfl (lv_at hl 1 rfl) ?_
  refine lv_if_ne (tgt := 28) hx hb d_FW_setting_1 (by decide) (fun hc => ?_) (fun hc => ?_)
  · replace hE := fw_if_f hc hE
    exact h_j28 _ _ _ _ hk_a0 _ _ _ R (lv_sub hl [0, 1, 2] rfl) hE
  · replace hE := fw_if_t hc hE
    refine lv_iload_n hx hb d_FW_setting_4 rfl (lv_at hl 2 rfl) ?_
    refine lv_iconst (v := 1) hx hb d_FW_setting_5 (by decide) ?_
    refine lv_icmp_lt (tgt := 28) hx hb d_FW_setting_6 (by decide) (fun hc => ?_) (fun hc => ?_)
    · replace hE := fw_if_t hc hE
      exact h_j28 _ _ _ _ hk_a0 _ _ _ R (lv_sub hl [0, 1, 2] rfl) hE
    · replace hE := fw_if_f hc hE
      refine lv_iload_n hx hb d_FW_setting_9 rfl (lv_at hl 2 rfl) ?_
      refine lv_bipush (v := 8) hx hb d_FW_setting_10 (by decide) ?_
      refine lv_icmp_gt (tgt := 28) hx hb d_FW_setting_12 (by decide) (fun hc => ?_) (fun hc => ?_)
      · replace hE := fw_if_t hc hE
        exact h_j28 _ _ _ _ hk_a0 _ _ _ R (lv_sub hl [0, 1, 2] rfl) hE
      · replace hE := fw_if_f hc hE
        refine lv_aload_n hx hb d_FW_setting_15 rfl (lv_at hl 0 rfl) ?_
        refine fw_get (v := .int (fw_g S0 a0 7)) C R ft_field_6_49 hk_a0 rfl d_FW_setting_16 ?_
        refine lv_topi (fun x5 ex5 => ?_)
        replace hE := fw_let_use ex5 hE
        clear ex5
        refine lv_istore_n (lv' := [(3, .int x5), (0, .ref a0), (1, .int p1), (2, .int p2)]) hx hb d_FW_setting_19 rfl hl (by decide) rfl (fun ls hl => ?_)
        refine lv_aload_n hx hb d_FW_setting_20 rfl (lv_at hl 1 rfl) ?_
        refine lv_iload_n hx hb d_FW_setting_21 rfl (lv_at hl 3 rfl) ?_
        refine fw_puti C R ft_field_6_49 rfl hk_a0 d_FW_setting_22 (fun H locs R => ?_)
        obtain ⟨S6, eS6, hE⟩ := fw_let_ex hE
        rw [← eS6] at R
        clear eS6
        refine lv_goto (tgt := 86) hx hb d_FW_setting_25 (by decide) ?_
        refine lv_iload_n hx hb d_FW_setting_86 rfl (lv_at hl 0 rfl) ?_
        cases hE
        exact fw_iret C fw_X.rf rfl R d_FW_setting_87
set_option maxHeartbeats 4000000 in
set_option maxRecDepth 100000 in
theorem ct_FW_isByte (l : Launch) (G : fw_G) (kd0 : Nat → Option Nat) (S0 : fw_S) (p0 : Int32) (r0 : Int32) (hE : F_FW_isByte p0 S0 = some r0) : fw_M l G y_FW_isByte prog_1_method_18_code 1 (some .boolean) 0 0 0 0 kd0 S0 ([.int p0] : List Value) (some (.int r0)) S0 (fun k => k = kd0) := by
  refine fw_start (by decide) (Nat.le_of_ble_eq_true rfl) ?_
  intro p e s m below meth c ls C hnm R hl
  clear hnm
  have hx := C.1
  have hb := C.2.1
  have hl : lv_has ls 1 [(0, .int p0)] := hl
  unfold F_FW_isByte at hE
  refine lv_iload_n hx hb d_FW_isByte_0 rfl (lv_at hl 0 rfl) ?_
  refine lv_if_lt (tgt := 15) hx hb d_FW_isByte_1 (by decide) (fun hc => ?_) (fun hc => ?_)
  · replace hE := fw_if_t hc hE
    refine lv_iconst (v := 0) hx hb d_FW_isByte_15 (by decide) ?_
    cases hE
    exact fw_zret C (by decide) fw_X.rf rfl R d_FW_isByte_16
  · replace hE := fw_if_f hc hE
    refine lv_iload_n hx hb d_FW_isByte_4 rfl (lv_at hl 0 rfl) ?_
    refine lv_sipush (v := 255) hx hb d_FW_isByte_5 (by decide) ?_
    refine lv_icmp_gt (tgt := 15) hx hb d_FW_isByte_8 (by decide) (fun hc => ?_) (fun hc => ?_)
    · replace hE := fw_if_t hc hE
      refine lv_iconst (v := 0) hx hb d_FW_isByte_15 (by decide) ?_
      cases hE
      exact fw_zret C (by decide) fw_X.rf rfl R d_FW_isByte_16
    · replace hE := fw_if_f hc hE
      refine lv_iconst (v := 1) hx hb d_FW_isByte_11 (by decide) ?_
      refine lv_goto (tgt := 16) hx hb d_FW_isByte_12 (by decide) ?_
      cases hE
      exact fw_zret C (by decide) fw_X.rf rfl R d_FW_isByte_16
set_option maxHeartbeats 4000000 in
set_option maxRecDepth 100000 in
theorem ct_FW_bind (l : Launch) (G : fw_G) (kd0 : Nat → Option Nat) (S0 : fw_S) (a0 : Nat) (p1 : Int32) (p2 : Int32) (r0 : Int32) (S' : fw_S) (hk_a0 : kd0 a0 = some 6) (hE : F_FW_bind a0 p1 p2 S0 = some (r0, S')) : fw_M l G y_FW_bind prog_1_method_5_code 3 (some .int) 1 22 0 0 kd0 S0 ([.ref a0, .int p1, .int p2] : List Value) (some (.int r0)) S' (fun k => k = kd0) := by
  refine fw_start (by decide) (Nat.le_of_ble_eq_true rfl) ?_
  intro p e s m below meth c ls C hnm R hl
  clear hnm
  have hx := C.1
  have hb := C.2.1
  have hl : lv_has ls 3 [(0, .ref a0), (1, .int p1), (2, .int p2)] := hl
  unfold F_FW_bind at hE
  refine lv_iload_n hx hb d_FW_bind_0 rfl (lv_at hl 1 rfl) ?_
  obtain ⟨x1, hF, hE⟩ := fw_bind hE
  refine fw_callS (As := [.int p1]) (rest := []) C R ft_callS_6_95 yt_FW_isByte (ct_FW_isByte l G kd0 S0 _ _  hF) rfl hl.1 rfl (lv_room (Nat.le_of_ble_eq_true rfl)) ⟨Nat.le_of_ble_eq_true rfl, Nat.le_of_ble_eq_true rfl⟩ ⟨Nat.le_of_ble_eq_true rfl, Nat.le_of_ble_eq_true rfl⟩ d_FW_bind_1 (fun H locs kd2 hxkd2 hP R => ?_)
  rw [hP] at R; clear hP hxkd2
  refine lv_if_ne (tgt := 9) hx hb d_FW_bind_4 (by decide) (fun hc => ?_) (fun hc => ?_)
  · replace hE := fw_if_f hc hE
    refine lv_aload_n hx hb d_FW_bind_9 rfl (lv_at hl 0 rfl) ?_
    refine fw_getr C R ft_field_6_30 hk_a0 rfl rfl d_FW_bind_10 (fun hq => ?_) (fun b3 hq hk_b3 => ?_)
    · replace hE := fw_om_none hq hE
      refine lv_iload_n hx hb d_FW_bind_13 rfl (lv_at hl 1 rfl) ?_
      refine lv_iload_n hx hb d_FW_bind_14 rfl (lv_at hl 2 rfl) ?_
      cases hE
    · replace hE := fw_om_some hq hE
      refine lv_iload_n hx hb d_FW_bind_13 rfl (lv_at hl 1 rfl) ?_
      refine lv_iload_n hx hb d_FW_bind_14 rfl (lv_at hl 2 rfl) ?_
      obtain ⟨x5, S4, hF, hE⟩ := fw_b2_ex hE
      refine fw_callV (As := [.int p1, .int p2]) (rest := []) C R ft_callV_6_99 yi_Pairs_add ys_Pairs_add (ct_Pairs_add l G kd0 S0 _ _ _ _ _ hk_b3 hF) hk_b3 (by decide) rfl rfl hl.1 rfl (lv_room (Nat.le_of_ble_eq_true rfl)) ⟨Nat.le_of_ble_eq_true rfl, Nat.le_of_ble_eq_true rfl⟩ ⟨Nat.le_of_ble_eq_true rfl, Nat.le_of_ble_eq_true rfl⟩ d_FW_bind_15 (fun H locs kd6 hxkd6 hP R => ?_)
      rw [hP] at R; clear hP hxkd6
      refine lv_if_eq (tgt := 31) hx hb d_FW_bind_18 (by decide) (fun hc => ?_) (fun hc => ?_)
      · replace hE := fw_if_t hc hE
        refine lv_bipush (v := -3) hx hb d_FW_bind_31 (by decide) ?_
        cases hE
        exact fw_iret C fw_X.rf rfl R d_FW_bind_33
      · replace hE := fw_if_f hc hE
        refine lv_aload_n hx hb d_FW_bind_21 rfl (lv_at hl 0 rfl) ?_
        refine fw_getr C R ft_field_6_30 hk_a0 rfl rfl d_FW_bind_22 (fun hq => ?_) (fun b7 hq hk_b7 => ?_)
        · replace hE := fw_om_none hq hE
          cases hE
        · replace hE := fw_om_some hq hE
          refine fw_get (v := .int (fw_g S4 b7 2)) C R ft_field_6_103 hk_b7 rfl d_FW_bind_25 ?_
          refine lv_goto (tgt := 33) hx hb d_FW_bind_28 (by decide) ?_
          cases hE
          exact fw_iret C fw_X.rf rfl R d_FW_bind_33
  · replace hE := fw_if_t hc hE
    refine lv_iconst (v := -1) hx hb d_FW_bind_7 (by decide) ?_
    cases hE
    exact fw_iret C fw_X.rf rfl R d_FW_bind_8
set_option maxHeartbeats 4000000 in
set_option maxRecDepth 100000 in
theorem ct_FW_ask (l : Launch) (G : fw_G) (kd0 : Nat → Option Nat) (S0 : fw_S) (a0 : Nat) (p1 : Int32) (p2 : Int32) (r0 : Int32) (S' : fw_S) (hk_a0 : kd0 a0 = some 6) (hE : F_FW_ask a0 p1 p2 S0 = some (r0, S')) : fw_M l G y_FW_ask prog_1_method_6_code 6 (some .int) 4 89 10 364 kd0 S0 ([.ref a0, .int p1, .int p2] : List Value) (some (.int r0)) S' (fun _ => True) := by
  refine fw_start (by decide) (Nat.le_of_ble_eq_true rfl) ?_
  intro p e s m below meth c ls C hnm R hl
  clear hnm
  have hx := C.1
  have hb := C.2.1
  have hl : lv_has ls 6 [(0, .ref a0), (1, .int p1), (2, .int p2)] := hl
  unfold F_FW_ask at hE
  refine lv_aload_n hx hb d_FW_ask_0 rfl (lv_at hl 0 rfl) ?_
  refine lv_iload_n hx hb d_FW_ask_1 rfl (lv_at hl 1 rfl) ?_
  obtain ⟨o1, hF, hE⟩ := fw_bind hE
  refine fw_callV (As := [.int p1]) (rest := []) C R ft_callV_6_70 yi_FW_houseWire ys_FW_houseWire (ct_FW_houseWire l G kd0 S0 _ _ _ hk_a0 hF) hk_a0 (by decide) rfl rfl hl.1 rfl (lv_room (Nat.le_of_ble_eq_true rfl)) ⟨Nat.le_of_ble_eq_true rfl, Nat.le_of_ble_eq_true rfl⟩ ⟨Nat.le_of_ble_eq_true rfl, Nat.le_of_ble_eq_true rfl⟩ d_FW_ask_2 (fun H locs kd2 hxkd2 hP R => ?_)
  obtain ⟨hP0, hP⟩ := hP
  rw [hP0] at hP R; clear hP0 hxkd2
  cases o1 with
  | none =>
    replace hE := fw_om_none rfl hE
    refine lv_astore_nN (lv' := [(3, .null), (0, .ref a0), (1, .int p1), (2, .int p2)]) hx hb d_FW_ask_5 rfl hl (by decide) rfl (fun ls hl => ?_)
    refine lv_aload_nN hx hb d_FW_ask_6 rfl (lv_at hl 0 rfl) ?_
    refine lv_ifnonnullN hx hb d_FW_ask_7 ?_
    refine lv_iconst (v := -1) hx hb d_FW_ask_10 (by decide) ?_
    cases hE
    refine W.widen (k := 10) (n := 364) (Nat.le_of_ble_eq_true rfl) (Nat.le_of_ble_eq_true rfl) ?_
    exact fw_iret C fw_X.rf trivial R d_FW_ask_11
  | some b3 =>
    replace hE := fw_om_some rfl hE
    have hk_b3 := hP _ rfl
    clear hP
    refine lv_astore_n (lv' := [(3, .ref b3), (0, .ref a0), (1, .int p1), (2, .int p2)]) hx hb d_FW_ask_5 rfl hl (by decide) rfl (fun ls hl => ?_)
    refine lv_aload_n hx hb d_FW_ask_6 rfl (lv_at hl 0 rfl) ?_
    refine lv_ifnonnull (tgt := 12) hx hb d_FW_ask_7 (by decide) ?_
    refine lv_aload_n hx hb d_FW_ask_12 rfl (lv_at hl 1 rfl) ?_
    refine fw_get (v := .int (fw_g S0 a0 2)) C R ft_field_6_21 hk_a0 rfl d_FW_ask_13 ?_
    refine lv_topi (fun x4 ex4 => ?_)
    replace hE := fw_let_use ex4 hE
    clear ex4
    refine lv_istore (lv' := [(4, .int x4), (3, .ref b3), (0, .ref a0), (1, .int p1), (2, .int p2)]) hx hb d_FW_ask_16 hl (by decide) rfl (fun ls hl => ?_)
    refine lv_iload hx hb d_FW_ask_18 (lv_at hl 0 rfl) ?_
    refine lv_if_lt (tgt := 33) hx hb d_FW_ask_20 (by decide) (fun hc => ?_) (fun hc => ?_)
    · replace hE := fw_if_t hc hE
      refine lv_bipush (v := -3) hx hb d_FW_ask_33 (by decide) ?_
      cases hE
      refine W.widen (k := 10) (n := 364) (Nat.le_of_ble_eq_true rfl) (Nat.le_of_ble_eq_true rfl) ?_
      exact fw_iret C fw_X.rf trivial R d_FW_ask_35
    · replace hE := fw_if_f hc hE
      refine lv_iload hx hb d_FW_ask_23 (lv_at hl 0 rfl) ?_
      refine lv_aload_n hx hb d_FW_ask_25 rfl (lv_at hl 2 rfl) ?_
      refine fw_getr C R ft_field_6_17 hk_a0 rfl rfl d_FW_ask_26 (fun hq => ?_) (fun b5 hq hk_b5 => ?_)
      · replace hE := fw_om_none hq hE
        cases hE
      · replace hE := fw_om_some hq hE
        refine fw_alen (K := 203) (ty := .object "FederationWire$Request") C R (by decide) (by decide) hk_b5 d_FW_ask_29 ?_
        refine lv_icmp_lt (tgt := 36) hx hb d_FW_ask_30 (by decide) (fun hc => ?_) (fun hc => ?_)
        · replace hE := fw_if_t hc hE
          refine fw_new C R cl_3 nd_3 ft_new_6_15 ni_3 nj_3 (Nat.le_of_ble_eq_true rfl) (Nat.le_of_ble_eq_true rfl) d_FW_ask_36 (fun H kd8 hxkd8 hk_new R => ?_)
          refine W.widen (k := 1) (n := 16) (by decide) (by decide) ?_
          obtain ⟨b7, eb7, hE⟩ := fw_let_ex hE
          obtain ⟨S6, eS6, hE⟩ := fw_let_ex hE
          rw [← eS6] at R
          rw [← eb7] at hk_new ⊢
          have hk_b7 := hk_new
          have hXkd8 := fw_X.tr fw_X.rf hxkd8
          have hk_a0 := hxkd8 _ _ hk_a0
          have hk_b3 := hxkd8 _ _ hk_b3
          have hk_b5 := hxkd8 _ _ hk_b5
          clear eS6 eb7 hk_new
          refine lv_dup hx hb d_FW_ask_39 rfl ?_
          refine lv_iload hx hb d_FW_ask_40 (lv_at hl 0 rfl) ?_
          refine lv_iload_n hx hb d_FW_ask_42 rfl (lv_at hl 3 rfl) ?_
          refine lv_iload_n hx hb d_FW_ask_43 rfl (lv_at hl 4 rfl) ?_
          refine lv_aload_n hx hb d_FW_ask_44 rfl (lv_at hl 2 rfl) ?_
          refine fw_get (v := .int (fw_g S6 a0 7)) C R ft_field_6_49 hk_a0 rfl d_FW_ask_45 ?_
          refine lv_aload_n hx hb d_FW_ask_48 rfl (lv_at hl 2 rfl) ?_
          refine fw_getr C R ft_field_6_30 hk_a0 rfl rfl d_FW_ask_49 (fun hq => ?_) (fun b9 hq hk_b9 => ?_)
          · replace hE := fw_om_none hq hE
            cases hE
          · replace hE := fw_om_some hq hE
            obtain ⟨S10, hF, hE⟩ := fw_bind hE
            refine fw_callI (As := [.int x4, .int p1, .int p2, .int (fw_g S6 a0 7), .ref b9]) (rest := [.ref b7]) C R ft_callI_6_106 yi_Request_init rfl (ct_Request_init l G kd8 S6 _ _ _ _ _ _ _ hk_b7 hk_b9 hF) rfl hl.1 rfl (lv_room (Nat.le_of_ble_eq_true rfl)) ⟨Nat.le_of_ble_eq_true rfl, Nat.le_of_ble_eq_true rfl⟩ ⟨Nat.le_of_ble_eq_true rfl, Nat.le_of_ble_eq_true rfl⟩ d_FW_ask_52 (fun H locs kd11 hxkd11 hP R => ?_)
            refine W.widen (k := 10) (n := 364) (by decide) (by decide) ?_
            have hXkd11 := fw_X.tr hXkd8 hxkd11
            have hk_a0 := hxkd11 _ _ hk_a0
            have hk_b3 := hxkd11 _ _ hk_b3
            have hk_b5 := hxkd11 _ _ hk_b5
            have hk_b7 := hxkd11 _ _ hk_b7
            have hk_b9 := hxkd11 _ _ hk_b9
            refine lv_astore (lv' := [(5, .ref b7), (4, .int x4), (3, .ref b3), (0, .ref a0), (1, .int p1), (2, .int p2)]) hx hb d_FW_ask_55 hl (by decide) rfl (fun ls hl => ?_)
            refine lv_aload_n hx hb d_FW_ask_57 rfl (lv_at hl 3 rfl) ?_
            refine fw_getr C R ft_field_6_30 hk_a0 rfl rfl d_FW_ask_58 (fun hq => ?_) (fun b12 hq hk_b12 => ?_)
            · replace hE := fw_om_none hq hE
              cases hE
            · replace hE := fw_om_some hq hE
              obtain ⟨S13, hF, hE⟩ := fw_bind hE
              refine fw_callV (As := []) (rest := []) C R ft_callV_6_109 yi_Pairs_clear ys_Pairs_clear (ct_Pairs_clear l G kd11 S10 _ _ hk_b12 hF) hk_b12 (by decide) rfl rfl hl.1 rfl (lv_room (Nat.le_of_ble_eq_true rfl)) ⟨Nat.le_of_ble_eq_true rfl, Nat.le_of_ble_eq_true rfl⟩ ⟨Nat.le_of_ble_eq_true rfl, Nat.le_of_ble_eq_true rfl⟩ d_FW_ask_61 (fun H locs kd14 hxkd14 hP R => ?_)
              rw [hP] at R; clear hP hxkd14
              refine lv_aload_n hx hb d_FW_ask_64 rfl (lv_at hl 3 rfl) ?_
              refine fw_getr C R ft_field_6_17 hk_a0 rfl rfl d_FW_ask_65 (fun hq => ?_) (fun b15 hq hk_b15 => ?_)
              · replace hE := fw_om_none hq hE
                refine lv_iload hx hb d_FW_ask_68 (lv_at hl 1 rfl) ?_
                refine lv_aload hx hb d_FW_ask_70 (lv_at hl 0 rfl) ?_
                cases hE
              · replace hE := fw_om_some hq hE
                refine lv_iload hx hb d_FW_ask_68 (lv_at hl 1 rfl) ?_
                refine lv_aload hx hb d_FW_ask_70 (lv_at hl 0 rfl) ?_
                obtain ⟨hi16, hE⟩ := fw_ifn hE
                refine fw_aast (K := 3) C R rfl (by decide) (by decide) hk_b15 hk_b7 hi16 d_FW_ask_72 (fun H locs R => ?_)
                obtain ⟨S17, eS17, hE⟩ := fw_let_ex hE
                rw [← eS17] at R
                clear eS17
                refine lv_aload_n hx hb d_FW_ask_73 rfl (lv_at hl 3 rfl) ?_
                refine lv_dup hx hb d_FW_ask_74 rfl ?_
                refine fw_get (v := .int (fw_g S17 a0 2)) C R ft_field_6_21 hk_a0 rfl d_FW_ask_75 ?_
                refine lv_iconst (v := 1) hx hb d_FW_ask_78 (by decide) ?_
                refine lv_iadd hx hb d_FW_ask_79 ?_
                refine fw_puti C R ft_field_6_21 rfl hk_a0 d_FW_ask_80 (fun H locs R => ?_)
                obtain ⟨S18, eS18, hE⟩ := fw_let_ex hE
                rw [← eS18] at R
                clear eS18
                refine lv_aload hx hb d_FW_ask_83 (lv_at hl 0 rfl) ?_
                obtain ⟨x19, hF, hE⟩ := fw_bind hE
                refine fw_callV (As := []) (rest := []) C R ft_callV_6_112 yi_Request_hasKeysLeft ys_Request_hasKeysLeft (ct_Request_hasKeysLeft l G kd11 S18 _ _ hk_b7 hF) hk_b7 (by decide) rfl rfl hl.1 rfl (lv_room (Nat.le_of_ble_eq_true rfl)) ⟨Nat.le_of_ble_eq_true rfl, Nat.le_of_ble_eq_true rfl⟩ ⟨Nat.le_of_ble_eq_true rfl, Nat.le_of_ble_eq_true rfl⟩ d_FW_ask_85 (fun H locs kd20 hxkd20 hP R => ?_)
                rw [hP] at R; clear hP hxkd20
                refine lv_if_eq (tgt := 107) hx hb d_FW_ask_88 (by decide) (fun hc => ?_) (fun hc => ?_)
                · replace hE := fw_if_t hc hE
                  refine lv_aload hx hb d_FW_ask_107 (lv_at hl 0 rfl) ?_
                  refine lv_iconst (v := 1) hx hb d_FW_ask_109 (by decide) ?_
                  refine fw_puti C R ft_field_6_85 rfl hk_b7 d_FW_ask_110 (fun H locs R => ?_)
                  obtain ⟨S21, eS21, hE⟩ := fw_let_ex hE
                  rw [← eS21] at R
                  clear eS21
                  refine lv_iload hx hb d_FW_ask_113 (lv_at hl 1 rfl) ?_
                  cases hE
                  refine W.widen (k := 10) (n := 364) (Nat.le_of_ble_eq_true rfl) (Nat.le_of_ble_eq_true rfl) ?_
                  exact fw_iret C hXkd11 trivial R d_FW_ask_115
                · replace hE := fw_if_f hc hE
                  refine lv_aload hx hb d_FW_ask_91 (lv_at hl 0 rfl) ?_
                  obtain ⟨S22, hF, hE⟩ := fw_bind hE
                  refine fw_callV (As := []) (rest := []) C R ft_callV_6_116 yi_Request_writeAsk ys_Request_writeAsk (ct_Request_writeAsk l G kd11 S18 _ _ hk_b7 hF) hk_b7 (by decide) rfl rfl hl.1 rfl (lv_room (Nat.le_of_ble_eq_true rfl)) ⟨Nat.le_of_ble_eq_true rfl, Nat.le_of_ble_eq_true rfl⟩ ⟨Nat.le_of_ble_eq_true rfl, Nat.le_of_ble_eq_true rfl⟩ d_FW_ask_93 (fun H locs kd23 hxkd23 hP R => ?_)
                  rw [hP] at R; clear hP hxkd23
                  refine lv_aload_n hx hb d_FW_ask_96 rfl (lv_at hl 3 rfl) ?_
                  refine lv_aload hx hb d_FW_ask_97 (lv_at hl 0 rfl) ?_
                  refine lv_aload_n hx hb d_FW_ask_99 rfl (lv_at hl 2 rfl) ?_
                  obtain ⟨x25, S24, hF, hE⟩ := fw_b2_ex hE
                  refine fw_callV (As := [.ref b7, .ref b3]) (rest := []) C R ft_callV_6_88 yi_FW_sendFirst ys_FW_sendFirst (ct_FW_sendFirst l G kd11 S22 _ _ _ _ _ hk_a0 hk_b7 hk_b3 hF) hk_a0 (by decide) rfl rfl hl.1 rfl (lv_room (Nat.le_of_ble_eq_true rfl)) ⟨Nat.le_of_ble_eq_true rfl, Nat.le_of_ble_eq_true rfl⟩ ⟨Nat.le_of_ble_eq_true rfl, Nat.le_of_ble_eq_true rfl⟩ d_FW_ask_100 (fun H locs kd26 hxkd26 hP R => ?_)
                  rw [hP] at R; clear hP hxkd26
                  refine lv_pop hx hb d_FW_ask_103 rfl ?_
                  refine lv_goto (tgt := 113) hx hb d_FW_ask_104 (by decide) ?_
                  refine lv_iload hx hb d_FW_ask_113 (lv_at hl 1 rfl) ?_
                  cases hE
                  refine W.widen (k := 10) (n := 364) (Nat.le_of_ble_eq_true rfl) (Nat.le_of_ble_eq_true rfl) ?_
                  exact fw_iret C hXkd11 trivial R d_FW_ask_115
        · replace hE := fw_if_f hc hE
          refine lv_bipush (v := -3) hx hb d_FW_ask_33 (by decide) ?_
          cases hE
          refine W.widen (k := 10) (n := 364) (Nat.le_of_ble_eq_true rfl) (Nat.le_of_ble_eq_true rfl) ?_
          exact fw_iret C fw_X.rf trivial R d_FW_ask_35
set_option maxHeartbeats 4000000 in
set_option maxRecDepth 100000 in
theorem ct_FW_serve (l : Launch) (G : fw_G) (kd0 : Nat → Option Nat) (S0 : fw_S) (a0 : Nat) (p1 : Nat) (p2 : Nat) (r0 : Int32) (S' : fw_S) (hk_a0 : kd0 a0 = some 6) (hk_p1 : kd0 p1 = some 0) (hk_p2 : kd0 p2 = some 5) (hE : F_FW_serve a0 p1 p2 S0 = some (r0, S')) : fw_M l G y_FW_serve prog_1_method_25_code 3 (some .boolean) 4 90 0 0 kd0 S0 ([.ref a0, .ref p1, .ref p2] : List Value) (some (.int r0)) S' (fun k => k = kd0) := by
  refine fw_start (by decide) (Nat.le_of_ble_eq_true rfl) ?_
  intro p e s m below meth c ls C hnm R hl
  clear hnm
  have hx := C.1
  have hb := C.2.1
  have hl : lv_has ls 3 [(0, .ref a0), (1, .ref p1), (2, .ref p2)] := hl
  unfold F_FW_serve at hE
  refine lv_aload_n hx hb d_FW_serve_0 rfl (lv_at hl 1 rfl) ?_
  refine fw_get (v := .int (fw_g S0 p1 0)) C R ft_field_6_214 hk_p1 rfl d_FW_serve_1 ?_
  refine lv_iconst (v := 1) hx hb d_FW_serve_4 (by decide) ?_
  refine lv_icmp_ne (tgt := 19) hx hb d_FW_serve_5 (by decide) (fun hc => ?_) (fun hc => ?_)
  · replace hE := fw_if_f hc hE
    refine lv_aload_n hx hb d_FW_serve_19 rfl (lv_at hl 1 rfl) ?_
    refine fw_get (v := .int (fw_g S0 p1 0)) C R ft_field_6_214 hk_p1 rfl d_FW_serve_20 ?_
    refine lv_iconst (v := 3) hx hb d_FW_serve_23 (by decide) ?_
    refine lv_icmp_ne (tgt := 38) hx hb d_FW_serve_24 (by decide) (fun hc => ?_) (fun hc => ?_)
    · replace hE := fw_if_f hc hE
      refine lv_iconst (v := 0) hx hb d_FW_serve_38 (by decide) ?_
      cases hE
      exact fw_zret C (by decide) fw_X.rf rfl R d_FW_serve_39
    · replace hE := fw_if_t hc hE
      refine lv_aload_n hx hb d_FW_serve_27 rfl (lv_at hl 0 rfl) ?_
      refine fw_getr C R ft_field_6_37 hk_a0 rfl rfl d_FW_serve_28 (fun hq => ?_) (fun b1 hq hk_b1 => ?_)
      · replace hE := fw_om_none hq hE
        refine lv_aload_n hx hb d_FW_serve_31 rfl (lv_at hl 1 rfl) ?_
        cases hE
      · replace hE := fw_om_some hq hE
        refine lv_aload_n hx hb d_FW_serve_31 rfl (lv_at hl 1 rfl) ?_
        obtain ⟨S2, hF, hE⟩ := fw_bind hE
        refine fw_callV (As := [.ref p1]) (rest := []) C R ft_callV_6_223 yi_ServingEnd_answerMore ys_ServingEnd_answerMore (ct_ServingEnd_answerMore l G kd0 S0 _ _ _ hk_b1 hk_p1 hF) hk_b1 (by decide) rfl rfl hl.1 rfl (lv_room (Nat.le_of_ble_eq_true rfl)) ⟨Nat.le_of_ble_eq_true rfl, Nat.le_of_ble_eq_true rfl⟩ ⟨Nat.le_of_ble_eq_true rfl, Nat.le_of_ble_eq_true rfl⟩ d_FW_serve_32 (fun H locs kd3 hxkd3 hP R => ?_)
        rw [hP] at R; clear hP hxkd3
        refine lv_goto (tgt := 40) hx hb d_FW_serve_35 (by decide) ?_
        refine lv_aload_n hx hb d_FW_serve_40 rfl (lv_at hl 0 rfl) ?_
        refine lv_aload_n hx hb d_FW_serve_41 rfl (lv_at hl 0 rfl) ?_
        refine fw_getr C R ft_field_6_37 hk_a0 rfl rfl d_FW_serve_42 (fun hq => ?_) (fun b4 hq hk_b4 => ?_)
        · replace hE := fw_om_none hq hE
          cases hE
        · replace hE := fw_om_some hq hE
          refine fw_getr C R ft_field_6_226 hk_b4 rfl rfl d_FW_serve_45 (fun hq => ?_) (fun b5 hq hk_b5 => ?_)
          · replace hE := fw_om_none hq hE
            refine lv_aload_n hx hb d_FW_serve_48 rfl (lv_at hl 2 rfl) ?_
            cases hE
          · replace hE := fw_om_some hq hE
            refine lv_aload_n hx hb d_FW_serve_48 rfl (lv_at hl 2 rfl) ?_
            obtain ⟨x7, S6, hF, hE⟩ := fw_b2_ex hE
            refine fw_callV (As := [.ref b5, .ref p2]) (rest := []) C R ft_callV_6_198 yi_FW_send ys_FW_send (ct_FW_send l G kd0 S2 _ _ _ _ _ hk_a0 hk_b5 hk_p2 hF) hk_a0 (by decide) rfl rfl hl.1 rfl (lv_room (Nat.le_of_ble_eq_true rfl)) ⟨Nat.le_of_ble_eq_true rfl, Nat.le_of_ble_eq_true rfl⟩ ⟨Nat.le_of_ble_eq_true rfl, Nat.le_of_ble_eq_true rfl⟩ d_FW_serve_49 (fun H locs kd8 hxkd8 hP R => ?_)
            rw [hP] at R; clear hP hxkd8
            refine lv_pop hx hb d_FW_serve_52 rfl ?_
            refine lv_iconst (v := 1) hx hb d_FW_serve_53 (by decide) ?_
            cases hE
            exact fw_zret C (by decide) fw_X.rf rfl R d_FW_serve_54
  · replace hE := fw_if_t hc hE
    refine lv_aload_n hx hb d_FW_serve_8 rfl (lv_at hl 0 rfl) ?_
    refine fw_getr C R ft_field_6_37 hk_a0 rfl rfl d_FW_serve_9 (fun hq => ?_) (fun b9 hq hk_b9 => ?_)
    · replace hE := fw_om_none hq hE
      refine lv_aload_n hx hb d_FW_serve_12 rfl (lv_at hl 1 rfl) ?_
      cases hE
    · replace hE := fw_om_some hq hE
      refine lv_aload_n hx hb d_FW_serve_12 rfl (lv_at hl 1 rfl) ?_
      obtain ⟨S10, hF, hE⟩ := fw_bind hE
      refine fw_callV (As := [.ref p1]) (rest := []) C R ft_callV_6_219 yi_ServingEnd_answerAsk ys_ServingEnd_answerAsk (ct_ServingEnd_answerAsk l G kd0 S0 _ _ _ hk_b9 hk_p1 hF) hk_b9 (by decide) rfl rfl hl.1 rfl (lv_room (Nat.le_of_ble_eq_true rfl)) ⟨Nat.le_of_ble_eq_true rfl, Nat.le_of_ble_eq_true rfl⟩ ⟨Nat.le_of_ble_eq_true rfl, Nat.le_of_ble_eq_true rfl⟩ d_FW_serve_13 (fun H locs kd11 hxkd11 hP R => ?_)
      rw [hP] at R; clear hP hxkd11
      refine lv_goto (tgt := 40) hx hb d_FW_serve_16 (by decide) ?_
      refine lv_aload_n hx hb d_FW_serve_40 rfl (lv_at hl 0 rfl) ?_
      refine lv_aload_n hx hb d_FW_serve_41 rfl (lv_at hl 0 rfl) ?_
      refine fw_getr C R ft_field_6_37 hk_a0 rfl rfl d_FW_serve_42 (fun hq => ?_) (fun b12 hq hk_b12 => ?_)
      · replace hE := fw_om_none hq hE
        cases hE
      · replace hE := fw_om_some hq hE
        refine fw_getr C R ft_field_6_226 hk_b12 rfl rfl d_FW_serve_45 (fun hq => ?_) (fun b13 hq hk_b13 => ?_)
        · replace hE := fw_om_none hq hE
          refine lv_aload_n hx hb d_FW_serve_48 rfl (lv_at hl 2 rfl) ?_
          cases hE
        · replace hE := fw_om_some hq hE
          refine lv_aload_n hx hb d_FW_serve_48 rfl (lv_at hl 2 rfl) ?_
          obtain ⟨x15, S14, hF, hE⟩ := fw_b2_ex hE
          refine fw_callV (As := [.ref b13, .ref p2]) (rest := []) C R ft_callV_6_198 yi_FW_send ys_FW_send (ct_FW_send l G kd0 S10 _ _ _ _ _ hk_a0 hk_b13 hk_p2 hF) hk_a0 (by decide) rfl rfl hl.1 rfl (lv_room (Nat.le_of_ble_eq_true rfl)) ⟨Nat.le_of_ble_eq_true rfl, Nat.le_of_ble_eq_true rfl⟩ ⟨Nat.le_of_ble_eq_true rfl, Nat.le_of_ble_eq_true rfl⟩ d_FW_serve_49 (fun H locs kd16 hxkd16 hP R => ?_)
          rw [hP] at R; clear hP hxkd16
          refine lv_pop hx hb d_FW_serve_52 rfl ?_
          refine lv_iconst (v := 1) hx hb d_FW_serve_53 (by decide) ?_
          cases hE
          exact fw_zret C (by decide) fw_X.rf rfl R d_FW_serve_54
set_option maxHeartbeats 4000000 in
set_option maxRecDepth 100000 in
theorem ct_FW_learn (l : Launch) (G : fw_G) (kd0 : Nat → Option Nat) (S0 : fw_S) (a0 : Nat) (p1 : Nat) (S' : fw_S) (hk_a0 : kd0 a0 = some 6) (hk_p1 : kd0 p1 = some 3) (hE : F_FW_learn a0 p1 S0 = some S') : fw_M l G y_FW_learn prog_1_method_27_code 4 none 0 0 0 0 kd0 S0 ([.ref a0, .ref p1] : List Value) none S' (fun k => k = kd0) := by
  refine fw_start (by decide) (Nat.le_of_ble_eq_true rfl) ?_
  intro p e s m below meth c ls C hnm R hl
  clear hnm
  have hx := C.1
  have hb := C.2.1
  have hl : lv_has ls 4 [(0, .ref a0), (1, .ref p1)] := hl
  unfold F_FW_learn at hE
  refine lv_aload_n hx hb d_FW_learn_0 rfl (lv_at hl 1 rfl) ?_
  refine fw_get (v := .int (fw_g S0 p1 0)) C R ft_field_6_82 hk_p1 rfl d_FW_learn_1 ?_
  refine lv_topi (fun x1 ex1 => ?_)
  replace hE := fw_let_use ex1 hE
  clear ex1
  refine lv_istore_n (lv' := [(2, .int x1), (0, .ref a0), (1, .ref p1)]) hx hb d_FW_learn_4 rfl hl (by decide) rfl (fun ls hl => ?_)
  refine lv_aload_n hx hb d_FW_learn_5 rfl (lv_at hl 2 rfl) ?_
  refine fw_get (v := .int (fw_g S0 p1 5)) C R ft_field_6_163 hk_p1 rfl d_FW_learn_6 ?_
  refine lv_if_le (tgt := 34) hx hb d_FW_learn_9 (by decide) (fun hc => ?_) (fun hc => ?_)
  · replace hE := fw_if_t hc hE
    cases hE
    exact fw_vret C fw_X.rf rfl R d_FW_learn_34
  · replace hE := fw_if_f hc hE
    refine lv_iload_n hx hb d_FW_learn_12 rfl (lv_at hl 0 rfl) ?_
    refine lv_if_lt (tgt := 34) hx hb d_FW_learn_13 (by decide) (fun hc => ?_) (fun hc => ?_)
    · replace hE := fw_if_t hc hE
      cases hE
      exact fw_vret C fw_X.rf rfl R d_FW_learn_34
    · replace hE := fw_if_f hc hE
      refine lv_iload_n hx hb d_FW_learn_16 rfl (lv_at hl 0 rfl) ?_
      refine lv_aload_n hx hb d_FW_learn_17 rfl (lv_at hl 1 rfl) ?_
      refine fw_getr C R ft_field_6_41 hk_a0 rfl rfl d_FW_learn_18 (fun hq => ?_) (fun b2 hq hk_b2 => ?_)
      · replace hE := fw_om_none hq hE
        cases hE
      · replace hE := fw_om_some hq hE
        refine fw_alen (K := 100) (ty := .int) C R (by decide) (by decide) hk_b2 d_FW_learn_21 ?_
        refine lv_icmp_ge (tgt := 34) hx hb d_FW_learn_22 (by decide) (fun hc => ?_) (fun hc => ?_)
        · replace hE := fw_if_t hc hE
          cases hE
          exact fw_vret C fw_X.rf rfl R d_FW_learn_34
        · replace hE := fw_if_f hc hE
          refine lv_iload_n hx hb d_FW_learn_25 rfl (lv_at hl 0 rfl) ?_
          refine lv_aload_n hx hb d_FW_learn_26 rfl (lv_at hl 1 rfl) ?_
          refine fw_getr C R ft_field_6_45 hk_a0 rfl rfl d_FW_learn_27 (fun hq => ?_) (fun b3 hq hk_b3 => ?_)
          · replace hE := fw_om_none hq hE
            cases hE
          · replace hE := fw_om_some hq hE
            refine fw_alen (K := 101) (ty := .boolean) C R (by decide) (by decide) hk_b3 d_FW_learn_30 ?_
            refine lv_icmp_lt (tgt := 35) hx hb d_FW_learn_31 (by decide) (fun hc => ?_) (fun hc => ?_)
            · replace hE := fw_if_t hc hE
              refine lv_aload_n hx hb d_FW_learn_35 rfl (lv_at hl 2 rfl) ?_
              refine fw_getr C R ft_field_6_151 hk_p1 rfl rfl d_FW_learn_36 (fun hq => ?_) (fun b4 hq hk_b4 => ?_)
              · replace hE := fw_om_none hq hE
                cases hE
              · replace hE := fw_om_some hq hE
                refine fw_get (v := .int (fw_g S0 b4 2)) C R ft_field_6_103 hk_b4 rfl d_FW_learn_39 ?_
                refine lv_sipush (v := 1000) hx hb d_FW_learn_42 (by decide) ?_
                refine lv_imul hx hb d_FW_learn_45 ?_
                refine lv_aload_n hx hb d_FW_learn_46 rfl (lv_at hl 2 rfl) ?_
                refine fw_get (v := .int (fw_g S0 p1 5)) C R ft_field_6_163 hk_p1 rfl d_FW_learn_47 ?_
                obtain ⟨hne5, hE⟩ := fw_ifn hE
                refine lv_idiv hx hb d_FW_learn_50 hne5 ?_
                refine lv_topi (fun x6 ex6 => ?_)
                replace hE := fw_let_use ex6 hE
                clear ex6
                refine lv_istore_n (lv' := [(3, .int x6), (2, .int x1), (0, .ref a0), (1, .ref p1)]) hx hb d_FW_learn_51 rfl hl (by decide) rfl (fun ls hl => ?_)
                refine lv_aload_n hx hb d_FW_learn_52 rfl (lv_at hl 2 rfl) ?_
                refine fw_getr C R ft_field_6_41 hk_a0 rfl rfl d_FW_learn_53 (fun hq => ?_) (fun b7 hq hk_b7 => ?_)
                · replace hE := fw_om_none hq hE
                  refine lv_iload_n hx hb d_FW_learn_56 rfl (lv_at hl 1 rfl) ?_
                  refine lv_aload_n hx hb d_FW_learn_57 rfl (lv_at hl 2 rfl) ?_
                  refine fw_getr C R ft_field_6_45 hk_a0 rfl rfl d_FW_learn_58 (fun hq => ?_) (fun b8 hq hk_b8 => ?_)
                  · replace hE := fw_om_none hq hE
                    refine lv_iload_n hx hb d_FW_learn_61 rfl (lv_at hl 1 rfl) ?_
                    cases hE
                  · replace hE := fw_om_some hq hE
                    refine lv_iload_n hx hb d_FW_learn_61 rfl (lv_at hl 1 rfl) ?_
                    obtain ⟨hi9, hE⟩ := fw_ifn hE
                    refine fw_zald C R (by decide) hk_b8 hi9 d_FW_learn_62 ?_
                    refine lv_if_eq (tgt := 79) hx hb d_FW_learn_63 (by decide) (fun hc => ?_) (fun hc => ?_)
                    · replace hE := fw_if_t hc hE
                      refine lv_iload_n hx hb d_FW_learn_79 rfl (lv_at hl 0 rfl) ?_
                      cases hE
                    · replace hE := fw_if_f hc hE
                      refine lv_aload_n hx hb d_FW_learn_66 rfl (lv_at hl 2 rfl) ?_
                      refine fw_getr C R ft_field_6_41 hk_a0 rfl rfl d_FW_learn_67 (fun hq => ?_) (fun b10 hq hk_b10 => ?_)
                      · replace hE := fw_om_none hq hE
                        refine lv_iload_n hx hb d_FW_learn_70 rfl (lv_at hl 1 rfl) ?_
                        cases hE
                      · replace hE := fw_om_some hq hE
                        refine lv_iload_n hx hb d_FW_learn_70 rfl (lv_at hl 1 rfl) ?_
                        obtain ⟨hi11, hE⟩ := fw_ifn hE
                        refine fw_iald C R (by decide) hk_b10 hi11 d_FW_learn_71 ?_
                        refine lv_iload_n hx hb d_FW_learn_72 rfl (lv_at hl 0 rfl) ?_
                        refine lv_iadd hx hb d_FW_learn_73 ?_
                        refine lv_iconst (v := 2) hx hb d_FW_learn_74 (by decide) ?_
                        refine lv_idiv hx hb d_FW_learn_75 (by decide) ?_
                        refine lv_goto (tgt := 80) hx hb d_FW_learn_76 (by decide) ?_
                        cases hE
                · replace hE := fw_om_some hq hE
                  refine lv_iload_n hx hb d_FW_learn_56 rfl (lv_at hl 1 rfl) ?_
                  refine lv_aload_n hx hb d_FW_learn_57 rfl (lv_at hl 2 rfl) ?_
                  refine fw_getr C R ft_field_6_45 hk_a0 rfl rfl d_FW_learn_58 (fun hq => ?_) (fun b12 hq hk_b12 => ?_)
                  · replace hE := fw_om_none hq hE
                    refine lv_iload_n hx hb d_FW_learn_61 rfl (lv_at hl 1 rfl) ?_
                    cases hE
                  · replace hE := fw_om_some hq hE
                    refine lv_iload_n hx hb d_FW_learn_61 rfl (lv_at hl 1 rfl) ?_
                    obtain ⟨hi13, hE⟩ := fw_ifn hE
                    refine fw_zald C R (by decide) hk_b12 hi13 d_FW_learn_62 ?_
                    refine lv_if_eq (tgt := 79) hx hb d_FW_learn_63 (by decide) (fun hc => ?_) (fun hc => ?_)
                    · replace hE := fw_if_t hc hE
                      refine lv_iload_n hx hb d_FW_learn_79 rfl (lv_at hl 0 rfl) ?_
                      obtain ⟨hi14, hE⟩ := fw_ifn hE
                      refine fw_iast C R (by decide) hk_b7 hi14 d_FW_learn_80 (fun H locs R => ?_)
                      obtain ⟨S15, eS15, hE⟩ := fw_let_ex hE
                      rw [← eS15] at R
                      clear eS15
                      refine lv_aload_n hx hb d_FW_learn_81 rfl (lv_at hl 2 rfl) ?_
                      refine fw_getr C R ft_field_6_45 hk_a0 rfl rfl d_FW_learn_82 (fun hq => ?_) (fun b16 hq hk_b16 => ?_)
                      · replace hE := fw_om_none hq hE
                        refine lv_iload_n hx hb d_FW_learn_85 rfl (lv_at hl 1 rfl) ?_
                        refine lv_iconst (v := 1) hx hb d_FW_learn_86 (by decide) ?_
                        cases hE
                      · replace hE := fw_om_some hq hE
                        refine lv_iload_n hx hb d_FW_learn_85 rfl (lv_at hl 1 rfl) ?_
                        refine lv_iconst (v := 1) hx hb d_FW_learn_86 (by decide) ?_
                        obtain ⟨hi17, hE⟩ := fw_ifn hE
                        refine fw_zast C R (by decide) hk_b16 (by decide) hi17 d_FW_learn_87 (fun H locs R => ?_)
                        obtain ⟨S18, eS18, hE⟩ := fw_let_ex hE
                        rw [← eS18] at R
                        clear eS18
                        cases hE
                        exact fw_vret C fw_X.rf rfl R d_FW_learn_88
                    · replace hE := fw_if_f hc hE
                      refine lv_aload_n hx hb d_FW_learn_66 rfl (lv_at hl 2 rfl) ?_
                      refine fw_getr C R ft_field_6_41 hk_a0 rfl rfl d_FW_learn_67 (fun hq => ?_) (fun b19 hq hk_b19 => ?_)
                      · replace hE := fw_om_none hq hE
                        refine lv_iload_n hx hb d_FW_learn_70 rfl (lv_at hl 1 rfl) ?_
                        cases hE
                      · replace hE := fw_om_some hq hE
                        refine lv_iload_n hx hb d_FW_learn_70 rfl (lv_at hl 1 rfl) ?_
                        obtain ⟨hi20, hE⟩ := fw_ifn hE
                        refine fw_iald C R (by decide) hk_b19 hi20 d_FW_learn_71 ?_
                        refine lv_iload_n hx hb d_FW_learn_72 rfl (lv_at hl 0 rfl) ?_
                        refine lv_iadd hx hb d_FW_learn_73 ?_
                        refine lv_iconst (v := 2) hx hb d_FW_learn_74 (by decide) ?_
                        refine lv_idiv hx hb d_FW_learn_75 (by decide) ?_
                        refine lv_goto (tgt := 80) hx hb d_FW_learn_76 (by decide) ?_
                        obtain ⟨hi21, hE⟩ := fw_ifn hE
                        refine fw_iast C R (by decide) hk_b7 hi21 d_FW_learn_80 (fun H locs R => ?_)
                        obtain ⟨S22, eS22, hE⟩ := fw_let_ex hE
                        rw [← eS22] at R
                        clear eS22
                        refine lv_aload_n hx hb d_FW_learn_81 rfl (lv_at hl 2 rfl) ?_
                        refine fw_getr C R ft_field_6_45 hk_a0 rfl rfl d_FW_learn_82 (fun hq => ?_) (fun b23 hq hk_b23 => ?_)
                        · replace hE := fw_om_none hq hE
                          refine lv_iload_n hx hb d_FW_learn_85 rfl (lv_at hl 1 rfl) ?_
                          refine lv_iconst (v := 1) hx hb d_FW_learn_86 (by decide) ?_
                          cases hE
                        · replace hE := fw_om_some hq hE
                          refine lv_iload_n hx hb d_FW_learn_85 rfl (lv_at hl 1 rfl) ?_
                          refine lv_iconst (v := 1) hx hb d_FW_learn_86 (by decide) ?_
                          obtain ⟨hi24, hE⟩ := fw_ifn hE
                          refine fw_zast C R (by decide) hk_b23 (by decide) hi24 d_FW_learn_87 (fun H locs R => ?_)
                          obtain ⟨S25, eS25, hE⟩ := fw_let_ex hE
                          rw [← eS25] at R
                          clear eS25
                          cases hE
                          exact fw_vret C fw_X.rf rfl R d_FW_learn_88
            · replace hE := fw_if_f hc hE
              cases hE
              exact fw_vret C fw_X.rf rfl R d_FW_learn_34
set_option maxHeartbeats 4000000 in
set_option maxRecDepth 100000 in
theorem ct_FW_hear (l : Launch) (G : fw_G) (kd0 : Nat → Option Nat) (S0 : fw_S) (a0 : Nat) (p1 : Nat) (p2 : Int32) (p3 : Nat) (r0 : Int32) (S' : fw_S) (hk_a0 : kd0 a0 = some 6) (hk_p1 : kd0 p1 = some 0) (hk_p3 : kd0 p3 = some 5) (hE : F_FW_hear a0 p1 p2 p3 S0 = some (r0, S')) : fw_M l G y_FW_hear prog_1_method_26_code 5 (some .boolean) 4 89 0 0 kd0 S0 ([.ref a0, .ref p1, .int p2, .ref p3] : List Value) (some (.int r0)) S' (fun k => k = kd0) := by
  refine fw_start (by decide) (Nat.le_of_ble_eq_true rfl) ?_
  intro p e s m below meth c ls C hnm R hl
  clear hnm
  have hx := C.1
  have hb := C.2.1
  have hl : lv_has ls 5 [(0, .ref a0), (1, .ref p1), (2, .int p2), (3, .ref p3)] := hl
  unfold F_FW_hear at hE
  refine lv_aload_n hx hb d_FW_hear_0 rfl (lv_at hl 0 rfl) ?_
  refine lv_aload_n hx hb d_FW_hear_1 rfl (lv_at hl 1 rfl) ?_
  refine fw_get (v := .int (fw_g S0 p1 1)) C R ft_field_6_229 hk_p1 rfl d_FW_hear_2 ?_
  obtain ⟨o1, hF, hE⟩ := fw_bind hE
  refine fw_callV (As := [.int (fw_g S0 p1 1)]) (rest := []) C R ft_callV_6_78 yi_FW_requestAt ys_FW_requestAt (ct_FW_requestAt l G kd0 S0 _ _ _ hk_a0 hF) hk_a0 (by decide) rfl rfl hl.1 rfl (lv_room (Nat.le_of_ble_eq_true rfl)) ⟨Nat.le_of_ble_eq_true rfl, Nat.le_of_ble_eq_true rfl⟩ ⟨Nat.le_of_ble_eq_true rfl, Nat.le_of_ble_eq_true rfl⟩ d_FW_hear_5 (fun H locs kd2 hxkd2 hP R => ?_)
  obtain ⟨hP0, hP⟩ := hP
  rw [hP0] at hP R; clear hP0 hxkd2
  cases o1 with
  | none =>
    replace hE := fw_om_none rfl hE
    refine lv_astoreN (lv' := [(4, .null), (0, .ref a0), (1, .ref p1), (2, .int p2), (3, .ref p3)]) hx hb d_FW_hear_8 hl (by decide) rfl (fun ls hl => ?_)
    refine lv_aloadN hx hb d_FW_hear_10 (lv_at hl 0 rfl) ?_
    refine lv_ifnullN (tgt := 25) hx hb d_FW_hear_12 (by decide) ?_
    refine lv_iconst (v := 0) hx hb d_FW_hear_25 (by decide) ?_
    cases hE
    exact fw_zret C (by decide) fw_X.rf rfl R d_FW_hear_26
  | some b3 =>
    replace hE := fw_om_some rfl hE
    have hk_b3 := hP _ rfl
    clear hP
    refine lv_astore (lv' := [(4, .ref b3), (0, .ref a0), (1, .ref p1), (2, .int p2), (3, .ref p3)]) hx hb d_FW_hear_8 hl (by decide) rfl (fun ls hl => ?_)
    refine lv_aload hx hb d_FW_hear_10 (lv_at hl 0 rfl) ?_
    refine lv_ifnull hx hb d_FW_hear_12 ?_
    refine lv_aload hx hb d_FW_hear_15 (lv_at hl 0 rfl) ?_
    refine lv_aload_n hx hb d_FW_hear_17 rfl (lv_at hl 2 rfl) ?_
    refine lv_iload_n hx hb d_FW_hear_18 rfl (lv_at hl 3 rfl) ?_
    obtain ⟨x4, hF, hE⟩ := fw_bind hE
    refine fw_callV (As := [.ref p1, .int p2]) (rest := []) C R ft_callV_6_232 yi_Request_waitsFor ys_Request_waitsFor (ct_Request_waitsFor l G kd0 S0 _ _ _ _ hk_b3 hk_p1 hF) hk_b3 (by decide) rfl rfl hl.1 rfl (lv_room (Nat.le_of_ble_eq_true rfl)) ⟨Nat.le_of_ble_eq_true rfl, Nat.le_of_ble_eq_true rfl⟩ ⟨Nat.le_of_ble_eq_true rfl, Nat.le_of_ble_eq_true rfl⟩ d_FW_hear_19 (fun H locs kd5 hxkd5 hP R => ?_)
    rw [hP] at R; clear hP hxkd5
    refine lv_if_ne (tgt := 27) hx hb d_FW_hear_22 (by decide) (fun hc => ?_) (fun hc => ?_)
    · replace hE := fw_if_f hc hE
      refine lv_aload_n hx hb d_FW_hear_27 rfl (lv_at hl 2 rfl) ?_
      refine fw_get (v := .int (fw_g S0 p1 0)) C R ft_field_6_214 hk_p1 rfl d_FW_hear_28 ?_
      refine lv_iconst (v := 4) hx hb d_FW_hear_31 (by decide) ?_
      refine lv_icmp_ne (tgt := 43) hx hb d_FW_hear_32 (by decide) (fun hc => ?_) (fun hc => ?_)
      · replace hE := fw_if_f hc hE
        refine lv_aload hx hb d_FW_hear_43 (lv_at hl 0 rfl) ?_
        refine lv_aload_n hx hb d_FW_hear_45 rfl (lv_at hl 2 rfl) ?_
        obtain ⟨S6, hF, hE⟩ := fw_bind hE
        refine fw_callV (As := [.ref p1]) (rest := []) C R ft_callV_6_239 yi_Request_takeRows ys_Request_takeRows (ct_Request_takeRows l G kd0 S0 _ _ _ hk_b3 hk_p1 hF) hk_b3 (by decide) rfl rfl hl.1 rfl (lv_room (Nat.le_of_ble_eq_true rfl)) ⟨Nat.le_of_ble_eq_true rfl, Nat.le_of_ble_eq_true rfl⟩ ⟨Nat.le_of_ble_eq_true rfl, Nat.le_of_ble_eq_true rfl⟩ d_FW_hear_46 (fun H locs kd7 hxkd7 hP R => ?_)
        rw [hP] at R; clear hP hxkd7
        refine lv_aload_n hx hb d_FW_hear_49 rfl (lv_at hl 2 rfl) ?_
        refine lv_iconst (v := 1) hx hb d_FW_hear_50 (by decide) ?_
        obtain ⟨x8, hF, hE⟩ := fw_bind hE
        refine fw_callV (As := [.int (1 : Int32)]) (rest := []) C R ft_callV_6_242 yi_Frame_byteAt ys_Frame_byteAt (ct_Frame_byteAt l G kd0 S6 _ _ _ hk_p1 hF) hk_p1 (by decide) rfl rfl hl.1 rfl (lv_room (Nat.le_of_ble_eq_true rfl)) ⟨Nat.le_of_ble_eq_true rfl, Nat.le_of_ble_eq_true rfl⟩ ⟨Nat.le_of_ble_eq_true rfl, Nat.le_of_ble_eq_true rfl⟩ d_FW_hear_51 (fun H locs kd9 hxkd9 hP R => ?_)
        rw [hP] at R; clear hP hxkd9
        refine lv_iconst (v := 1) hx hb d_FW_hear_54 (by decide) ?_
        refine lv_icmp_ne (tgt := 74) hx hb d_FW_hear_55 (by decide) (fun hc => ?_) (fun hc => ?_)
        · replace hE := fw_if_f hc hE
          refine lv_aload hx hb d_FW_hear_74 (lv_at hl 0 rfl) ?_
          obtain ⟨x10, hF, hE⟩ := fw_bind hE
          refine fw_callV (As := []) (rest := []) C R ft_callV_6_112 yi_Request_hasKeysLeft ys_Request_hasKeysLeft (ct_Request_hasKeysLeft l G kd0 S6 _ _ hk_b3 hF) hk_b3 (by decide) rfl rfl hl.1 rfl (lv_room (Nat.le_of_ble_eq_true rfl)) ⟨Nat.le_of_ble_eq_true rfl, Nat.le_of_ble_eq_true rfl⟩ ⟨Nat.le_of_ble_eq_true rfl, Nat.le_of_ble_eq_true rfl⟩ d_FW_hear_76 (fun H locs kd11 hxkd11 hP R => ?_)
          rw [hP] at R; clear hP hxkd11
          refine lv_if_eq (tgt := 98) hx hb d_FW_hear_79 (by decide) (fun hc => ?_) (fun hc => ?_)
          · replace hE := fw_if_t hc hE
            refine lv_aload hx hb d_FW_hear_98 (lv_at hl 0 rfl) ?_
            refine lv_iconst (v := 1) hx hb d_FW_hear_100 (by decide) ?_
            refine fw_puti C R ft_field_6_85 rfl hk_b3 d_FW_hear_101 (fun H locs R => ?_)
            obtain ⟨S12, eS12, hE⟩ := fw_let_ex hE
            rw [← eS12] at R
            clear eS12
            refine lv_aload_n hx hb d_FW_hear_104 rfl (lv_at hl 1 rfl) ?_
            refine lv_aload hx hb d_FW_hear_105 (lv_at hl 0 rfl) ?_
            obtain ⟨S13, hF, hE⟩ := fw_bind hE
            refine fw_callV (As := [.ref b3]) (rest := []) C R ft_callV_6_248 yi_FW_learn ys_FW_learn (ct_FW_learn l G kd0 S12 _ _ _ hk_a0 hk_b3 hF) hk_a0 (by decide) rfl rfl hl.1 rfl (lv_room (Nat.le_of_ble_eq_true rfl)) ⟨Nat.le_of_ble_eq_true rfl, Nat.le_of_ble_eq_true rfl⟩ ⟨Nat.le_of_ble_eq_true rfl, Nat.le_of_ble_eq_true rfl⟩ d_FW_hear_107 (fun H locs kd14 hxkd14 hP R => ?_)
            rw [hP] at R; clear hP hxkd14
            refine lv_iconst (v := 1) hx hb d_FW_hear_110 (by decide) ?_
            cases hE
            exact fw_zret C (by decide) fw_X.rf rfl R d_FW_hear_111
          · replace hE := fw_if_f hc hE
            refine lv_aload hx hb d_FW_hear_82 (lv_at hl 0 rfl) ?_
            obtain ⟨S15, hF, hE⟩ := fw_bind hE
            refine fw_callV (As := []) (rest := []) C R ft_callV_6_116 yi_Request_writeAsk ys_Request_writeAsk (ct_Request_writeAsk l G kd0 S6 _ _ hk_b3 hF) hk_b3 (by decide) rfl rfl hl.1 rfl (lv_room (Nat.le_of_ble_eq_true rfl)) ⟨Nat.le_of_ble_eq_true rfl, Nat.le_of_ble_eq_true rfl⟩ ⟨Nat.le_of_ble_eq_true rfl, Nat.le_of_ble_eq_true rfl⟩ d_FW_hear_84 (fun H locs kd16 hxkd16 hP R => ?_)
            rw [hP] at R; clear hP hxkd16
            refine lv_aload_n hx hb d_FW_hear_87 rfl (lv_at hl 1 rfl) ?_
            refine lv_aload hx hb d_FW_hear_88 (lv_at hl 0 rfl) ?_
            refine lv_aload_n hx hb d_FW_hear_90 rfl (lv_at hl 4 rfl) ?_
            obtain ⟨x18, S17, hF, hE⟩ := fw_b2_ex hE
            refine fw_callV (As := [.ref b3, .ref p3]) (rest := []) C R ft_callV_6_88 yi_FW_sendFirst ys_FW_sendFirst (ct_FW_sendFirst l G kd0 S15 _ _ _ _ _ hk_a0 hk_b3 hk_p3 hF) hk_a0 (by decide) rfl rfl hl.1 rfl (lv_room (Nat.le_of_ble_eq_true rfl)) ⟨Nat.le_of_ble_eq_true rfl, Nat.le_of_ble_eq_true rfl⟩ ⟨Nat.le_of_ble_eq_true rfl, Nat.le_of_ble_eq_true rfl⟩ d_FW_hear_91 (fun H locs kd19 hxkd19 hP R => ?_)
            rw [hP] at R; clear hP hxkd19
            refine lv_pop hx hb d_FW_hear_94 rfl ?_
            refine lv_goto (tgt := 110) hx hb d_FW_hear_95 (by decide) ?_
            refine lv_iconst (v := 1) hx hb d_FW_hear_110 (by decide) ?_
            cases hE
            exact fw_zret C (by decide) fw_X.rf rfl R d_FW_hear_111
        · replace hE := fw_if_t hc hE
          refine lv_aload hx hb d_FW_hear_58 (lv_at hl 0 rfl) ?_
          obtain ⟨S20, hF, hE⟩ := fw_bind hE
          refine fw_callV (As := []) (rest := []) C R ft_callV_6_245 yi_Request_writeMore ys_Request_writeMore (ct_Request_writeMore l G kd0 S6 _ _ hk_b3 hF) hk_b3 (by decide) rfl rfl hl.1 rfl (lv_room (Nat.le_of_ble_eq_true rfl)) ⟨Nat.le_of_ble_eq_true rfl, Nat.le_of_ble_eq_true rfl⟩ ⟨Nat.le_of_ble_eq_true rfl, Nat.le_of_ble_eq_true rfl⟩ d_FW_hear_60 (fun H locs kd21 hxkd21 hP R => ?_)
          rw [hP] at R; clear hP hxkd21
          refine lv_aload_n hx hb d_FW_hear_63 rfl (lv_at hl 1 rfl) ?_
          refine lv_aload hx hb d_FW_hear_64 (lv_at hl 0 rfl) ?_
          refine lv_aload_n hx hb d_FW_hear_66 rfl (lv_at hl 4 rfl) ?_
          obtain ⟨x23, S22, hF, hE⟩ := fw_b2_ex hE
          refine fw_callV (As := [.ref b3, .ref p3]) (rest := []) C R ft_callV_6_88 yi_FW_sendFirst ys_FW_sendFirst (ct_FW_sendFirst l G kd0 S20 _ _ _ _ _ hk_a0 hk_b3 hk_p3 hF) hk_a0 (by decide) rfl rfl hl.1 rfl (lv_room (Nat.le_of_ble_eq_true rfl)) ⟨Nat.le_of_ble_eq_true rfl, Nat.le_of_ble_eq_true rfl⟩ ⟨Nat.le_of_ble_eq_true rfl, Nat.le_of_ble_eq_true rfl⟩ d_FW_hear_67 (fun H locs kd24 hxkd24 hP R => ?_)
          rw [hP] at R; clear hP hxkd24
          refine lv_pop hx hb d_FW_hear_70 rfl ?_
          refine lv_goto (tgt := 110) hx hb d_FW_hear_71 (by decide) ?_
          refine lv_iconst (v := 1) hx hb d_FW_hear_110 (by decide) ?_
          cases hE
          exact fw_zret C (by decide) fw_X.rf rfl R d_FW_hear_111
      · replace hE := fw_if_t hc hE
        refine lv_aload hx hb d_FW_hear_35 (lv_at hl 0 rfl) ?_
        refine lv_iconst (v := 3) hx hb d_FW_hear_37 (by decide) ?_
        obtain ⟨S25, hF, hE⟩ := fw_bind hE
        refine fw_callV (As := [.int (3 : Int32)]) (rest := []) C R ft_callV_6_236 yi_Request_fail ys_Request_fail (ct_Request_fail l G kd0 S0 _ _ _ hk_b3 hF) hk_b3 (by decide) rfl rfl hl.1 rfl (lv_room (Nat.le_of_ble_eq_true rfl)) ⟨Nat.le_of_ble_eq_true rfl, Nat.le_of_ble_eq_true rfl⟩ ⟨Nat.le_of_ble_eq_true rfl, Nat.le_of_ble_eq_true rfl⟩ d_FW_hear_38 (fun H locs kd26 hxkd26 hP R => ?_)
        rw [hP] at R; clear hP hxkd26
        refine lv_iconst (v := 1) hx hb d_FW_hear_41 (by decide) ?_
        cases hE
        exact fw_zret C (by decide) fw_X.rf rfl R d_FW_hear_42
    · replace hE := fw_if_t hc hE
      refine lv_iconst (v := 0) hx hb d_FW_hear_25 (by decide) ?_
      cases hE
      exact fw_zret C (by decide) fw_X.rf rfl R d_FW_hear_26
set_option maxHeartbeats 4000000 in
set_option maxRecDepth 100000 in
theorem ct_FW_take (l : Launch) (G : fw_G) (kd0 : Nat → Option Nat) (S0 : fw_S) (a0 : Nat) (p1 : Int32) (p2 : Nat) (p3 : Int32) (r0 : Int32) (S' : fw_S) (hk_a0 : kd0 a0 = some 6) (hk_p2 : kd0 p2 = some 5) (hE : F_FW_take a0 p1 p2 p3 S0 = some (r0, S')) : fw_M l G y_FW_take prog_1_method_24_code 7 (some .int) 5 113 0 0 kd0 S0 ([.ref a0, .int p1, .ref p2, .int p3] : List Value) (some (.int r0)) S' (fun k => k = kd0) := by
  refine fw_start (by decide) (Nat.le_of_ble_eq_true rfl) ?_
  intro p e s m below meth c ls C hnm R hl
  clear hnm
  have hx := C.1
  have hb := C.2.1
  have hl : lv_has ls 7 [(0, .ref a0), (1, .int p1), (2, .ref p2), (3, .int p3)] := hl
  have h_j69 : ∀ v0 : Nat, ∀ v5 : Nat, ∀ s0 : Int32, ∀ S0 : fw_S, kd0 v0 = some 6 → kd0 v5 = some 0 → ∀ (H : Heap) (locs : List Loc) (ls : Array Slot), fw_R G kd0 S0 H locs → lv_has ls 7 [(0, .ref v0), (5, .ref v5)] → F_FW_take_j69 v0 v5 s0 S0 = some (r0, S') → W p l e { frames := 5, cells := 0, slots := 0, locals := 113 } s m ([.ref a0, .int p1, .ref p2, .int p3] : List Value).toArray below meth c H locs 0 0 (MQ below (fw_Q G kd0 (some (.int r0)) S' (fun k => k = kd0)) ([.ref a0, .int p1, .ref p2, .int p3] : List Value).toArray s 0 0 (fw_A G)) (F0 m 69 ls [.int s0]) := by
    intro v0 v5 s0 S0 hk_v0 hk_v5 H locs ls R hl hE
    unfold F_FW_take_j69 at hE
    refine lv_istore (lv' := [(6, .int s0), (0, .ref v0), (5, .ref v5)]) hx hb d_FW_take_69 hl (by decide) rfl (fun ls hl => ?_)
    refine lv_iload hx hb d_FW_take_71 (lv_at hl 0 rfl) ?_
    refine lv_if_eq (tgt := 82) hx hb d_FW_take_73 (by decide) (fun hc => ?_) (fun hc => ?_)
    · replace hE := fw_if_t hc hE
      refine lv_aload_n hx hb d_FW_take_82 rfl (lv_at hl 1 rfl) ?_
      refine lv_dup hx hb d_FW_take_83 rfl ?_
      refine fw_get (v := .int (fw_g S0 v0 11)) C R ft_field_6_61 hk_v0 rfl d_FW_take_84 ?_
      refine lv_iconst (v := 1) hx hb d_FW_take_87 (by decide) ?_
      refine lv_iadd hx hb d_FW_take_88 ?_
      refine fw_puti C R ft_field_6_61 rfl hk_v0 d_FW_take_89 (fun H locs R => ?_)
      obtain ⟨S8, eS8, hE⟩ := fw_let_ex hE
      rw [← eS8] at R
      clear eS8
      refine lv_aload hx hb d_FW_take_92 (lv_at hl 2 rfl) ?_
      refine fw_get (v := .int (fw_g S8 v5 0)) C R ft_field_6_214 hk_v5 rfl d_FW_take_94 ?_
      refine lv_bipush (v := 10) hx hb d_FW_take_97 (by decide) ?_
      refine lv_iadd hx hb d_FW_take_99 ?_
      cases hE
      exact fw_iret C fw_X.rf rfl R d_FW_take_100
    · replace hE := fw_if_f hc hE
      refine lv_aload hx hb d_FW_take_76 (lv_at hl 2 rfl) ?_
      refine fw_get (v := .int (fw_g S0 v5 0)) C R ft_field_6_214 hk_v5 rfl d_FW_take_78 ?_
      cases hE
      exact fw_iret C fw_X.rf rfl R d_FW_take_81
  have h_j31 : ∀ v0 : Nat, ∀ v1 : Int32, ∀ v2 : Nat, ∀ v4 : Int32, ∀ S0 : fw_S, kd0 v0 = some 6 → kd0 v2 = some 5 → ∀ (H : Heap) (locs : List Loc) (ls : Array Slot), fw_R G kd0 S0 H locs → lv_has ls 7 [(0, .ref v0), (1, .int v1), (2, .ref v2), (4, .int v4)] → F_FW_take_j31 v0 v1 v2 v4 S0 = some (r0, S') → W p l e { frames := 5, cells := 0, slots := 0, locals := 113 } s m ([.ref a0, .int p1, .ref p2, .int p3] : List Value).toArray below meth c H locs 0 0 (MQ below (fw_Q G kd0 (some (.int r0)) S' (fun k => k = kd0)) ([.ref a0, .int p1, .ref p2, .int p3] : List Value).toArray s 0 0 (fw_A G)) (F0 m 31 ls []) := by
    intro v0 v1 v2 v4 S0 hk_v0 hk_v2 H locs ls R hl hE
    unfold F_FW_take_j31 at hE
    refine lv_iload hx hb d_FW_take_31 (lv_at hl 3 rfl) ?_
    refine lv_iconst (v := 1) hx hb d_FW_take_33 (by decide) ?_
    refine lv_icmp_eq (tgt := 40) hx hb d_FW_take_34 (by decide) (fun hc => ?_) (fun hc => ?_)
    · replace hE := fw_if_t hc hE
      refine lv_aload_n hx hb d_FW_take_40 rfl (lv_at hl 2 rfl) ?_
      refine fw_getr C R ft_field_6_204 hk_v2 rfl rfl d_FW_take_41 (fun hq => ?_) (fun b4 hq hk_b4 => ?_)
      · replace hE := fw_om_none hq hE
        refine lv_astoreN (lv' := [(5, .null), (0, .ref v0), (1, .int v1), (2, .ref v2), (4, .int v4)]) hx hb d_FW_take_44 hl (by decide) rfl (fun ls hl => ?_)
        refine lv_iload_n hx hb d_FW_take_46 rfl (lv_at hl 2 rfl) ?_
        refine lv_iconst (v := 4) hx hb d_FW_take_47 (by decide) ?_
        refine lv_icmp_ne (tgt := 61) hx hb d_FW_take_48 (by decide) (fun hc => ?_) (fun hc => ?_)
        · replace hE := fw_if_f hc hE
          refine lv_aload_n hx hb d_FW_take_61 rfl (lv_at hl 1 rfl) ?_
          refine lv_aloadN hx hb d_FW_take_62 (lv_at hl 0 rfl) ?_
          refine lv_iload_n hx hb d_FW_take_64 rfl (lv_at hl 2 rfl) ?_
          refine lv_aload_n hx hb d_FW_take_65 rfl (lv_at hl 3 rfl) ?_
          cases hE
        · replace hE := fw_if_t hc hE
          refine lv_aload_n hx hb d_FW_take_51 rfl (lv_at hl 1 rfl) ?_
          refine lv_aloadN hx hb d_FW_take_52 (lv_at hl 0 rfl) ?_
          refine lv_aload_n hx hb d_FW_take_54 rfl (lv_at hl 3 rfl) ?_
          cases hE
      · replace hE := fw_om_some hq hE
        refine lv_astore (lv' := [(5, .ref b4), (0, .ref v0), (1, .int v1), (2, .ref v2), (4, .int v4)]) hx hb d_FW_take_44 hl (by decide) rfl (fun ls hl => ?_)
        refine lv_iload_n hx hb d_FW_take_46 rfl (lv_at hl 2 rfl) ?_
        refine lv_iconst (v := 4) hx hb d_FW_take_47 (by decide) ?_
        refine lv_icmp_ne (tgt := 61) hx hb d_FW_take_48 (by decide) (fun hc => ?_) (fun hc => ?_)
        · replace hE := fw_if_f hc hE
          refine lv_aload_n hx hb d_FW_take_61 rfl (lv_at hl 1 rfl) ?_
          refine lv_aload hx hb d_FW_take_62 (lv_at hl 0 rfl) ?_
          refine lv_iload_n hx hb d_FW_take_64 rfl (lv_at hl 2 rfl) ?_
          refine lv_aload_n hx hb d_FW_take_65 rfl (lv_at hl 3 rfl) ?_
          obtain ⟨x6, S5, hF, hE⟩ := fw_b2_ex hE
          refine fw_callV (As := [.ref b4, .int v1, .ref v2]) (rest := []) C R ft_callV_6_210 yi_FW_hear ys_FW_hear (ct_FW_hear l G kd0 S0 _ _ _ _ _ _ hk_v0 hk_b4 hk_v2 hF) hk_v0 (by decide) rfl rfl hl.1 rfl (lv_room (Nat.le_of_ble_eq_true rfl)) ⟨Nat.le_of_ble_eq_true rfl, Nat.le_of_ble_eq_true rfl⟩ ⟨Nat.le_of_ble_eq_true rfl, Nat.le_of_ble_eq_true rfl⟩ d_FW_take_66 (fun H locs kd7 hxkd7 hP R => ?_)
          rw [hP] at R; clear hP hxkd7
          exact h_j69 _ _ _ _ hk_v0 hk_b4 _ _ _ R (lv_sub hl [1, 0] rfl) hE
        · replace hE := fw_if_t hc hE
          refine lv_aload_n hx hb d_FW_take_51 rfl (lv_at hl 1 rfl) ?_
          refine lv_aload hx hb d_FW_take_52 (lv_at hl 0 rfl) ?_
          refine lv_aload_n hx hb d_FW_take_54 rfl (lv_at hl 3 rfl) ?_
          obtain ⟨x10, S9, hF, hE⟩ := fw_b2_ex hE
          refine fw_callV (As := [.ref b4, .ref v2]) (rest := []) C R ft_callV_6_207 yi_FW_serve ys_FW_serve (ct_FW_serve l G kd0 S0 _ _ _ _ _ hk_v0 hk_b4 hk_v2 hF) hk_v0 (by decide) rfl rfl hl.1 rfl (lv_room (Nat.le_of_ble_eq_true rfl)) ⟨Nat.le_of_ble_eq_true rfl, Nat.le_of_ble_eq_true rfl⟩ ⟨Nat.le_of_ble_eq_true rfl, Nat.le_of_ble_eq_true rfl⟩ d_FW_take_55 (fun H locs kd11 hxkd11 hP R => ?_)
          rw [hP] at R; clear hP hxkd11
          refine lv_goto (tgt := 69) hx hb d_FW_take_58 (by decide) ?_
          exact h_j69 _ _ _ _ hk_v0 hk_b4 _ _ _ R (lv_sub hl [1, 0] rfl) hE
    · replace hE := fw_if_f hc hE
      refine lv_iload hx hb d_FW_take_37 (lv_at hl 3 rfl) ?_
      cases hE
      exact fw_iret C fw_X.rf rfl R d_FW_take_39
  unfold F_FW_take at hE
  refine lv_aload_n hx hb d_FW_take_0 rfl (lv_at hl 2 rfl) ?_
  refine lv_iload_n hx hb d_FW_take_1 rfl (lv_at hl 3 rfl) ?_
  obtain ⟨x2, S1, hF, hE⟩ := fw_b2_ex hE
  refine fw_callV (As := [.int p3]) (rest := []) C R ft_callV_6_201 yi_Wire_accept ys_Wire_accept (ct_Wire_accept l G kd0 S0 _ _ _ _ hk_p2 hF) hk_p2 (by decide) rfl rfl hl.1 rfl (lv_room (Nat.le_of_ble_eq_true rfl)) ⟨Nat.le_of_ble_eq_true rfl, Nat.le_of_ble_eq_true rfl⟩ ⟨Nat.le_of_ble_eq_true rfl, Nat.le_of_ble_eq_true rfl⟩ d_FW_take_2 (fun H locs kd3 hxkd3 hP R => ?_)
  rw [hP] at R; clear hP hxkd3
  refine lv_istore (lv' := [(4, .int x2), (0, .ref a0), (1, .int p1), (2, .ref p2), (3, .int p3)]) hx hb d_FW_take_5 hl (by decide) rfl (fun ls hl => ?_)
  refine lv_iload hx hb d_FW_take_7 (lv_at hl 0 rfl) ?_
  refine lv_bipush (v := -10) hx hb d_FW_take_9 (by decide) ?_
  refine lv_icmp_ne (tgt := 31) hx hb d_FW_take_11 (by decide) (fun hc => ?_) (fun hc => ?_)
  · replace hE := fw_if_f hc hE
    exact h_j31 _ _ _ _ _ hk_a0 hk_p2 _ _ _ R (lv_sub hl [1, 2, 3, 0] rfl) hE
  · replace hE := fw_if_t hc hE
    refine lv_iload_n hx hb d_FW_take_14 rfl (lv_at hl 2 rfl) ?_
    refine lv_iconst (v := 4) hx hb d_FW_take_15 (by decide) ?_
    refine lv_icmp_ne (tgt := 27) hx hb d_FW_take_16 (by decide) (fun hc => ?_) (fun hc => ?_)
    · replace hE := fw_if_f hc hE
      refine lv_aload_n hx hb d_FW_take_27 rfl (lv_at hl 3 rfl) ?_
      obtain ⟨S12, hF, hE⟩ := fw_bind hE
      refine fw_callV (As := []) (rest := []) C R ft_callV_6_92 yi_Wire_end ys_Wire_end (ct_Wire_end l G kd0 S1 _ _ hk_p2 hF) hk_p2 (by decide) rfl rfl hl.1 rfl (lv_room (Nat.le_of_ble_eq_true rfl)) ⟨Nat.le_of_ble_eq_true rfl, Nat.le_of_ble_eq_true rfl⟩ ⟨Nat.le_of_ble_eq_true rfl, Nat.le_of_ble_eq_true rfl⟩ d_FW_take_28 (fun H locs kd13 hxkd13 hP R => ?_)
      rw [hP] at R; clear hP hxkd13
      exact h_j31 _ _ _ _ _ hk_a0 hk_p2 _ _ _ R (lv_sub hl [1, 2, 3, 0] rfl) hE
    · replace hE := fw_if_t hc hE
      refine lv_aload_n hx hb d_FW_take_19 rfl (lv_at hl 3 rfl) ?_
      refine lv_iconst (v := 0) hx hb d_FW_take_20 (by decide) ?_
      refine fw_puti C R ft_field_6_184 rfl hk_p2 d_FW_take_21 (fun H locs R => ?_)
      obtain ⟨S14, eS14, hE⟩ := fw_let_ex hE
      rw [← eS14] at R
      clear eS14
      refine lv_goto (tgt := 31) hx hb d_FW_take_24 (by decide) ?_
      exact h_j31 _ _ _ _ _ hk_a0 hk_p2 _ _ _ R (lv_sub hl [1, 2, 3, 0] rfl) hE
