set_option maxHeartbeats 4000000 in
set_option maxRecDepth 100000 in
theorem ct_FW_send (l : Launch) (G : fw_G) (kd0 : Nat → Option Nat) (S0 : fw_S) (a0 : Nat) (p1 : Option Nat) (p2 : Nat) (r0 : Int32) (S' : fw_S) (hk_a0 : kd0 a0 = some 6) (hk_p1 : ∀ b, p1 = some b → kd0 b = some 0) (hk_p2 : kd0 p2 = some 5) (hE : F_FW_send a0 p1 p2 S0 = some (r0, S')) : fw_M l G y_FW_send prog_1_method_22_code 4 (some .boolean) 2 44 0 0 kd0 S0 ([.ref a0, va_rf p1, .ref p2] : List Value) (some (.int r0)) S' (fun k => k = kd0) := by
  refine fw_start (by decide) (Nat.le_of_ble_eq_true rfl) ?_
  intro p e s m below meth c ls C hnm R hl
  clear hnm
  have hx := C.1
  have hb := C.2.1
  have hl : lv_has ls 4 [(0, .ref a0), (1, va_rf p1), (2, .ref p2)] := hl
  unfold F_FW_send at hE
  cases p1 with
  | none =>
    replace hE := fw_om_none rfl hE
    have hl : lv_has ls 4 [(0, .ref a0), (1, .null), (2, .ref p2)] := hl
    refine lv_aload_n hx hb d_FW_send_0 rfl (lv_at hl 2 rfl) ?_
    refine lv_aload_nN hx hb d_FW_send_1 rfl (lv_at hl 1 rfl) ?_
    obtain ⟨x3, S2, hF, hE⟩ := fw_b2_ex hE
    refine fw_callV (As := [va_rf none]) (rest := []) C R ft_callV_6_187 yi_Wire_send ys_Wire_send (ct_Wire_send l G kd0 S0 _ _ _ _ hk_p2 (fun _ h => by cases h) hF) hk_p2 (by decide) rfl rfl hl.1 rfl (lv_room (Nat.le_of_ble_eq_true rfl)) ⟨Nat.le_of_ble_eq_true rfl, Nat.le_of_ble_eq_true rfl⟩ ⟨Nat.le_of_ble_eq_true rfl, Nat.le_of_ble_eq_true rfl⟩ d_FW_send_2 (fun H locs kd4 hxkd4 hP R => ?_)
    rw [hP] at R; clear hP hxkd4
    refine lv_istore_n (lv' := [(3, .int x3), (0, .ref a0), (1, .null), (2, .ref p2)]) hx hb d_FW_send_5 rfl hl (by decide) rfl (fun ls hl => ?_)
    refine lv_iload_n hx hb d_FW_send_6 rfl (lv_at hl 0 rfl) ?_
    refine lv_if_ne (tgt := 20) hx hb d_FW_send_7 (by decide) (fun hc => ?_) (fun hc => ?_)
    · replace hE := fw_if_f hc hE
      refine lv_iload_n hx hb d_FW_send_20 rfl (lv_at hl 0 rfl) ?_
      obtain ⟨hz5, hE⟩ := fw_ifp hE
      cases hE
      exact fw_zret C hz5 fw_X.rf rfl R d_FW_send_21
    · replace hE := fw_if_t hc hE
      refine lv_aload_n hx hb d_FW_send_10 rfl (lv_at hl 1 rfl) ?_
      refine lv_dup hx hb d_FW_send_11 rfl ?_
      refine fw_get (v := .int (fw_g S2 a0 12)) C R ft_field_6_64 hk_a0 rfl d_FW_send_12 ?_
      refine lv_iconst (v := 1) hx hb d_FW_send_15 (by decide) ?_
      refine lv_iadd hx hb d_FW_send_16 ?_
      refine fw_puti C R ft_field_6_64 rfl hk_a0 d_FW_send_17 (fun H locs R => ?_)
      obtain ⟨S6, eS6, hE⟩ := fw_let_ex hE
      rw [← eS6] at R
      clear eS6
      refine lv_iload_n hx hb d_FW_send_20 rfl (lv_at hl 0 rfl) ?_
      obtain ⟨hz7, hE⟩ := fw_ifp hE
      cases hE
      exact fw_zret C hz7 fw_X.rf rfl R d_FW_send_21
  | some b1 =>
    replace hE := fw_om_some rfl hE
    have hl : lv_has ls 4 [(0, .ref a0), (1, .ref b1), (2, .ref p2)] := hl
    have hk_b1 := hk_p1 b1 rfl
    refine lv_aload_n hx hb d_FW_send_0 rfl (lv_at hl 2 rfl) ?_
    refine lv_aload_n hx hb d_FW_send_1 rfl (lv_at hl 1 rfl) ?_
    obtain ⟨x9, S8, hF, hE⟩ := fw_b2_ex hE
    refine fw_callV (As := [va_rf (some b1)]) (rest := []) C R ft_callV_6_187 yi_Wire_send ys_Wire_send (ct_Wire_send l G kd0 S0 _ _ _ _ hk_p2 (fun _ h => by cases h; exact hk_b1) hF) hk_p2 (by decide) rfl rfl hl.1 rfl (lv_room (Nat.le_of_ble_eq_true rfl)) ⟨Nat.le_of_ble_eq_true rfl, Nat.le_of_ble_eq_true rfl⟩ ⟨Nat.le_of_ble_eq_true rfl, Nat.le_of_ble_eq_true rfl⟩ d_FW_send_2 (fun H locs kd10 hxkd10 hP R => ?_)
    rw [hP] at R; clear hP hxkd10
    refine lv_istore_n (lv' := [(3, .int x9), (0, .ref a0), (1, .ref b1), (2, .ref p2)]) hx hb d_FW_send_5 rfl hl (by decide) rfl (fun ls hl => ?_)
    refine lv_iload_n hx hb d_FW_send_6 rfl (lv_at hl 0 rfl) ?_
    refine lv_if_ne (tgt := 20) hx hb d_FW_send_7 (by decide) (fun hc => ?_) (fun hc => ?_)
    · replace hE := fw_if_f hc hE
      refine lv_iload_n hx hb d_FW_send_20 rfl (lv_at hl 0 rfl) ?_
      obtain ⟨hz11, hE⟩ := fw_ifp hE
      cases hE
      exact fw_zret C hz11 fw_X.rf rfl R d_FW_send_21
    · replace hE := fw_if_t hc hE
      refine lv_aload_n hx hb d_FW_send_10 rfl (lv_at hl 1 rfl) ?_
      refine lv_dup hx hb d_FW_send_11 rfl ?_
      refine fw_get (v := .int (fw_g S8 a0 12)) C R ft_field_6_64 hk_a0 rfl d_FW_send_12 ?_
      refine lv_iconst (v := 1) hx hb d_FW_send_15 (by decide) ?_
      refine lv_iadd hx hb d_FW_send_16 ?_
      refine fw_puti C R ft_field_6_64 rfl hk_a0 d_FW_send_17 (fun H locs R => ?_)
      obtain ⟨S12, eS12, hE⟩ := fw_let_ex hE
      rw [← eS12] at R
      clear eS12
      refine lv_iload_n hx hb d_FW_send_20 rfl (lv_at hl 0 rfl) ?_
      obtain ⟨hz13, hE⟩ := fw_ifp hE
      cases hE
      exact fw_zret C hz13 fw_X.rf rfl R d_FW_send_21
set_option maxHeartbeats 4000000 in
set_option maxRecDepth 100000 in
theorem ct_FW_sendFirst (l : Launch) (G : fw_G) (kd0 : Nat → Option Nat) (S0 : fw_S) (a0 : Nat) (p1 : Nat) (p2 : Nat) (r0 : Int32) (S' : fw_S) (hk_a0 : kd0 a0 = some 6) (hk_p1 : kd0 p1 = some 3) (hk_p2 : kd0 p2 = some 5) (hE : F_FW_sendFirst a0 p1 p2 S0 = some (r0, S')) : fw_M l G y_FW_sendFirst prog_1_method_23_code 3 (some .boolean) 3 67 0 0 kd0 S0 ([.ref a0, .ref p1, .ref p2] : List Value) (some (.int r0)) S' (fun k => k = kd0) := by
  refine fw_start (by decide) (Nat.le_of_ble_eq_true rfl) ?_
  intro p e s m below meth c ls C hnm R hl
  clear hnm
  have hx := C.1
  have hb := C.2.1
  have hl : lv_has ls 3 [(0, .ref a0), (1, .ref p1), (2, .ref p2)] := hl
  unfold F_FW_sendFirst at hE
  refine lv_aload_n hx hb d_FW_sendFirst_0 rfl (lv_at hl 1 rfl) ?_
  refine lv_aload_n hx hb d_FW_sendFirst_1 rfl (lv_at hl 0 rfl) ?_
  refine fw_get (v := .int (fw_g S0 a0 10)) C R ft_field_6_58 hk_a0 rfl d_FW_sendFirst_2 ?_
  refine fw_puti C R ft_field_6_191 rfl hk_p1 d_FW_sendFirst_5 (fun H locs R => ?_)
  obtain ⟨S1, eS1, hE⟩ := fw_let_ex hE
  rw [← eS1] at R
  clear eS1
  refine lv_aload_n hx hb d_FW_sendFirst_8 rfl (lv_at hl 1 rfl) ?_
  refine lv_iconst (v := 0) hx hb d_FW_sendFirst_9 (by decide) ?_
  refine fw_puti C R ft_field_6_160 rfl hk_p1 d_FW_sendFirst_10 (fun H locs R => ?_)
  obtain ⟨S2, eS2, hE⟩ := fw_let_ex hE
  rw [← eS2] at R
  clear eS2
  refine lv_aload_n hx hb d_FW_sendFirst_13 rfl (lv_at hl 0 rfl) ?_
  refine lv_aload_n hx hb d_FW_sendFirst_14 rfl (lv_at hl 1 rfl) ?_
  refine fw_getr C R ft_field_6_194 hk_p1 rfl rfl d_FW_sendFirst_15 (fun hq => ?_) (fun b3 hq hk_b3 => ?_)
  · replace hE := fw_om_none hq hE
    refine lv_aload_n hx hb d_FW_sendFirst_18 rfl (lv_at hl 2 rfl) ?_
    obtain ⟨x5, S4, hF, hE⟩ := fw_b2_ex hE
    refine fw_callV (As := [va_rf none, .ref p2]) (rest := []) C R ft_callV_6_198 yi_FW_send ys_FW_send (ct_FW_send l G kd0 S2 _ _ _ _ _ hk_a0 (fun _ h => by cases h) hk_p2 hF) hk_a0 (by decide) rfl rfl hl.1 rfl (lv_room (Nat.le_of_ble_eq_true rfl)) ⟨Nat.le_of_ble_eq_true rfl, Nat.le_of_ble_eq_true rfl⟩ ⟨Nat.le_of_ble_eq_true rfl, Nat.le_of_ble_eq_true rfl⟩ d_FW_sendFirst_19 (fun H locs kd6 hxkd6 hP R => ?_)
    rw [hP] at R; clear hP hxkd6
    obtain ⟨hz7, hE⟩ := fw_ifp hE
    cases hE
    exact fw_zret C hz7 fw_X.rf rfl R d_FW_sendFirst_22
  · replace hE := fw_om_some hq hE
    refine lv_aload_n hx hb d_FW_sendFirst_18 rfl (lv_at hl 2 rfl) ?_
    obtain ⟨x9, S8, hF, hE⟩ := fw_b2_ex hE
    refine fw_callV (As := [va_rf (some b3), .ref p2]) (rest := []) C R ft_callV_6_198 yi_FW_send ys_FW_send (ct_FW_send l G kd0 S2 _ _ _ _ _ hk_a0 (fun _ h => by cases h; exact hk_b3) hk_p2 hF) hk_a0 (by decide) rfl rfl hl.1 rfl (lv_room (Nat.le_of_ble_eq_true rfl)) ⟨Nat.le_of_ble_eq_true rfl, Nat.le_of_ble_eq_true rfl⟩ ⟨Nat.le_of_ble_eq_true rfl, Nat.le_of_ble_eq_true rfl⟩ d_FW_sendFirst_19 (fun H locs kd10 hxkd10 hP R => ?_)
    rw [hP] at R; clear hP hxkd10
    obtain ⟨hz11, hE⟩ := fw_ifp hE
    cases hE
    exact fw_zret C hz11 fw_X.rf rfl R d_FW_sendFirst_22
set_option maxHeartbeats 4000000 in
set_option maxRecDepth 100000 in
theorem ct_FW_up (l : Launch) (G : fw_G) (kd0 : Nat → Option Nat) (S0 : fw_S) (a0 : Nat) (p1 : Int32) (r0 : Int32) (S' : fw_S) (hk_a0 : kd0 a0 = some 6) (hE : F_FW_up a0 p1 S0 = some (r0, S')) : fw_M l G y_FW_up prog_1_method_2_code 6 (some .int) 4 89 0 0 kd0 S0 ([.ref a0, .int p1] : List Value) (some (.int r0)) S' (fun k => k = kd0) := by
  refine fw_start (by decide) (Nat.le_of_ble_eq_true rfl) ?_
  intro p e s m below meth c ls C hnm R hl
  clear hnm
  have hx := C.1
  have hb := C.2.1
  have hl : lv_has ls 6 [(0, .ref a0), (1, .int p1)] := hl
  have h_l32 : ∀ (n : Nat), ∀ v0 : Nat, ∀ v1 : Int32, ∀ v2 : Nat, ∀ v3 : Int32, ∀ v4 : Int32, ∀ S0 : fw_S, kd0 v0 = some 6 → kd0 v2 = some 5 → ∀ (H : Heap) (locs : List Loc) (ls : Array Slot), fw_R G kd0 S0 H locs → lv_has ls 6 [(0, .ref v0), (1, .int v1), (2, .ref v2), (3, .int v3), (4, .int v4)] → F_FW_up_l32 n v0 v1 v2 v3 v4 S0 = some (r0, S') → W p l e { frames := 4, cells := 0, slots := 0, locals := 89 } s m ([.ref a0, .int p1] : List Value).toArray below meth c H locs 0 0 (MQ below (fw_Q G kd0 (some (.int r0)) S' (fun k => k = kd0)) ([.ref a0, .int p1] : List Value).toArray s 0 0 (fw_A G)) (F0 m 32 ls []) := by
    intro n
    induction n with
    | zero =>
      intro v0 v1 v2 v3 v4 S0 hk_v0 hk_v2 H locs ls R hl hE
      rw [F_FW_up_l32] at hE
      cases hE
    | succ n ih =>
      intro v0 v1 v2 v3 v4 S0 hk_v0 hk_v2 H locs ls R hl hE
      rw [F_FW_up_l32] at hE
      refine lv_iload hx hb d_FW_up_32 (lv_at hl 4 rfl) ?_
      refine lv_aload_n hx hb d_FW_up_34 rfl (lv_at hl 0 rfl) ?_
      refine fw_get (v := .int (fw_g S0 v0 2)) C R ft_field_6_21 hk_v0 rfl d_FW_up_35 ?_
      refine lv_icmp_ge (tgt := 90) hx hb d_FW_up_38 (by decide) (fun hc => ?_) (fun hc => ?_)
      · replace hE := fw_if_t hc hE
        refine lv_iload_n hx hb d_FW_up_90 rfl (lv_at hl 3 rfl) ?_
        cases hE
        exact fw_iret C fw_X.rf rfl R d_FW_up_91
      · replace hE := fw_if_f hc hE
        refine lv_aload_n hx hb d_FW_up_41 rfl (lv_at hl 0 rfl) ?_
        refine lv_iload hx hb d_FW_up_42 (lv_at hl 4 rfl) ?_
        obtain ⟨o5, hF, hE⟩ := fw_bind hE
        refine fw_callV (As := [.int v4]) (rest := []) C R ft_callV_6_78 yi_FW_requestAt ys_FW_requestAt (ct_FW_requestAt l G kd0 S0 _ _ _ hk_v0 hF) hk_v0 (by decide) rfl rfl hl.1 rfl (lv_room (Nat.le_of_ble_eq_true rfl)) ⟨Nat.le_of_ble_eq_true rfl, Nat.le_of_ble_eq_true rfl⟩ ⟨Nat.le_of_ble_eq_true rfl, Nat.le_of_ble_eq_true rfl⟩ d_FW_up_44 (fun H locs kd6 hxkd6 hP R => ?_)
        obtain ⟨hP0, hP⟩ := hP
        rw [hP0] at hP R; clear hP0 hxkd6
        cases o5 with
        | none =>
          replace hE := fw_om_none rfl hE
          refine lv_astoreN (lv' := [(5, .null), (0, .ref v0), (1, .int v1), (2, .ref v2), (3, .int v3), (4, .int v4)]) hx hb d_FW_up_47 hl (by decide) rfl (fun ls hl => ?_)
          refine lv_aloadN hx hb d_FW_up_49 (lv_at hl 0 rfl) ?_
          refine lv_ifnullN (tgt := 84) hx hb d_FW_up_51 (by decide) ?_
          refine lv_iinc (v := (v4 + (1 : Int32))) (lv' := [(4, .int (v4 + (1 : Int32))), (5, .null), (0, .ref v0), (1, .int v1), (2, .ref v2), (3, .int v3)]) hx hb d_FW_up_84 hl (k := 5) rfl rfl (by decide) rfl (fun ls hl => ?_)
          refine lv_goto (tgt := 32) hx hb d_FW_up_87 (by decide) ?_
          exact ih _ _ _ _ _ _ hk_v0 hk_v2 _ _ _ R (lv_sub hl [2, 3, 4, 5, 0] rfl) hE
        | some b7 =>
          replace hE := fw_om_some rfl hE
          have hk_b7 := hP _ rfl
          clear hP
          refine lv_astore (lv' := [(5, .ref b7), (0, .ref v0), (1, .int v1), (2, .ref v2), (3, .int v3), (4, .int v4)]) hx hb d_FW_up_47 hl (by decide) rfl (fun ls hl => ?_)
          refine lv_aload hx hb d_FW_up_49 (lv_at hl 0 rfl) ?_
          refine lv_ifnull hx hb d_FW_up_51 ?_
          refine lv_aload hx hb d_FW_up_54 (lv_at hl 0 rfl) ?_
          refine fw_get (v := .int (fw_g S0 b7 0)) C R ft_field_6_82 hk_b7 rfl d_FW_up_56 ?_
          refine lv_iload_n hx hb d_FW_up_59 rfl (lv_at hl 2 rfl) ?_
          refine lv_icmp_ne (tgt := 84) hx hb d_FW_up_60 (by decide) (fun hc => ?_) (fun hc => ?_)
          · replace hE := fw_if_f hc hE
            refine lv_iinc (v := (v4 + (1 : Int32))) (lv' := [(4, .int (v4 + (1 : Int32))), (5, .ref b7), (0, .ref v0), (1, .int v1), (2, .ref v2), (3, .int v3)]) hx hb d_FW_up_84 hl (k := 5) rfl rfl (by decide) rfl (fun ls hl => ?_)
            refine lv_goto (tgt := 32) hx hb d_FW_up_87 (by decide) ?_
            exact ih _ _ _ _ _ _ hk_v0 hk_v2 _ _ _ R (lv_sub hl [2, 3, 4, 5, 0] rfl) hE
          · replace hE := fw_if_t hc hE
            refine lv_aload hx hb d_FW_up_63 (lv_at hl 0 rfl) ?_
            refine fw_get (v := .int (fw_g S0 b7 14)) C R ft_field_6_85 hk_b7 rfl d_FW_up_65 ?_
            refine lv_if_ne (tgt := 84) hx hb d_FW_up_68 (by decide) (fun hc => ?_) (fun hc => ?_)
            · replace hE := fw_if_f hc hE
              refine lv_iinc (v := (v4 + (1 : Int32))) (lv' := [(4, .int (v4 + (1 : Int32))), (5, .ref b7), (0, .ref v0), (1, .int v1), (2, .ref v2), (3, .int v3)]) hx hb d_FW_up_84 hl (k := 5) rfl rfl (by decide) rfl (fun ls hl => ?_)
              refine lv_goto (tgt := 32) hx hb d_FW_up_87 (by decide) ?_
              exact ih _ _ _ _ _ _ hk_v0 hk_v2 _ _ _ R (lv_sub hl [2, 3, 4, 5, 0] rfl) hE
            · replace hE := fw_if_t hc hE
              refine lv_aload_n hx hb d_FW_up_71 rfl (lv_at hl 1 rfl) ?_
              refine lv_aload hx hb d_FW_up_72 (lv_at hl 0 rfl) ?_
              refine lv_aload_n hx hb d_FW_up_74 rfl (lv_at hl 3 rfl) ?_
              obtain ⟨x9, S8, hF, hE⟩ := fw_b2_ex hE
              refine fw_callV (As := [.ref b7, .ref v2]) (rest := []) C R ft_callV_6_88 yi_FW_sendFirst ys_FW_sendFirst (ct_FW_sendFirst l G kd0 S0 _ _ _ _ _ hk_v0 hk_b7 hk_v2 hF) hk_v0 (by decide) rfl rfl hl.1 rfl (lv_room (Nat.le_of_ble_eq_true rfl)) ⟨Nat.le_of_ble_eq_true rfl, Nat.le_of_ble_eq_true rfl⟩ ⟨Nat.le_of_ble_eq_true rfl, Nat.le_of_ble_eq_true rfl⟩ d_FW_up_75 (fun H locs kd10 hxkd10 hP R => ?_)
              rw [hP] at R; clear hP hxkd10
              refine lv_if_eq (tgt := 84) hx hb d_FW_up_78 (by decide) (fun hc => ?_) (fun hc => ?_)
              · replace hE := fw_if_t hc hE
                refine lv_iinc (v := (v4 + (1 : Int32))) (lv' := [(4, .int (v4 + (1 : Int32))), (5, .ref b7), (0, .ref v0), (1, .int v1), (2, .ref v2), (3, .int v3)]) hx hb d_FW_up_84 hl (k := 5) rfl rfl (by decide) rfl (fun ls hl => ?_)
                refine lv_goto (tgt := 32) hx hb d_FW_up_87 (by decide) ?_
                exact ih _ _ _ _ _ _ hk_v0 hk_v2 _ _ _ R (lv_sub hl [2, 3, 4, 5, 0] rfl) hE
              · replace hE := fw_if_f hc hE
                refine lv_iinc (v := (v3 + (1 : Int32))) (lv' := [(3, .int (v3 + (1 : Int32))), (5, .ref b7), (0, .ref v0), (1, .int v1), (2, .ref v2), (4, .int v4)]) hx hb d_FW_up_81 hl (k := 4) rfl rfl (by decide) rfl (fun ls hl => ?_)
                refine lv_iinc (v := (v4 + (1 : Int32))) (lv' := [(4, .int (v4 + (1 : Int32))), (3, .int (v3 + (1 : Int32))), (5, .ref b7), (0, .ref v0), (1, .int v1), (2, .ref v2)]) hx hb d_FW_up_84 hl (k := 5) rfl rfl (by decide) rfl (fun ls hl => ?_)
                refine lv_goto (tgt := 32) hx hb d_FW_up_87 (by decide) ?_
                exact ih _ _ _ _ _ _ hk_v0 hk_v2 _ _ _ R (lv_sub hl [3, 4, 5, 1, 0] rfl) hE
  unfold F_FW_up at hE
  refine lv_aload_n hx hb d_FW_up_0 rfl (lv_at hl 0 rfl) ?_
  refine lv_iload_n hx hb d_FW_up_1 rfl (lv_at hl 1 rfl) ?_
  obtain ⟨o1, hF, hE⟩ := fw_bind hE
  refine fw_callV (As := [.int p1]) (rest := []) C R ft_callV_6_70 yi_FW_houseWire ys_FW_houseWire (ct_FW_houseWire l G kd0 S0 _ _ _ hk_a0 hF) hk_a0 (by decide) rfl rfl hl.1 rfl (lv_room (Nat.le_of_ble_eq_true rfl)) ⟨Nat.le_of_ble_eq_true rfl, Nat.le_of_ble_eq_true rfl⟩ ⟨Nat.le_of_ble_eq_true rfl, Nat.le_of_ble_eq_true rfl⟩ d_FW_up_2 (fun H locs kd2 hxkd2 hP R => ?_)
  obtain ⟨hP0, hP⟩ := hP
  rw [hP0] at hP R; clear hP0 hxkd2
  cases o1 with
  | none =>
    replace hE := fw_om_none rfl hE
    refine lv_astore_nN (lv' := [(2, .null), (0, .ref a0), (1, .int p1)]) hx hb d_FW_up_5 rfl hl (by decide) rfl (fun ls hl => ?_)
    refine lv_aload_nN hx hb d_FW_up_6 rfl (lv_at hl 0 rfl) ?_
    refine lv_ifnonnullN hx hb d_FW_up_7 ?_
    refine lv_iconst (v := -1) hx hb d_FW_up_10 (by decide) ?_
    cases hE
    exact fw_iret C fw_X.rf rfl R d_FW_up_11
  | some b3 =>
    replace hE := fw_om_some rfl hE
    have hk_b3 := hP _ rfl
    clear hP
    refine lv_astore_n (lv' := [(2, .ref b3), (0, .ref a0), (1, .int p1)]) hx hb d_FW_up_5 rfl hl (by decide) rfl (fun ls hl => ?_)
    refine lv_aload_n hx hb d_FW_up_6 rfl (lv_at hl 0 rfl) ?_
    refine lv_ifnonnull (tgt := 12) hx hb d_FW_up_7 (by decide) ?_
    refine lv_aload_n hx hb d_FW_up_12 rfl (lv_at hl 0 rfl) ?_
    refine fw_get (v := .int (fw_g S0 b3 0)) C R ft_field_6_74 hk_b3 rfl d_FW_up_13 ?_
    refine lv_if_eq (tgt := 22) hx hb d_FW_up_16 (by decide) (fun hc => ?_) (fun hc => ?_)
    · replace hE := fw_if_t hc hE
      refine lv_aload_n hx hb d_FW_up_22 rfl (lv_at hl 0 rfl) ?_
      refine lv_iconst (v := 1) hx hb d_FW_up_23 (by decide) ?_
      refine fw_putz C R ft_field_6_74 rfl (by decide) hk_b3 d_FW_up_24 (fun H locs R => ?_)
      obtain ⟨S4, eS4, hE⟩ := fw_let_ex hE
      rw [← eS4] at R
      clear eS4
      refine lv_iconst (v := 0) hx hb d_FW_up_27 (by decide) ?_
      refine lv_istore_n (lv' := [(3, .int (0 : Int32)), (2, .ref b3), (0, .ref a0), (1, .int p1)]) hx hb d_FW_up_28 rfl hl (by decide) rfl (fun ls hl => ?_)
      refine lv_iconst (v := 0) hx hb d_FW_up_29 (by decide) ?_
      refine lv_istore (lv' := [(4, .int (0 : Int32)), (3, .int (0 : Int32)), (2, .ref b3), (0, .ref a0), (1, .int p1)]) hx hb d_FW_up_30 hl (by decide) rfl (fun ls hl => ?_)
      exact h_l32 _ _ _ _ _ _ _ hk_a0 hk_b3 _ _ _ R (lv_sub hl [3, 4, 2, 1, 0] rfl) hE
    · replace hE := fw_if_f hc hE
      refine lv_bipush (v := -2) hx hb d_FW_up_19 (by decide) ?_
      cases hE
      exact fw_iret C fw_X.rf rfl R d_FW_up_21
set_option maxHeartbeats 4000000 in
set_option maxRecDepth 100000 in
theorem ct_FW_down (l : Launch) (G : fw_G) (kd0 : Nat → Option Nat) (S0 : fw_S) (a0 : Nat) (p1 : Int32) (r0 : Int32) (S' : fw_S) (hk_a0 : kd0 a0 = some 6) (hE : F_FW_down a0 p1 S0 = some (r0, S')) : fw_M l G y_FW_down prog_1_method_3_code 3 (some .int) 2 42 0 0 kd0 S0 ([.ref a0, .int p1] : List Value) (some (.int r0)) S' (fun k => k = kd0) := by
  refine fw_start (by decide) (Nat.le_of_ble_eq_true rfl) ?_
  intro p e s m below meth c ls C hnm R hl
  clear hnm
  have hx := C.1
  have hb := C.2.1
  have hl : lv_has ls 3 [(0, .ref a0), (1, .int p1)] := hl
  unfold F_FW_down at hE
  refine lv_aload_n hx hb d_FW_down_0 rfl (lv_at hl 0 rfl) ?_
  refine lv_iload_n hx hb d_FW_down_1 rfl (lv_at hl 1 rfl) ?_
  obtain ⟨o1, hF, hE⟩ := fw_bind hE
  refine fw_callV (As := [.int p1]) (rest := []) C R ft_callV_6_70 yi_FW_houseWire ys_FW_houseWire (ct_FW_houseWire l G kd0 S0 _ _ _ hk_a0 hF) hk_a0 (by decide) rfl rfl hl.1 rfl (lv_room (Nat.le_of_ble_eq_true rfl)) ⟨Nat.le_of_ble_eq_true rfl, Nat.le_of_ble_eq_true rfl⟩ ⟨Nat.le_of_ble_eq_true rfl, Nat.le_of_ble_eq_true rfl⟩ d_FW_down_2 (fun H locs kd2 hxkd2 hP R => ?_)
  obtain ⟨hP0, hP⟩ := hP
  rw [hP0] at hP R; clear hP0 hxkd2
  cases o1 with
  | none =>
    replace hE := fw_om_none rfl hE
    refine lv_astore_nN (lv' := [(2, .null), (0, .ref a0), (1, .int p1)]) hx hb d_FW_down_5 rfl hl (by decide) rfl (fun ls hl => ?_)
    refine lv_aload_nN hx hb d_FW_down_6 rfl (lv_at hl 0 rfl) ?_
    refine lv_ifnonnullN hx hb d_FW_down_7 ?_
    refine lv_iconst (v := -1) hx hb d_FW_down_10 (by decide) ?_
    cases hE
    exact fw_iret C fw_X.rf rfl R d_FW_down_11
  | some b3 =>
    replace hE := fw_om_some rfl hE
    have hk_b3 := hP _ rfl
    clear hP
    refine lv_astore_n (lv' := [(2, .ref b3), (0, .ref a0), (1, .int p1)]) hx hb d_FW_down_5 rfl hl (by decide) rfl (fun ls hl => ?_)
    refine lv_aload_n hx hb d_FW_down_6 rfl (lv_at hl 0 rfl) ?_
    refine lv_ifnonnull (tgt := 12) hx hb d_FW_down_7 (by decide) ?_
    refine lv_aload_n hx hb d_FW_down_12 rfl (lv_at hl 0 rfl) ?_
    refine fw_get (v := .int (fw_g S0 b3 0)) C R ft_field_6_74 hk_b3 rfl d_FW_down_13 ?_
    refine lv_if_ne (tgt := 22) hx hb d_FW_down_16 (by decide) (fun hc => ?_) (fun hc => ?_)
    · replace hE := fw_if_f hc hE
      refine lv_aload_n hx hb d_FW_down_22 rfl (lv_at hl 0 rfl) ?_
      obtain ⟨S4, hF, hE⟩ := fw_bind hE
      refine fw_callV (As := []) (rest := []) C R ft_callV_6_92 yi_Wire_end ys_Wire_end (ct_Wire_end l G kd0 S0 _ _ hk_b3 hF) hk_b3 (by decide) rfl rfl hl.1 rfl (lv_room (Nat.le_of_ble_eq_true rfl)) ⟨Nat.le_of_ble_eq_true rfl, Nat.le_of_ble_eq_true rfl⟩ ⟨Nat.le_of_ble_eq_true rfl, Nat.le_of_ble_eq_true rfl⟩ d_FW_down_23 (fun H locs kd5 hxkd5 hP R => ?_)
      rw [hP] at R; clear hP hxkd5
      refine lv_iconst (v := 1) hx hb d_FW_down_26 (by decide) ?_
      cases hE
      exact fw_iret C fw_X.rf rfl R d_FW_down_27
    · replace hE := fw_if_t hc hE
      refine lv_bipush (v := -2) hx hb d_FW_down_19 (by decide) ?_
      cases hE
      exact fw_iret C fw_X.rf rfl R d_FW_down_21
set_option maxHeartbeats 4000000 in
set_option maxRecDepth 100000 in
theorem ct_FW_setting (l : Launch) (G : fw_G) (kd0 : Nat → Option Nat) (S0 : fw_S) (a0 : Nat) (p1 : Int32) (p2 : Int32) (r0 : Int32) (S' : fw_S) (hk_a0 : kd0 a0 = some 6) (hE : F_FW_setting a0 p1 p2 S0 = some (r0, S')) : fw_M l G y_FW_setting prog_1_method_4_code 4 (some .int) 0 0 0 0 kd0 S0 ([.ref a0, .int p1, .int p2] : List Value) (some (.int r0)) S' (fun k => k = kd0) := by
  refine fw_start (by decide) (Nat.le_of_ble_eq_true rfl) ?_
  intro p e s m below meth c ls C hnm R hl
  clear hnm
  have hx := C.1
  have hb := C.2.1
  have hl : lv_has ls 4 [(0, .ref a0), (1, .int p1), (2, .int p2)] := hl
  have h_j57 : ∀ v0 : Nat, ∀ v1 : Int32, ∀ v2 : Int32, ∀ S0 : fw_S, kd0 v0 = some 6 → ∀ (H : Heap) (locs : List Loc) (ls : Array Slot), fw_R G kd0 S0 H locs → lv_has ls 4 [(0, .ref v0), (1, .int v1), (2, .int v2)] → F_FW_setting_j57 v0 v1 v2 S0 = some (r0, S') → W p l e { frames := 0, cells := 0, slots := 0, locals := 0 } s m ([.ref a0, .int p1, .int p2] : List Value).toArray below meth c H locs 0 0 (MQ below (fw_Q G kd0 (some (.int r0)) S' (fun k => k = kd0)) ([.ref a0, .int p1, .int p2] : List Value).toArray s 0 0 (fw_A G)) (F0 m 57 ls []) := by
    intro v0 v1 v2 S0 hk_v0 H locs ls R hl hE
    unfold F_FW_setting_j57 at hE
    refine lv_iload_n hx hb d_FW_setting_57 rfl (lv_at hl 1 rfl) ?_
    refine lv_iconst (v := 2) hx hb d_FW_setting_58 (by decide) ?_
    refine lv_icmp_ne (tgt := 84) hx hb d_FW_setting_59 (by decide) (fun hc => ?_) (fun hc => ?_)
    · replace hE := fw_if_f hc hE
      refine lv_iconst (v := -1) hx hb d_FW_setting_84 (by decide) ?_
      refine lv_istore_n (lv' := [(3, .int (-1 : Int32)), (0, .ref v0), (1, .int v1), (2, .int v2)]) hx hb d_FW_setting_85 rfl hl (by decide) rfl (fun ls hl => ?_)
      refine lv_iload_n hx hb d_FW_setting_86 rfl (lv_at hl 0 rfl) ?_
      cases hE
      exact fw_iret C fw_X.rf rfl R d_FW_setting_87
    · replace hE := fw_if_t hc hE
      refine lv_iload_n hx hb d_FW_setting_62 rfl (lv_at hl 2 rfl) ?_
      refine lv_if_lt (tgt := 84) hx hb d_FW_setting_63 (by decide) (fun hc => ?_) (fun hc => ?_)
      · replace hE := fw_if_t hc hE
        refine lv_iconst (v := -1) hx hb d_FW_setting_84 (by decide) ?_
        refine lv_istore_n (lv' := [(3, .int (-1 : Int32)), (0, .ref v0), (1, .int v1), (2, .int v2)]) hx hb d_FW_setting_85 rfl hl (by decide) rfl (fun ls hl => ?_)
        refine lv_iload_n hx hb d_FW_setting_86 rfl (lv_at hl 0 rfl) ?_
        cases hE
        exact fw_iret C fw_X.rf rfl R d_FW_setting_87
      · replace hE := fw_if_f hc hE
        refine lv_iload_n hx hb d_FW_setting_66 rfl (lv_at hl 2 rfl) ?_
        refine lv_iconst (v := 5) hx hb d_FW_setting_67 (by decide) ?_
        refine lv_icmp_gt (tgt := 84) hx hb d_FW_setting_68 (by decide) (fun hc => ?_) (fun hc => ?_)
        · replace hE := fw_if_t hc hE
          refine lv_iconst (v := -1) hx hb d_FW_setting_84 (by decide) ?_
          refine lv_istore_n (lv' := [(3, .int (-1 : Int32)), (0, .ref v0), (1, .int v1), (2, .int v2)]) hx hb d_FW_setting_85 rfl hl (by decide) rfl (fun ls hl => ?_)
          refine lv_iload_n hx hb d_FW_setting_86 rfl (lv_at hl 0 rfl) ?_
          cases hE
          exact fw_iret C fw_X.rf rfl R d_FW_setting_87
        · replace hE := fw_if_f hc hE
          refine lv_aload_n hx hb d_FW_setting_71 rfl (lv_at hl 0 rfl) ?_
          refine fw_get (v := .int (fw_g S0 v0 9)) C R ft_field_6_55 hk_v0 rfl d_FW_setting_72 ?_
          refine lv_topi (fun x1 ex1 => ?_)
          replace hE := fw_let_use ex1 hE
          clear ex1
          refine lv_istore_n (lv' := [(3, .int x1), (0, .ref v0), (1, .int v1), (2, .int v2)]) hx hb d_FW_setting_75 rfl hl (by decide) rfl (fun ls hl => ?_)
          refine lv_aload_n hx hb d_FW_setting_76 rfl (lv_at hl 1 rfl) ?_
          refine lv_iload_n hx hb d_FW_setting_77 rfl (lv_at hl 3 rfl) ?_
          refine fw_puti C R ft_field_6_55 rfl hk_v0 d_FW_setting_78 (fun H locs R => ?_)
          obtain ⟨S2, eS2, hE⟩ := fw_let_ex hE
          rw [← eS2] at R
          clear eS2
          refine lv_goto (tgt := 86) hx hb d_FW_setting_81 (by decide) ?_
          refine lv_iload_n hx hb d_FW_setting_86 rfl (lv_at hl 0 rfl) ?_
          cases hE
          exact fw_iret C fw_X.rf rfl R d_FW_setting_87
  have h_j28 : ∀ v0 : Nat, ∀ v1 : Int32, ∀ v2 : Int32, ∀ S0 : fw_S, kd0 v0 = some 6 → ∀ (H : Heap) (locs : List Loc) (ls : Array Slot), fw_R G kd0 S0 H locs → lv_has ls 4 [(0, .ref v0), (1, .int v1), (2, .int v2)] → F_FW_setting_j28 v0 v1 v2 S0 = some (r0, S') → W p l e { frames := 0, cells := 0, slots := 0, locals := 0 } s m ([.ref a0, .int p1, .int p2] : List Value).toArray below meth c H locs 0 0 (MQ below (fw_Q G kd0 (some (.int r0)) S' (fun k => k = kd0)) ([.ref a0, .int p1, .int p2] : List Value).toArray s 0 0 (fw_A G)) (F0 m 28 ls []) := by
    intro v0 v1 v2 S0 hk_v0 H locs ls R hl hE
    unfold F_FW_setting_j28 at hE
    refine lv_iload_n hx hb d_FW_setting_28 rfl (lv_at hl 1 rfl) ?_
    refine lv_iconst (v := 1) hx hb d_FW_setting_29 (by decide) ?_
    refine lv_icmp_ne (tgt := 57) hx hb d_FW_setting_30 (by decide) (fun hc => ?_) (fun hc => ?_)
    · replace hE := fw_if_f hc hE
      exact h_j57 _ _ _ _ hk_v0 _ _ _ R (lv_sub hl [0, 1, 2] rfl) hE
    · replace hE := fw_if_t hc hE
      refine lv_iload_n hx hb d_FW_setting_33 rfl (lv_at hl 2 rfl) ?_
      refine lv_iconst (v := 1) hx hb d_FW_setting_34 (by decide) ?_
      refine lv_icmp_lt (tgt := 57) hx hb d_FW_setting_35 (by decide) (fun hc => ?_) (fun hc => ?_)
      · replace hE := fw_if_t hc hE
        exact h_j57 _ _ _ _ hk_v0 _ _ _ R (lv_sub hl [0, 1, 2] rfl) hE
      · replace hE := fw_if_f hc hE
        refine lv_iload_n hx hb d_FW_setting_38 rfl (lv_at hl 2 rfl) ?_
        refine lv_bipush (v := 100) hx hb d_FW_setting_39 (by decide) ?_
        refine lv_icmp_gt (tgt := 57) hx hb d_FW_setting_41 (by decide) (fun hc => ?_) (fun hc => ?_)
        · replace hE := fw_if_t hc hE
          exact h_j57 _ _ _ _ hk_v0 _ _ _ R (lv_sub hl [0, 1, 2] rfl) hE
        · replace hE := fw_if_f hc hE
          refine lv_aload_n hx hb d_FW_setting_44 rfl (lv_at hl 0 rfl) ?_
          refine fw_get (v := .int (fw_g S0 v0 8)) C R ft_field_6_52 hk_v0 rfl d_FW_setting_45 ?_
          refine lv_topi (fun x3 ex3 => ?_)
          replace hE := fw_let_use ex3 hE
          clear ex3
          refine lv_istore_n (lv' := [(3, .int x3), (0, .ref v0), (1, .int v1), (2, .int v2)]) hx hb d_FW_setting_48 rfl hl (by decide) rfl (fun ls hl => ?_)
          refine lv_aload_n hx hb d_FW_setting_49 rfl (lv_at hl 1 rfl) ?_
          refine lv_iload_n hx hb d_FW_setting_50 rfl (lv_at hl 3 rfl) ?_
          refine fw_puti C R ft_field_6_52 rfl hk_v0 d_FW_setting_51 (fun H locs R => ?_)
          obtain ⟨S4, eS4, hE⟩ := fw_let_ex hE
          rw [← eS4] at R
          clear eS4
          refine lv_goto (tgt := 86) hx hb d_FW_setting_54 (by decide) ?_
          refine lv_iload_n hx hb d_FW_setting_86 rfl (lv_at hl 0 rfl) ?_
          cases hE
          exact fw_iret C fw_X.rf rfl R d_FW_setting_87
  unfold F_FW_setting at hE
  refine lv_iload_n hx hb d_FW_setting_0 rfl (lv_at hl 1 rfl) ?_
  refine lv_if_ne (tgt := 28) hx hb d_FW_setting_1 (by decide) (fun hc => ?_) (fun hc => ?_)
  · replace hE := fw_if_f hc hE
    exact h_j28 _ _ _ _ hk_a0 _ _ _ R (lv_sub hl [0, 1, 2] rfl) hE
  · replace hE := fw_if_t hc hE
    refine lv_iload_n hx hb d_FW_setting_4 rfl (lv_at hl 2 rfl) ?_
    refine lv_iconst (v := 1) hx hb d_FW_setting_5 (by decide) ?_
    refine lv_icmp_lt (tgt := 28) hx hb d_FW_setting_6 (by decide) (fun hc => ?_) (fun hc => ?_)
    · replace hE := fw_if_t hc hE
      exact h_j28 _ _ _ _ hk_a0 _ _ _ R (lv_sub hl [0, 1, 2] rfl) hE
    · replace hE := fw_if_f hc hE
      refine lv_iload_n hx hb d_FW_setting_9 rfl (lv_at hl 2 rfl) ?_
      refine lv_bipush (v := 8) hx hb d_FW_setting_10 (by decide) ?_
      refine lv_icmp_gt (tgt := 28) hx hb d_FW_setting_12 (by decide) (fun hc => ?_) (fun hc => ?_)
      · replace hE := fw_if_t hc hE
        exact h_j28 _ _ _ _ hk_a0 _ _ _ R (lv_sub hl [0, 1, 2] rfl) hE
      · replace hE := fw_if_f hc hE
        refine lv_aload_n hx hb d_FW_setting_15 rfl (lv_at hl 0 rfl) ?_
        refine fw_get (v := .int (fw_g S0 a0 7)) C R ft_field_6_49 hk_a0 rfl d_FW_setting_16 ?_
        refine lv_topi (fun x5 ex5 => ?_)
        replace hE := fw_let_use ex5 hE
        clear ex5
        refine lv_istore_n (lv' := [(3, .int x5), (0, .ref a0), (1, .int p1), (2, .int p2)]) hx hb d_FW_setting_19 rfl hl (by decide) rfl (fun ls hl => ?_)
        refine lv_aload_n hx hb d_FW_setting_20 rfl (lv_at hl 1 rfl) ?_
        refine lv_iload_n hx hb d_FW_setting_21 rfl (lv_at hl 3 rfl) ?_
        refine fw_puti C R ft_field_6_49 rfl hk_a0 d_FW_setting_22 (fun H locs R => ?_)
        obtain ⟨S6, eS6, hE⟩ := fw_let_ex hE
        rw [← eS6] at R
        clear eS6
        refine lv_goto (tgt := 86) hx hb d_FW_setting_25 (by decide) ?_
        refine lv_iload_n hx hb d_FW_setting_86 rfl (lv_at hl 0 rfl) ?_
        cases hE
        exact fw_iret C fw_X.rf rfl R d_FW_setting_87
set_option maxHeartbeats 4000000 in
set_option maxRecDepth 100000 in
theorem ct_FW_isByte (l : Launch) (G : fw_G) (kd0 : Nat → Option Nat) (S0 : fw_S) (p0 : Int32) (r0 : Int32) (hE : F_FW_isByte p0 S0 = some r0) : fw_M l G y_FW_isByte prog_1_method_18_code 1 (some .boolean) 0 0 0 0 kd0 S0 ([.int p0] : List Value) (some (.int r0)) S0 (fun k => k = kd0) := by
  refine fw_start (by decide) (Nat.le_of_ble_eq_true rfl) ?_
  intro p e s m below meth c ls C hnm R hl
  clear hnm
  have hx := C.1
  have hb := C.2.1
  have hl : lv_has ls 1 [(0, .int p0)] := hl
  unfold F_FW_isByte at hE
  refine lv_iload_n hx hb d_FW_isByte_0 rfl (lv_at hl 0 rfl) ?_
  refine lv_if_lt (tgt := 15) hx hb d_FW_isByte_1 (by decide) (fun hc => ?_) (fun hc => ?_)
  · replace hE := fw_if_t hc hE
    refine lv_iconst (v := 0) hx hb d_FW_isByte_15 (by decide) ?_
    cases hE
    exact fw_zret C (by decide) fw_X.rf rfl R d_FW_isByte_16
  · replace hE := fw_if_f hc hE
    refine lv_iload_n hx hb d_FW_isByte_4 rfl (lv_at hl 0 rfl) ?_
    refine lv_sipush (v := 255) hx hb d_FW_isByte_5 (by decide) ?_
    refine lv_icmp_gt (tgt := 15) hx hb d_FW_isByte_8 (by decide) (fun hc => ?_) (fun hc => ?_)
    · replace hE := fw_if_t hc hE
      refine lv_iconst (v := 0) hx hb d_FW_isByte_15 (by decide) ?_
      cases hE
      exact fw_zret C (by decide) fw_X.rf rfl R d_FW_isByte_16
    · replace hE := fw_if_f hc hE
      refine lv_iconst (v := 1) hx hb d_FW_isByte_11 (by decide) ?_
      refine lv_goto (tgt := 16) hx hb d_FW_isByte_12 (by decide) ?_
      cases hE
      exact fw_zret C (by decide) fw_X.rf rfl R d_FW_isByte_16
set_option maxHeartbeats 4000000 in
set_option maxRecDepth 100000 in
theorem ct_FW_bind (l : Launch) (G : fw_G) (kd0 : Nat → Option Nat) (S0 : fw_S) (a0 : Nat) (p1 : Int32) (p2 : Int32) (r0 : Int32) (S' : fw_S) (hk_a0 : kd0 a0 = some 6) (hE : F_FW_bind a0 p1 p2 S0 = some (r0, S')) : fw_M l G y_FW_bind prog_1_method_5_code 3 (some .int) 1 22 0 0 kd0 S0 ([.ref a0, .int p1, .int p2] : List Value) (some (.int r0)) S' (fun k => k = kd0) := by
  refine fw_start (by decide) (Nat.le_of_ble_eq_true rfl) ?_
  intro p e s m below meth c ls C hnm R hl
  clear hnm
  have hx := C.1
  have hb := C.2.1
  have hl : lv_has ls 3 [(0, .ref a0), (1, .int p1), (2, .int p2)] := hl
  unfold F_FW_bind at hE
  refine lv_iload_n hx hb d_FW_bind_0 rfl (lv_at hl 1 rfl) ?_
  obtain ⟨x1, hF, hE⟩ := fw_bind hE
  refine fw_callS (As := [.int p1]) (rest := []) C R ft_callS_6_95 yt_FW_isByte (ct_FW_isByte l G kd0 S0 _ _  hF) rfl hl.1 rfl (lv_room (Nat.le_of_ble_eq_true rfl)) ⟨Nat.le_of_ble_eq_true rfl, Nat.le_of_ble_eq_true rfl⟩ ⟨Nat.le_of_ble_eq_true rfl, Nat.le_of_ble_eq_true rfl⟩ d_FW_bind_1 (fun H locs kd2 hxkd2 hP R => ?_)
  rw [hP] at R; clear hP hxkd2
  refine lv_if_ne (tgt := 9) hx hb d_FW_bind_4 (by decide) (fun hc => ?_) (fun hc => ?_)
  · replace hE := fw_if_f hc hE
    refine lv_aload_n hx hb d_FW_bind_9 rfl (lv_at hl 0 rfl) ?_
    refine fw_getr C R ft_field_6_30 hk_a0 rfl rfl d_FW_bind_10 (fun hq => ?_) (fun b3 hq hk_b3 => ?_)
    · replace hE := fw_om_none hq hE
      refine lv_iload_n hx hb d_FW_bind_13 rfl (lv_at hl 1 rfl) ?_
      refine lv_iload_n hx hb d_FW_bind_14 rfl (lv_at hl 2 rfl) ?_
      cases hE
    · replace hE := fw_om_some hq hE
      refine lv_iload_n hx hb d_FW_bind_13 rfl (lv_at hl 1 rfl) ?_
      refine lv_iload_n hx hb d_FW_bind_14 rfl (lv_at hl 2 rfl) ?_
      obtain ⟨x5, S4, hF, hE⟩ := fw_b2_ex hE
      refine fw_callV (As := [.int p1, .int p2]) (rest := []) C R ft_callV_6_99 yi_Pairs_add ys_Pairs_add (ct_Pairs_add l G kd0 S0 _ _ _ _ _ hk_b3 hF) hk_b3 (by decide) rfl rfl hl.1 rfl (lv_room (Nat.le_of_ble_eq_true rfl)) ⟨Nat.le_of_ble_eq_true rfl, Nat.le_of_ble_eq_true rfl⟩ ⟨Nat.le_of_ble_eq_true rfl, Nat.le_of_ble_eq_true rfl⟩ d_FW_bind_15 (fun H locs kd6 hxkd6 hP R => ?_)
      rw [hP] at R; clear hP hxkd6
      refine lv_if_eq (tgt := 31) hx hb d_FW_bind_18 (by decide) (fun hc => ?_) (fun hc => ?_)
      · replace hE := fw_if_t hc hE
        refine lv_bipush (v := -3) hx hb d_FW_bind_31 (by decide) ?_
        cases hE
        exact fw_iret C fw_X.rf rfl R d_FW_bind_33
      · replace hE := fw_if_f hc hE
        refine lv_aload_n hx hb d_FW_bind_21 rfl (lv_at hl 0 rfl) ?_
        refine fw_getr C R ft_field_6_30 hk_a0 rfl rfl d_FW_bind_22 (fun hq => ?_) (fun b7 hq hk_b7 => ?_)
        · replace hE := fw_om_none hq hE
          cases hE
        · replace hE := fw_om_some hq hE
          refine fw_get (v := .int (fw_g S4 b7 2)) C R ft_field_6_103 hk_b7 rfl d_FW_bind_25 ?_
          refine lv_goto (tgt := 33) hx hb d_FW_bind_28 (by decide) ?_
          cases hE
          exact fw_iret C fw_X.rf rfl R d_FW_bind_33
  · replace hE := fw_if_t hc hE
    refine lv_iconst (v := -1) hx hb d_FW_bind_7 (by decide) ?_
    cases hE
    exact fw_iret C fw_X.rf rfl R d_FW_bind_8
set_option maxHeartbeats 4000000 in
set_option maxRecDepth 100000 in
theorem ct_Request_init (l : Launch) (G : fw_G) (kd0 : Nat → Option Nat) (S0 : fw_S) (a0 : Nat) (p1 : Int32) (p2 : Int32) (p3 : Int32) (p4 : Int32) (p5 : Option Nat) (S' : fw_S) (hk_a0 : kd0 a0 = some 3) (hk_p5 : ∀ b, p5 = some b → kd0 b = some 2) (hE : F_Request_init a0 p1 p2 p3 p4 p5 S0 = some S') : fw_M l G y_Request_init prog_5_method_1_code 7 none 2 43 9 348 kd0 S0 ([.ref a0, .int p1, .int p2, .int p3, .int p4, va_rf p5] : List Value) none S' (fun _ => True) := by
  refine fw_start (by decide) (Nat.le_of_ble_eq_true rfl) ?_
  intro p e s m below meth c ls C hnm R hl
  have hx := C.1
  have hb := C.2.1
  have hl : lv_has ls 7 [(0, .ref a0), (1, .int p1), (2, .int p2), (3, .int p3), (4, .int p4), (5, va_rf p5)] := hl
  have h_l123 : ∀ (n : Nat), ∀ v0 : Nat, ∀ v5 : Nat, ∀ v6 : Int32, ∀ S0 : fw_S, ∀ kd : Nat → Option Nat, fw_X kd0 kd → kd v0 = some 3 → kd v5 = some 2 → ∀ (H : Heap) (locs : List Loc) (ls : Array Slot), fw_R G kd S0 H locs → lv_has ls 7 [(0, .ref v0), (5, .ref v5), (6, .int v6)] → F_Request_init_l123 n v0 v5 v6 S0 = some S' → W p l e { frames := 2, cells := 9, slots := 348, locals := 43 } s m ([.ref a0, .int p1, .int p2, .int p3, .int p4, va_rf p5] : List Value).toArray below meth c H locs 9 348 (MQ below (fw_Q G kd0 none S' (fun _ => True)) ([.ref a0, .int p1, .int p2, .int p3, .int p4, va_rf p5] : List Value).toArray s 9 348 (fw_A G)) (F0 m 123 ls []) := by
    intro n
    induction n with
    | zero =>
      intro v0 v5 v6 S0 kd hX hk_v0 hk_v5 H locs ls R hl hE
      rw [F_Request_init_l123] at hE
      cases hE
    | succ n ih =>
      intro v0 v5 v6 S0 kd hX hk_v0 hk_v5 H locs ls R hl hE
      rw [F_Request_init_l123] at hE
      refine lv_iload hx hb d_Request_init_123 (lv_at hl 2 rfl) ?_
      refine lv_aload hx hb d_Request_init_125 (lv_at hl 1 rfl) ?_
      refine fw_get (v := .int (fw_g S0 v5 2)) C R ft_field_3_65 hk_v5 rfl d_Request_init_127 ?_
      refine lv_icmp_ge (tgt := 172) hx hb d_Request_init_130 (by decide) (fun hc => ?_) (fun hc => ?_)
      · replace hE := fw_if_t hc hE
        cases hE
        refine W.widen (k := 9) (n := 348) (Nat.le_of_ble_eq_true rfl) (Nat.le_of_ble_eq_true rfl) ?_
        exact fw_vret C hX trivial R d_Request_init_172
      · replace hE := fw_if_f hc hE
        refine lv_aload_n hx hb d_Request_init_133 rfl (lv_at hl 0 rfl) ?_
        refine fw_getr C R ft_field_3_68 hk_v0 rfl rfl d_Request_init_134 (fun hq => ?_) (fun b66 hq hk_b66 => ?_)
        · replace hE := fw_om_none hq hE
          refine lv_aload hx hb d_Request_init_137 (lv_at hl 1 rfl) ?_
          refine lv_iload hx hb d_Request_init_139 (lv_at hl 2 rfl) ?_
          obtain ⟨x67, hF, hE⟩ := fw_bind hE
          refine fw_callV (As := [.int v6]) (rest := [.null]) C R ft_callV_3_81 yi_Pairs_keyAt ys_Pairs_keyAt (ct_Pairs_keyAt l G kd S0 _ _ _ hk_v5 hF) hk_v5 (by decide) rfl rfl hl.1 rfl (lv_room (Nat.le_of_ble_eq_true rfl)) ⟨Nat.le_of_ble_eq_true rfl, Nat.le_of_ble_eq_true rfl⟩ ⟨Nat.le_of_ble_eq_true rfl, Nat.le_of_ble_eq_true rfl⟩ d_Request_init_141 (fun H locs kd68 hxkd68 hP R => ?_)
          rw [hP] at R; clear hP hxkd68
          refine lv_aload hx hb d_Request_init_144 (lv_at hl 1 rfl) ?_
          refine lv_iload hx hb d_Request_init_146 (lv_at hl 2 rfl) ?_
          obtain ⟨x69, hF, hE⟩ := fw_bind hE
          refine fw_callV (As := [.int v6]) (rest := [.int x67, .null]) C R ft_callV_3_85 yi_Pairs_valueAt ys_Pairs_valueAt (ct_Pairs_valueAt l G kd S0 _ _ _ hk_v5 hF) hk_v5 (by decide) rfl rfl hl.1 rfl (lv_room (Nat.le_of_ble_eq_true rfl)) ⟨Nat.le_of_ble_eq_true rfl, Nat.le_of_ble_eq_true rfl⟩ ⟨Nat.le_of_ble_eq_true rfl, Nat.le_of_ble_eq_true rfl⟩ d_Request_init_148 (fun H locs kd70 hxkd70 hP R => ?_)
          rw [hP] at R; clear hP hxkd70
          cases hE
        · replace hE := fw_om_some hq hE
          refine lv_aload hx hb d_Request_init_137 (lv_at hl 1 rfl) ?_
          refine lv_iload hx hb d_Request_init_139 (lv_at hl 2 rfl) ?_
          obtain ⟨x71, hF, hE⟩ := fw_bind hE
          refine fw_callV (As := [.int v6]) (rest := [.ref b66]) C R ft_callV_3_81 yi_Pairs_keyAt ys_Pairs_keyAt (ct_Pairs_keyAt l G kd S0 _ _ _ hk_v5 hF) hk_v5 (by decide) rfl rfl hl.1 rfl (lv_room (Nat.le_of_ble_eq_true rfl)) ⟨Nat.le_of_ble_eq_true rfl, Nat.le_of_ble_eq_true rfl⟩ ⟨Nat.le_of_ble_eq_true rfl, Nat.le_of_ble_eq_true rfl⟩ d_Request_init_141 (fun H locs kd72 hxkd72 hP R => ?_)
          rw [hP] at R; clear hP hxkd72
          refine lv_aload hx hb d_Request_init_144 (lv_at hl 1 rfl) ?_
          refine lv_iload hx hb d_Request_init_146 (lv_at hl 2 rfl) ?_
          obtain ⟨x73, hF, hE⟩ := fw_bind hE
          refine fw_callV (As := [.int v6]) (rest := [.int x71, .ref b66]) C R ft_callV_3_85 yi_Pairs_valueAt ys_Pairs_valueAt (ct_Pairs_valueAt l G kd S0 _ _ _ hk_v5 hF) hk_v5 (by decide) rfl rfl hl.1 rfl (lv_room (Nat.le_of_ble_eq_true rfl)) ⟨Nat.le_of_ble_eq_true rfl, Nat.le_of_ble_eq_true rfl⟩ ⟨Nat.le_of_ble_eq_true rfl, Nat.le_of_ble_eq_true rfl⟩ d_Request_init_148 (fun H locs kd74 hxkd74 hP R => ?_)
          rw [hP] at R; clear hP hxkd74
          obtain ⟨x76, S75, hF, hE⟩ := fw_b2_ex hE
          refine fw_callV (As := [.int x71, .int x73]) (rest := []) C R ft_callV_3_88 yi_Pairs_add ys_Pairs_add (ct_Pairs_add l G kd S0 _ _ _ _ _ hk_b66 hF) hk_b66 (by decide) rfl rfl hl.1 rfl (lv_room (Nat.le_of_ble_eq_true rfl)) ⟨Nat.le_of_ble_eq_true rfl, Nat.le_of_ble_eq_true rfl⟩ ⟨Nat.le_of_ble_eq_true rfl, Nat.le_of_ble_eq_true rfl⟩ d_Request_init_151 (fun H locs kd77 hxkd77 hP R => ?_)
          rw [hP] at R; clear hP hxkd77
          refine lv_pop hx hb d_Request_init_154 rfl ?_
          refine lv_aload_n hx hb d_Request_init_155 rfl (lv_at hl 0 rfl) ?_
          refine lv_aload hx hb d_Request_init_156 (lv_at hl 1 rfl) ?_
          refine lv_iload hx hb d_Request_init_158 (lv_at hl 2 rfl) ?_
          obtain ⟨x78, hF, hE⟩ := fw_bind hE
          refine fw_callV (As := [.int v6]) (rest := [.ref v0]) C R ft_callV_3_81 yi_Pairs_keyAt ys_Pairs_keyAt (ct_Pairs_keyAt l G kd S75 _ _ _ hk_v5 hF) hk_v5 (by decide) rfl rfl hl.1 rfl (lv_room (Nat.le_of_ble_eq_true rfl)) ⟨Nat.le_of_ble_eq_true rfl, Nat.le_of_ble_eq_true rfl⟩ ⟨Nat.le_of_ble_eq_true rfl, Nat.le_of_ble_eq_true rfl⟩ d_Request_init_160 (fun H locs kd79 hxkd79 hP R => ?_)
          rw [hP] at R; clear hP hxkd79
          obtain ⟨S80, hF, hE⟩ := fw_bind hE
          refine fw_callV (As := [.int x78]) (rest := []) C R ft_callV_3_92 yi_Request_addKey ys_Request_addKey (ct_Request_addKey l G kd S75 _ _ _ hk_v0 hF) hk_v0 (by decide) rfl rfl hl.1 rfl (lv_room (Nat.le_of_ble_eq_true rfl)) ⟨Nat.le_of_ble_eq_true rfl, Nat.le_of_ble_eq_true rfl⟩ ⟨Nat.le_of_ble_eq_true rfl, Nat.le_of_ble_eq_true rfl⟩ d_Request_init_163 (fun H locs kd81 hxkd81 hP R => ?_)
          rw [hP] at R; clear hP hxkd81
          refine lv_iinc (v := (v6 + (1 : Int32))) (lv' := [(6, .int (v6 + (1 : Int32))), (0, .ref v0), (5, .ref v5)]) hx hb d_Request_init_166 hl (k := 2) rfl rfl (by decide) rfl (fun ls hl => ?_)
          refine lv_goto (tgt := 123) hx hb d_Request_init_169 (by decide) ?_
          exact ih _ _ _ _ _ hX hk_v0 hk_v5 _ _ _ R (lv_sub hl [1, 2, 0] rfl) hE
  unfold F_Request_init at hE
  cases p5 with
  | none =>
    replace hE := fw_om_none rfl hE
    have hl : lv_has ls 7 [(0, .ref a0), (1, .int p1), (2, .int p2), (3, .int p3), (4, .int p4), (5, .null)] := hl
    refine lv_aload_n hx hb d_Request_init_0 rfl (lv_at hl 0 rfl) ?_
    refine fw_obj C ft_obj_3_3 ob_1 ob_2 hl.1 d_Request_init_1 (Nat.le_of_ble_eq_true rfl) (Nat.le_of_ble_eq_true rfl) ?_
    refine lv_aload_n hx hb d_Request_init_4 rfl (lv_at hl 0 rfl) ?_
    refine lv_iconst (v := 0) hx hb d_Request_init_5 (by decide) ?_
    refine fw_puti C R ft_field_3_9 rfl hk_a0 d_Request_init_6 (fun H locs R => ?_)
    obtain ⟨S2, eS2, hE⟩ := fw_let_ex hE
    rw [← eS2] at R
    clear eS2
    refine lv_aload_n hx hb d_Request_init_9 rfl (lv_at hl 0 rfl) ?_
    refine lv_iconst (v := 0) hx hb d_Request_init_10 (by decide) ?_
    refine fw_puti C R ft_field_3_15 rfl hk_a0 d_Request_init_11 (fun H locs R => ?_)
    obtain ⟨S3, eS3, hE⟩ := fw_let_ex hE
    rw [← eS3] at R
    clear eS3
    refine lv_aload_n hx hb d_Request_init_14 rfl (lv_at hl 0 rfl) ?_
    refine fw_new C R cl_2 nd_2 ft_new_3_18 ni_2 nj_2 (Nat.le_of_ble_eq_true rfl) (Nat.le_of_ble_eq_true rfl) d_Request_init_15 (fun H kd6 hxkd6 hk_new R => ?_)
    refine W.widen (k := 1) (n := 3) (by decide) (by decide) ?_
    obtain ⟨b5, eb5, hE⟩ := fw_let_ex hE
    obtain ⟨S4, eS4, hE⟩ := fw_let_ex hE
    rw [← eS4] at R
    rw [← eb5] at hk_new ⊢
    have hk_b5 := hk_new
    have hXkd6 := fw_X.tr fw_X.rf hxkd6
    have hk_a0 := hxkd6 _ _ hk_a0
    clear eS4 eb5 hk_new
    refine lv_dup hx hb d_Request_init_18 rfl ?_
    refine lv_bipush (v := 60) hx hb d_Request_init_19 (by decide) ?_
    obtain ⟨S7, hF, hE⟩ := fw_bind hE
    refine fw_callI (As := [.int (60 : Int32)]) (rest := [.ref b5, .ref a0]) C R ft_callI_3_20 yi_Pairs_init rfl (ct_Pairs_init l G kd6 S4 _ _ _ hk_b5 hF) rfl hl.1 rfl (lv_room (Nat.le_of_ble_eq_true rfl)) ⟨Nat.le_of_ble_eq_true rfl, Nat.le_of_ble_eq_true rfl⟩ ⟨Nat.le_of_ble_eq_true rfl, Nat.le_of_ble_eq_true rfl⟩ d_Request_init_21 (fun H locs kd8 hxkd8 hP R => ?_)
    refine W.widen (k := 3) (n := 131) (by decide) (by decide) ?_
    have hXkd8 := fw_X.tr hXkd6 hxkd8
    have hk_a0 := hxkd8 _ _ hk_a0
    have hk_b5 := hxkd8 _ _ hk_b5
    refine fw_putFr C hnm R ft_field_3_23 rfl ft_nonest_3_23 rfl rfl (by decide) hk_b5 hk_a0 d_Request_init_24 (fun H locs R => ?_)
    obtain ⟨S9, eS9, hE⟩ := fw_let_ex hE
    rw [← eS9] at R
    clear eS9
    refine lv_aload_n hx hb d_Request_init_27 rfl (lv_at hl 0 rfl) ?_
    refine lv_iconst (v := 0) hx hb d_Request_init_28 (by decide) ?_
    refine fw_puti C R ft_field_3_27 rfl hk_a0 d_Request_init_29 (fun H locs R => ?_)
    obtain ⟨S10, eS10, hE⟩ := fw_let_ex hE
    rw [← eS10] at R
    clear eS10
    refine lv_aload_n hx hb d_Request_init_32 rfl (lv_at hl 0 rfl) ?_
    refine fw_new C R cl_0 nd_0 ft_new_3_30 ni_0 nj_0 (Nat.le_of_ble_eq_true rfl) (Nat.le_of_ble_eq_true rfl) d_Request_init_33 (fun H kd13 hxkd13 hk_new R => ?_)
    refine W.widen (k := 4) (n := 135) (by decide) (by decide) ?_
    obtain ⟨b12, eb12, hE⟩ := fw_let_ex hE
    obtain ⟨S11, eS11, hE⟩ := fw_let_ex hE
    rw [← eS11] at R
    rw [← eb12] at hk_new ⊢
    have hk_b12 := hk_new
    have hXkd13 := fw_X.tr hXkd8 hxkd13
    have hk_a0 := hxkd13 _ _ hk_a0
    have hk_b5 := hxkd13 _ _ hk_b5
    clear eS11 eb12 hk_new
    refine lv_dup hx hb d_Request_init_36 rfl ?_
    obtain ⟨S14, hF, hE⟩ := fw_bind hE
    refine fw_callI (As := []) (rest := [.ref b12, .ref a0]) C R ft_callI_3_32 yi_Frame_init rfl (ct_Frame_init l G kd13 S11 _ _ hk_b12 hF) rfl hl.1 rfl (lv_room (Nat.le_of_ble_eq_true rfl)) ⟨Nat.le_of_ble_eq_true rfl, Nat.le_of_ble_eq_true rfl⟩ ⟨Nat.le_of_ble_eq_true rfl, Nat.le_of_ble_eq_true rfl⟩ d_Request_init_37 (fun H locs kd15 hxkd15 hP R => ?_)
    refine W.widen (k := 5) (n := 153) (by decide) (by decide) ?_
    have hXkd15 := fw_X.tr hXkd13 hxkd15
    have hk_a0 := hxkd15 _ _ hk_a0
    have hk_b5 := hxkd15 _ _ hk_b5
    have hk_b12 := hxkd15 _ _ hk_b12
    refine fw_putFr C hnm R ft_field_3_33 rfl ft_nonest_3_33 rfl rfl (by decide) hk_b12 hk_a0 d_Request_init_40 (fun H locs R => ?_)
    obtain ⟨S16, eS16, hE⟩ := fw_let_ex hE
    rw [← eS16] at R
    clear eS16
    refine lv_aload_n hx hb d_Request_init_43 rfl (lv_at hl 0 rfl) ?_
    refine lv_iconst (v := -1) hx hb d_Request_init_44 (by decide) ?_
    refine fw_puti C R ft_field_3_37 rfl hk_a0 d_Request_init_45 (fun H locs R => ?_)
    obtain ⟨S17, eS17, hE⟩ := fw_let_ex hE
    rw [← eS17] at R
    clear eS17
    refine lv_aload_n hx hb d_Request_init_48 rfl (lv_at hl 0 rfl) ?_
    refine lv_iconst (v := 0) hx hb d_Request_init_49 (by decide) ?_
    refine fw_puti C R ft_field_3_40 rfl hk_a0 d_Request_init_50 (fun H locs R => ?_)
    obtain ⟨S18, eS18, hE⟩ := fw_let_ex hE
    rw [← eS18] at R
    clear eS18
    refine lv_aload_n hx hb d_Request_init_53 rfl (lv_at hl 0 rfl) ?_
    refine lv_iconst (v := 0) hx hb d_Request_init_54 (by decide) ?_
    refine fw_puti C R ft_field_3_43 rfl hk_a0 d_Request_init_55 (fun H locs R => ?_)
    obtain ⟨S19, eS19, hE⟩ := fw_let_ex hE
    rw [← eS19] at R
    clear eS19
    refine lv_aload_n hx hb d_Request_init_58 rfl (lv_at hl 0 rfl) ?_
    refine lv_iconst (v := 0) hx hb d_Request_init_59 (by decide) ?_
    refine fw_puti C R ft_field_3_46 rfl hk_a0 d_Request_init_60 (fun H locs R => ?_)
    obtain ⟨S20, eS20, hE⟩ := fw_let_ex hE
    rw [← eS20] at R
    clear eS20
    refine lv_aload_n hx hb d_Request_init_63 rfl (lv_at hl 0 rfl) ?_
    refine lv_iconst (v := 0) hx hb d_Request_init_64 (by decide) ?_
    refine fw_puti C R ft_field_3_49 rfl hk_a0 d_Request_init_65 (fun H locs R => ?_)
    obtain ⟨S21, eS21, hE⟩ := fw_let_ex hE
    rw [← eS21] at R
    clear eS21
    refine lv_aload_n hx hb d_Request_init_68 rfl (lv_at hl 0 rfl) ?_
    refine lv_iload_n hx hb d_Request_init_69 rfl (lv_at hl 1 rfl) ?_
    refine fw_putFi C hnm R ft_field_3_52 rfl ft_nonest_3_52 rfl hk_a0 d_Request_init_70 (fun H locs R => ?_)
    obtain ⟨S22, eS22, hE⟩ := fw_let_ex hE
    rw [← eS22] at R
    clear eS22
    refine lv_aload_n hx hb d_Request_init_73 rfl (lv_at hl 0 rfl) ?_
    refine lv_iload_n hx hb d_Request_init_74 rfl (lv_at hl 2 rfl) ?_
    refine fw_putFi C hnm R ft_field_3_55 rfl ft_nonest_3_55 rfl hk_a0 d_Request_init_75 (fun H locs R => ?_)
    obtain ⟨S23, eS23, hE⟩ := fw_let_ex hE
    rw [← eS23] at R
    clear eS23
    refine lv_aload_n hx hb d_Request_init_78 rfl (lv_at hl 0 rfl) ?_
    refine lv_iload_n hx hb d_Request_init_79 rfl (lv_at hl 3 rfl) ?_
    obtain ⟨hz24, hE⟩ := fw_ifp hE
    refine fw_putFz C hnm R ft_field_3_58 rfl ft_nonest_3_58 rfl hz24 hk_a0 d_Request_init_80 (fun H locs R => ?_)
    obtain ⟨S25, eS25, hE⟩ := fw_let_ex hE
    rw [← eS25] at R
    clear eS25
    refine lv_aload_n hx hb d_Request_init_83 rfl (lv_at hl 0 rfl) ?_
    refine lv_iload hx hb d_Request_init_84 (lv_at hl 4 rfl) ?_
    refine fw_putFi C hnm R ft_field_3_62 rfl ft_nonest_3_62 rfl hk_a0 d_Request_init_86 (fun H locs R => ?_)
    obtain ⟨S26, eS26, hE⟩ := fw_let_ex hE
    rw [← eS26] at R
    clear eS26
    refine lv_aload_n hx hb d_Request_init_89 rfl (lv_at hl 0 rfl) ?_
    refine fw_new C R cl_2 nd_2 ft_new_3_18 ni_2 nj_2 (Nat.le_of_ble_eq_true rfl) (Nat.le_of_ble_eq_true rfl) d_Request_init_90 (fun H kd29 hxkd29 hk_new R => ?_)
    refine W.widen (k := 6) (n := 156) (by decide) (by decide) ?_
    obtain ⟨b28, eb28, hE⟩ := fw_let_ex hE
    obtain ⟨S27, eS27, hE⟩ := fw_let_ex hE
    rw [← eS27] at R
    rw [← eb28] at hk_new ⊢
    have hk_b28 := hk_new
    have hXkd29 := fw_X.tr hXkd15 hxkd29
    have hk_a0 := hxkd29 _ _ hk_a0
    have hk_b5 := hxkd29 _ _ hk_b5
    have hk_b12 := hxkd29 _ _ hk_b12
    clear eS27 eb28 hk_new
    refine lv_dup hx hb d_Request_init_93 rfl ?_
    refine lv_aloadN hx hb d_Request_init_94 (lv_at hl 5 rfl) ?_
    cases hE
  | some b1 =>
    replace hE := fw_om_some rfl hE
    have hl : lv_has ls 7 [(0, .ref a0), (1, .int p1), (2, .int p2), (3, .int p3), (4, .int p4), (5, .ref b1)] := hl
    have hk_b1 := hk_p5 b1 rfl
    refine lv_aload_n hx hb d_Request_init_0 rfl (lv_at hl 0 rfl) ?_
    refine fw_obj C ft_obj_3_3 ob_1 ob_2 hl.1 d_Request_init_1 (Nat.le_of_ble_eq_true rfl) (Nat.le_of_ble_eq_true rfl) ?_
    refine lv_aload_n hx hb d_Request_init_4 rfl (lv_at hl 0 rfl) ?_
    refine lv_iconst (v := 0) hx hb d_Request_init_5 (by decide) ?_
    refine fw_puti C R ft_field_3_9 rfl hk_a0 d_Request_init_6 (fun H locs R => ?_)
    obtain ⟨S30, eS30, hE⟩ := fw_let_ex hE
    rw [← eS30] at R
    clear eS30
    refine lv_aload_n hx hb d_Request_init_9 rfl (lv_at hl 0 rfl) ?_
    refine lv_iconst (v := 0) hx hb d_Request_init_10 (by decide) ?_
    refine fw_puti C R ft_field_3_15 rfl hk_a0 d_Request_init_11 (fun H locs R => ?_)
    obtain ⟨S31, eS31, hE⟩ := fw_let_ex hE
    rw [← eS31] at R
    clear eS31
    refine lv_aload_n hx hb d_Request_init_14 rfl (lv_at hl 0 rfl) ?_
    refine fw_new C R cl_2 nd_2 ft_new_3_18 ni_2 nj_2 (Nat.le_of_ble_eq_true rfl) (Nat.le_of_ble_eq_true rfl) d_Request_init_15 (fun H kd34 hxkd34 hk_new R => ?_)
    refine W.widen (k := 1) (n := 3) (by decide) (by decide) ?_
    obtain ⟨b33, eb33, hE⟩ := fw_let_ex hE
    obtain ⟨S32, eS32, hE⟩ := fw_let_ex hE
    rw [← eS32] at R
    rw [← eb33] at hk_new ⊢
    have hk_b33 := hk_new
    have hXkd34 := fw_X.tr fw_X.rf hxkd34
    have hk_a0 := hxkd34 _ _ hk_a0
    clear eS32 eb33 hk_new
    refine lv_dup hx hb d_Request_init_18 rfl ?_
    refine lv_bipush (v := 60) hx hb d_Request_init_19 (by decide) ?_
    obtain ⟨S35, hF, hE⟩ := fw_bind hE
    refine fw_callI (As := [.int (60 : Int32)]) (rest := [.ref b33, .ref a0]) C R ft_callI_3_20 yi_Pairs_init rfl (ct_Pairs_init l G kd34 S32 _ _ _ hk_b33 hF) rfl hl.1 rfl (lv_room (Nat.le_of_ble_eq_true rfl)) ⟨Nat.le_of_ble_eq_true rfl, Nat.le_of_ble_eq_true rfl⟩ ⟨Nat.le_of_ble_eq_true rfl, Nat.le_of_ble_eq_true rfl⟩ d_Request_init_21 (fun H locs kd36 hxkd36 hP R => ?_)
    refine W.widen (k := 3) (n := 131) (by decide) (by decide) ?_
    have hXkd36 := fw_X.tr hXkd34 hxkd36
    have hk_a0 := hxkd36 _ _ hk_a0
    have hk_b33 := hxkd36 _ _ hk_b33
    refine fw_putFr C hnm R ft_field_3_23 rfl ft_nonest_3_23 rfl rfl (by decide) hk_b33 hk_a0 d_Request_init_24 (fun H locs R => ?_)
    obtain ⟨S37, eS37, hE⟩ := fw_let_ex hE
    rw [← eS37] at R
    clear eS37
    refine lv_aload_n hx hb d_Request_init_27 rfl (lv_at hl 0 rfl) ?_
    refine lv_iconst (v := 0) hx hb d_Request_init_28 (by decide) ?_
    refine fw_puti C R ft_field_3_27 rfl hk_a0 d_Request_init_29 (fun H locs R => ?_)
    obtain ⟨S38, eS38, hE⟩ := fw_let_ex hE
    rw [← eS38] at R
    clear eS38
    refine lv_aload_n hx hb d_Request_init_32 rfl (lv_at hl 0 rfl) ?_
    refine fw_new C R cl_0 nd_0 ft_new_3_30 ni_0 nj_0 (Nat.le_of_ble_eq_true rfl) (Nat.le_of_ble_eq_true rfl) d_Request_init_33 (fun H kd41 hxkd41 hk_new R => ?_)
    refine W.widen (k := 4) (n := 135) (by decide) (by decide) ?_
    obtain ⟨b40, eb40, hE⟩ := fw_let_ex hE
    obtain ⟨S39, eS39, hE⟩ := fw_let_ex hE
    rw [← eS39] at R
    rw [← eb40] at hk_new ⊢
    have hk_b40 := hk_new
    have hXkd41 := fw_X.tr hXkd36 hxkd41
    have hk_a0 := hxkd41 _ _ hk_a0
    have hk_b33 := hxkd41 _ _ hk_b33
    clear eS39 eb40 hk_new
    refine lv_dup hx hb d_Request_init_36 rfl ?_
    obtain ⟨S42, hF, hE⟩ := fw_bind hE
    refine fw_callI (As := []) (rest := [.ref b40, .ref a0]) C R ft_callI_3_32 yi_Frame_init rfl (ct_Frame_init l G kd41 S39 _ _ hk_b40 hF) rfl hl.1 rfl (lv_room (Nat.le_of_ble_eq_true rfl)) ⟨Nat.le_of_ble_eq_true rfl, Nat.le_of_ble_eq_true rfl⟩ ⟨Nat.le_of_ble_eq_true rfl, Nat.le_of_ble_eq_true rfl⟩ d_Request_init_37 (fun H locs kd43 hxkd43 hP R => ?_)
    refine W.widen (k := 5) (n := 153) (by decide) (by decide) ?_
    have hXkd43 := fw_X.tr hXkd41 hxkd43
    have hk_a0 := hxkd43 _ _ hk_a0
    have hk_b33 := hxkd43 _ _ hk_b33
    have hk_b40 := hxkd43 _ _ hk_b40
    refine fw_putFr C hnm R ft_field_3_33 rfl ft_nonest_3_33 rfl rfl (by decide) hk_b40 hk_a0 d_Request_init_40 (fun H locs R => ?_)
    obtain ⟨S44, eS44, hE⟩ := fw_let_ex hE
    rw [← eS44] at R
    clear eS44
    refine lv_aload_n hx hb d_Request_init_43 rfl (lv_at hl 0 rfl) ?_
    refine lv_iconst (v := -1) hx hb d_Request_init_44 (by decide) ?_
    refine fw_puti C R ft_field_3_37 rfl hk_a0 d_Request_init_45 (fun H locs R => ?_)
    obtain ⟨S45, eS45, hE⟩ := fw_let_ex hE
    rw [← eS45] at R
    clear eS45
    refine lv_aload_n hx hb d_Request_init_48 rfl (lv_at hl 0 rfl) ?_
    refine lv_iconst (v := 0) hx hb d_Request_init_49 (by decide) ?_
    refine fw_puti C R ft_field_3_40 rfl hk_a0 d_Request_init_50 (fun H locs R => ?_)
    obtain ⟨S46, eS46, hE⟩ := fw_let_ex hE
    rw [← eS46] at R
    clear eS46
    refine lv_aload_n hx hb d_Request_init_53 rfl (lv_at hl 0 rfl) ?_
    refine lv_iconst (v := 0) hx hb d_Request_init_54 (by decide) ?_
    refine fw_puti C R ft_field_3_43 rfl hk_a0 d_Request_init_55 (fun H locs R => ?_)
    obtain ⟨S47, eS47, hE⟩ := fw_let_ex hE
    rw [← eS47] at R
    clear eS47
    refine lv_aload_n hx hb d_Request_init_58 rfl (lv_at hl 0 rfl) ?_
    refine lv_iconst (v := 0) hx hb d_Request_init_59 (by decide) ?_
    refine fw_puti C R ft_field_3_46 rfl hk_a0 d_Request_init_60 (fun H locs R => ?_)
    obtain ⟨S48, eS48, hE⟩ := fw_let_ex hE
    rw [← eS48] at R
    clear eS48
    refine lv_aload_n hx hb d_Request_init_63 rfl (lv_at hl 0 rfl) ?_
    refine lv_iconst (v := 0) hx hb d_Request_init_64 (by decide) ?_
    refine fw_puti C R ft_field_3_49 rfl hk_a0 d_Request_init_65 (fun H locs R => ?_)
    obtain ⟨S49, eS49, hE⟩ := fw_let_ex hE
    rw [← eS49] at R
    clear eS49
    refine lv_aload_n hx hb d_Request_init_68 rfl (lv_at hl 0 rfl) ?_
    refine lv_iload_n hx hb d_Request_init_69 rfl (lv_at hl 1 rfl) ?_
    refine fw_putFi C hnm R ft_field_3_52 rfl ft_nonest_3_52 rfl hk_a0 d_Request_init_70 (fun H locs R => ?_)
    obtain ⟨S50, eS50, hE⟩ := fw_let_ex hE
    rw [← eS50] at R
    clear eS50
    refine lv_aload_n hx hb d_Request_init_73 rfl (lv_at hl 0 rfl) ?_
    refine lv_iload_n hx hb d_Request_init_74 rfl (lv_at hl 2 rfl) ?_
    refine fw_putFi C hnm R ft_field_3_55 rfl ft_nonest_3_55 rfl hk_a0 d_Request_init_75 (fun H locs R => ?_)
    obtain ⟨S51, eS51, hE⟩ := fw_let_ex hE
    rw [← eS51] at R
    clear eS51
    refine lv_aload_n hx hb d_Request_init_78 rfl (lv_at hl 0 rfl) ?_
    refine lv_iload_n hx hb d_Request_init_79 rfl (lv_at hl 3 rfl) ?_
    obtain ⟨hz52, hE⟩ := fw_ifp hE
    refine fw_putFz C hnm R ft_field_3_58 rfl ft_nonest_3_58 rfl hz52 hk_a0 d_Request_init_80 (fun H locs R => ?_)
    obtain ⟨S53, eS53, hE⟩ := fw_let_ex hE
    rw [← eS53] at R
    clear eS53
    refine lv_aload_n hx hb d_Request_init_83 rfl (lv_at hl 0 rfl) ?_
    refine lv_iload hx hb d_Request_init_84 (lv_at hl 4 rfl) ?_
    refine fw_putFi C hnm R ft_field_3_62 rfl ft_nonest_3_62 rfl hk_a0 d_Request_init_86 (fun H locs R => ?_)
    obtain ⟨S54, eS54, hE⟩ := fw_let_ex hE
    rw [← eS54] at R
    clear eS54
    refine lv_aload_n hx hb d_Request_init_89 rfl (lv_at hl 0 rfl) ?_
    refine fw_new C R cl_2 nd_2 ft_new_3_18 ni_2 nj_2 (Nat.le_of_ble_eq_true rfl) (Nat.le_of_ble_eq_true rfl) d_Request_init_90 (fun H kd57 hxkd57 hk_new R => ?_)
    refine W.widen (k := 6) (n := 156) (by decide) (by decide) ?_
    obtain ⟨b56, eb56, hE⟩ := fw_let_ex hE
    obtain ⟨S55, eS55, hE⟩ := fw_let_ex hE
    rw [← eS55] at R
    rw [← eb56] at hk_new ⊢
    have hk_b56 := hk_new
    have hXkd57 := fw_X.tr hXkd43 hxkd57
    have hk_a0 := hxkd57 _ _ hk_a0
    have hk_b33 := hxkd57 _ _ hk_b33
    have hk_b40 := hxkd57 _ _ hk_b40
    clear eS55 eb56 hk_new
    refine lv_dup hx hb d_Request_init_93 rfl ?_
    refine lv_aload hx hb d_Request_init_94 (lv_at hl 5 rfl) ?_
    refine fw_get (v := .int (fw_g S55 b1 2)) C R ft_field_3_65 hk_b1 rfl d_Request_init_96 ?_
    obtain ⟨S58, hF, hE⟩ := fw_bind hE
    refine fw_callI (As := [.int (fw_g S55 b1 2)]) (rest := [.ref b56, .ref a0]) C R ft_callI_3_20 yi_Pairs_init rfl (ct_Pairs_init l G kd57 S55 _ _ _ hk_b56 hF) rfl hl.1 rfl (lv_room (Nat.le_of_ble_eq_true rfl)) ⟨Nat.le_of_ble_eq_true rfl, Nat.le_of_ble_eq_true rfl⟩ ⟨Nat.le_of_ble_eq_true rfl, Nat.le_of_ble_eq_true rfl⟩ d_Request_init_99 (fun H locs kd59 hxkd59 hP R => ?_)
    refine W.widen (k := 8) (n := 284) (by decide) (by decide) ?_
    have hXkd59 := fw_X.tr hXkd57 hxkd59
    have hk_a0 := hxkd59 _ _ hk_a0
    have hk_b33 := hxkd59 _ _ hk_b33
    have hk_b40 := hxkd59 _ _ hk_b40
    have hk_b56 := hxkd59 _ _ hk_b56
    refine fw_putFr C hnm R ft_field_3_68 rfl ft_nonest_3_68 rfl rfl (by decide) hk_b56 hk_a0 d_Request_init_102 (fun H locs R => ?_)
    obtain ⟨S60, eS60, hE⟩ := fw_let_ex hE
    rw [← eS60] at R
    clear eS60
    refine lv_aload_n hx hb d_Request_init_105 rfl (lv_at hl 0 rfl) ?_
    refine lv_aload hx hb d_Request_init_106 (lv_at hl 5 rfl) ?_
    refine fw_get (v := .int (fw_g S60 b1 2)) C R ft_field_3_65 hk_b1 rfl d_Request_init_108 ?_
    refine lv_iconst (v := 0) hx hb d_Request_init_111 (by decide) ?_
    refine fw_max C ft_max_3_71 mmax_1 mmax_2 mmax_3 hl.1 (Nat.le_of_ble_eq_true rfl) (Nat.le_of_ble_eq_true rfl) (Nat.le_of_ble_eq_true rfl) (Nat.le_of_ble_eq_true rfl) d_Request_init_112 ?_
    obtain ⟨hb61, hE⟩ := fw_ifn hE
    refine fw_newai C R (fun q => hb61 (Or.inl q)) (fw_bd1 hb61) (by decide) (fw_bd2 hb61 (by decide)) d_Request_init_115 (fun H kd64 hxkd64 hk_new R => ?_)
    refine W.widen (k := 9) (n := 348) (by decide) (fw_bd3 hb61) ?_
    obtain ⟨b63, eb63, hE⟩ := fw_let_ex hE
    obtain ⟨S62, eS62, hE⟩ := fw_let_ex hE
    rw [← eS62] at R
    rw [← eb63] at hk_new ⊢
    have hk_b63 := hk_new
    have hXkd64 := fw_X.tr hXkd59 hxkd64
    have hk_a0 := hxkd64 _ _ hk_a0
    have hk_b33 := hxkd64 _ _ hk_b33
    have hk_b40 := hxkd64 _ _ hk_b40
    have hk_b56 := hxkd64 _ _ hk_b56
    clear eS62 eb63 hk_new
    refine fw_putFr C hnm R ft_field_3_77 rfl ft_nonest_3_77 rfl rfl (by decide) hk_b63 hk_a0 d_Request_init_117 (fun H locs R => ?_)
    obtain ⟨S65, eS65, hE⟩ := fw_let_ex hE
    rw [← eS65] at R
    clear eS65
    refine lv_iconst (v := 0) hx hb d_Request_init_120 (by decide) ?_
    refine lv_istore (lv' := [(6, .int (0 : Int32)), (0, .ref a0), (1, .int p1), (2, .int p2), (3, .int p3), (4, .int p4), (5, .ref b1)]) hx hb d_Request_init_121 hl (by decide) rfl (fun ls hl => ?_)
    exact h_l123 _ _ _ _ _ _ hXkd64 hk_a0 hk_b1 _ _ _ R (lv_sub hl [1, 6, 0] rfl) hE
set_option maxHeartbeats 4000000 in
set_option maxRecDepth 100000 in
theorem ct_FW_ask (l : Launch) (G : fw_G) (kd0 : Nat → Option Nat) (S0 : fw_S) (a0 : Nat) (p1 : Int32) (p2 : Int32) (r0 : Int32) (S' : fw_S) (hk_a0 : kd0 a0 = some 6) (hE : F_FW_ask a0 p1 p2 S0 = some (r0, S')) : fw_M l G y_FW_ask prog_1_method_6_code 6 (some .int) 4 89 10 364 kd0 S0 ([.ref a0, .int p1, .int p2] : List Value) (some (.int r0)) S' (fun _ => True) := by
  refine fw_start (by decide) (Nat.le_of_ble_eq_true rfl) ?_
  intro p e s m below meth c ls C hnm R hl
  clear hnm
  have hx := C.1
  have hb := C.2.1
  have hl : lv_has ls 6 [(0, .ref a0), (1, .int p1), (2, .int p2)] := hl
  unfold F_FW_ask at hE
  refine lv_aload_n hx hb d_FW_ask_0 rfl (lv_at hl 0 rfl) ?_
  refine lv_iload_n hx hb d_FW_ask_1 rfl (lv_at hl 1 rfl) ?_
  obtain ⟨o1, hF, hE⟩ := fw_bind hE
  refine fw_callV (As := [.int p1]) (rest := []) C R ft_callV_6_70 yi_FW_houseWire ys_FW_houseWire (ct_FW_houseWire l G kd0 S0 _ _ _ hk_a0 hF) hk_a0 (by decide) rfl rfl hl.1 rfl (lv_room (Nat.le_of_ble_eq_true rfl)) ⟨Nat.le_of_ble_eq_true rfl, Nat.le_of_ble_eq_true rfl⟩ ⟨Nat.le_of_ble_eq_true rfl, Nat.le_of_ble_eq_true rfl⟩ d_FW_ask_2 (fun H locs kd2 hxkd2 hP R => ?_)
  obtain ⟨hP0, hP⟩ := hP
  rw [hP0] at hP R; clear hP0 hxkd2
  cases o1 with
  | none =>
    replace hE := fw_om_none rfl hE
    refine lv_astore_nN (lv' := [(3, .null), (0, .ref a0), (1, .int p1), (2, .int p2)]) hx hb d_FW_ask_5 rfl hl (by decide) rfl (fun ls hl => ?_)
    refine lv_aload_nN hx hb d_FW_ask_6 rfl (lv_at hl 0 rfl) ?_
    refine lv_ifnonnullN hx hb d_FW_ask_7 ?_
    refine lv_iconst (v := -1) hx hb d_FW_ask_10 (by decide) ?_
    cases hE
    refine W.widen (k := 10) (n := 364) (Nat.le_of_ble_eq_true rfl) (Nat.le_of_ble_eq_true rfl) ?_
    exact fw_iret C fw_X.rf trivial R d_FW_ask_11
  | some b3 =>
    replace hE := fw_om_some rfl hE
    have hk_b3 := hP _ rfl
    clear hP
    refine lv_astore_n (lv' := [(3, .ref b3), (0, .ref a0), (1, .int p1), (2, .int p2)]) hx hb d_FW_ask_5 rfl hl (by decide) rfl (fun ls hl => ?_)
    refine lv_aload_n hx hb d_FW_ask_6 rfl (lv_at hl 0 rfl) ?_
    refine lv_ifnonnull (tgt := 12) hx hb d_FW_ask_7 (by decide) ?_
    refine lv_aload_n hx hb d_FW_ask_12 rfl (lv_at hl 1 rfl) ?_
    refine fw_get (v := .int (fw_g S0 a0 2)) C R ft_field_6_21 hk_a0 rfl d_FW_ask_13 ?_
    refine lv_topi (fun x4 ex4 => ?_)
    replace hE := fw_let_use ex4 hE
    clear ex4
    refine lv_istore (lv' := [(4, .int x4), (3, .ref b3), (0, .ref a0), (1, .int p1), (2, .int p2)]) hx hb d_FW_ask_16 hl (by decide) rfl (fun ls hl => ?_)
    refine lv_iload hx hb d_FW_ask_18 (lv_at hl 0 rfl) ?_
    refine lv_if_lt (tgt := 33) hx hb d_FW_ask_20 (by decide) (fun hc => ?_) (fun hc => ?_)
    · replace hE := fw_if_t hc hE
      refine lv_bipush (v := -3) hx hb d_FW_ask_33 (by decide) ?_
      cases hE
      refine W.widen (k := 10) (n := 364) (Nat.le_of_ble_eq_true rfl) (Nat.le_of_ble_eq_true rfl) ?_
      exact fw_iret C fw_X.rf trivial R d_FW_ask_35
    · replace hE := fw_if_f hc hE
      refine lv_iload hx hb d_FW_ask_23 (lv_at hl 0 rfl) ?_
      refine lv_aload_n hx hb d_FW_ask_25 rfl (lv_at hl 2 rfl) ?_
      refine fw_getr C R ft_field_6_17 hk_a0 rfl rfl d_FW_ask_26 (fun hq => ?_) (fun b5 hq hk_b5 => ?_)
      · replace hE := fw_om_none hq hE
        cases hE
      · replace hE := fw_om_some hq hE
        refine fw_alen (K := 203) (ty := .object "FederationWire$Request") C R (by decide) (by decide) hk_b5 d_FW_ask_29 ?_
        refine lv_icmp_lt (tgt := 36) hx hb d_FW_ask_30 (by decide) (fun hc => ?_) (fun hc => ?_)
        · replace hE := fw_if_t hc hE
          refine fw_new C R cl_3 nd_3 ft_new_6_15 ni_3 nj_3 (Nat.le_of_ble_eq_true rfl) (Nat.le_of_ble_eq_true rfl) d_FW_ask_36 (fun H kd8 hxkd8 hk_new R => ?_)
          refine W.widen (k := 1) (n := 16) (by decide) (by decide) ?_
          obtain ⟨b7, eb7, hE⟩ := fw_let_ex hE
          obtain ⟨S6, eS6, hE⟩ := fw_let_ex hE
          rw [← eS6] at R
          rw [← eb7] at hk_new ⊢
          have hk_b7 := hk_new
          have hXkd8 := fw_X.tr fw_X.rf hxkd8
          have hk_a0 := hxkd8 _ _ hk_a0
          have hk_b3 := hxkd8 _ _ hk_b3
          have hk_b5 := hxkd8 _ _ hk_b5
          clear eS6 eb7 hk_new
          refine lv_dup hx hb d_FW_ask_39 rfl ?_
          refine lv_iload hx hb d_FW_ask_40 (lv_at hl 0 rfl) ?_
          refine lv_iload_n hx hb d_FW_ask_42 rfl (lv_at hl 3 rfl) ?_
          refine lv_iload_n hx hb d_FW_ask_43 rfl (lv_at hl 4 rfl) ?_
          refine lv_aload_n hx hb d_FW_ask_44 rfl (lv_at hl 2 rfl) ?_
          refine fw_get (v := .int (fw_g S6 a0 7)) C R ft_field_6_49 hk_a0 rfl d_FW_ask_45 ?_
          refine lv_aload_n hx hb d_FW_ask_48 rfl (lv_at hl 2 rfl) ?_
          refine fw_getr C R ft_field_6_30 hk_a0 rfl rfl d_FW_ask_49 (fun hq => ?_) (fun b9 hq hk_b9 => ?_)
          · replace hE := fw_om_none hq hE
            obtain ⟨S10, hF, hE⟩ := fw_bind hE
            refine fw_callI (As := [.int x4, .int p1, .int p2, .int (fw_g S6 a0 7), va_rf none]) (rest := [.ref b7]) C R ft_callI_6_106 yi_Request_init rfl (ct_Request_init l G kd8 S6 _ _ _ _ _ _ _ hk_b7 (fun _ h => by cases h) hF) rfl hl.1 rfl (lv_room (Nat.le_of_ble_eq_true rfl)) ⟨Nat.le_of_ble_eq_true rfl, Nat.le_of_ble_eq_true rfl⟩ ⟨Nat.le_of_ble_eq_true rfl, Nat.le_of_ble_eq_true rfl⟩ d_FW_ask_52 (fun H locs kd11 hxkd11 hP R => ?_)
            refine W.widen (k := 10) (n := 364) (by decide) (by decide) ?_
            have hXkd11 := fw_X.tr hXkd8 hxkd11
            have hk_a0 := hxkd11 _ _ hk_a0
            have hk_b3 := hxkd11 _ _ hk_b3
            have hk_b5 := hxkd11 _ _ hk_b5
            have hk_b7 := hxkd11 _ _ hk_b7
            refine lv_astore (lv' := [(5, .ref b7), (4, .int x4), (3, .ref b3), (0, .ref a0), (1, .int p1), (2, .int p2)]) hx hb d_FW_ask_55 hl (by decide) rfl (fun ls hl => ?_)
            refine lv_aload_n hx hb d_FW_ask_57 rfl (lv_at hl 3 rfl) ?_
            refine fw_getr C R ft_field_6_30 hk_a0 rfl rfl d_FW_ask_58 (fun hq => ?_) (fun b12 hq hk_b12 => ?_)
            · replace hE := fw_om_none hq hE
              cases hE
            · replace hE := fw_om_some hq hE
              obtain ⟨S13, hF, hE⟩ := fw_bind hE
              refine fw_callV (As := []) (rest := []) C R ft_callV_6_109 yi_Pairs_clear ys_Pairs_clear (ct_Pairs_clear l G kd11 S10 _ _ hk_b12 hF) hk_b12 (by decide) rfl rfl hl.1 rfl (lv_room (Nat.le_of_ble_eq_true rfl)) ⟨Nat.le_of_ble_eq_true rfl, Nat.le_of_ble_eq_true rfl⟩ ⟨Nat.le_of_ble_eq_true rfl, Nat.le_of_ble_eq_true rfl⟩ d_FW_ask_61 (fun H locs kd14 hxkd14 hP R => ?_)
              rw [hP] at R; clear hP hxkd14
              refine lv_aload_n hx hb d_FW_ask_64 rfl (lv_at hl 3 rfl) ?_
              refine fw_getr C R ft_field_6_17 hk_a0 rfl rfl d_FW_ask_65 (fun hq => ?_) (fun b15 hq hk_b15 => ?_)
              · replace hE := fw_om_none hq hE
                refine lv_iload hx hb d_FW_ask_68 (lv_at hl 1 rfl) ?_
                refine lv_aload hx hb d_FW_ask_70 (lv_at hl 0 rfl) ?_
                cases hE
              · replace hE := fw_om_some hq hE
                refine lv_iload hx hb d_FW_ask_68 (lv_at hl 1 rfl) ?_
                refine lv_aload hx hb d_FW_ask_70 (lv_at hl 0 rfl) ?_
                obtain ⟨hi16, hE⟩ := fw_ifn hE
                refine fw_aast (K := 3) C R rfl (by decide) (by decide) hk_b15 hk_b7 hi16 d_FW_ask_72 (fun H locs R => ?_)
                obtain ⟨S17, eS17, hE⟩ := fw_let_ex hE
                rw [← eS17] at R
                clear eS17
                refine lv_aload_n hx hb d_FW_ask_73 rfl (lv_at hl 3 rfl) ?_
                refine lv_dup hx hb d_FW_ask_74 rfl ?_
                refine fw_get (v := .int (fw_g S17 a0 2)) C R ft_field_6_21 hk_a0 rfl d_FW_ask_75 ?_
                refine lv_iconst (v := 1) hx hb d_FW_ask_78 (by decide) ?_
                refine lv_iadd hx hb d_FW_ask_79 ?_
                refine fw_puti C R ft_field_6_21 rfl hk_a0 d_FW_ask_80 (fun H locs R => ?_)
                obtain ⟨S18, eS18, hE⟩ := fw_let_ex hE
                rw [← eS18] at R
                clear eS18
                refine lv_aload hx hb d_FW_ask_83 (lv_at hl 0 rfl) ?_
                obtain ⟨x19, hF, hE⟩ := fw_bind hE
                refine fw_callV (As := []) (rest := []) C R ft_callV_6_112 yi_Request_hasKeysLeft ys_Request_hasKeysLeft (ct_Request_hasKeysLeft l G kd11 S18 _ _ hk_b7 hF) hk_b7 (by decide) rfl rfl hl.1 rfl (lv_room (Nat.le_of_ble_eq_true rfl)) ⟨Nat.le_of_ble_eq_true rfl, Nat.le_of_ble_eq_true rfl⟩ ⟨Nat.le_of_ble_eq_true rfl, Nat.le_of_ble_eq_true rfl⟩ d_FW_ask_85 (fun H locs kd20 hxkd20 hP R => ?_)
                rw [hP] at R; clear hP hxkd20
                refine lv_if_eq (tgt := 107) hx hb d_FW_ask_88 (by decide) (fun hc => ?_) (fun hc => ?_)
                · replace hE := fw_if_t hc hE
                  refine lv_aload hx hb d_FW_ask_107 (lv_at hl 0 rfl) ?_
                  refine lv_iconst (v := 1) hx hb d_FW_ask_109 (by decide) ?_
                  refine fw_puti C R ft_field_6_85 rfl hk_b7 d_FW_ask_110 (fun H locs R => ?_)
                  obtain ⟨S21, eS21, hE⟩ := fw_let_ex hE
                  rw [← eS21] at R
                  clear eS21
                  refine lv_iload hx hb d_FW_ask_113 (lv_at hl 1 rfl) ?_
                  cases hE
                  refine W.widen (k := 10) (n := 364) (Nat.le_of_ble_eq_true rfl) (Nat.le_of_ble_eq_true rfl) ?_
                  exact fw_iret C hXkd11 trivial R d_FW_ask_115
                · replace hE := fw_if_f hc hE
                  refine lv_aload hx hb d_FW_ask_91 (lv_at hl 0 rfl) ?_
                  obtain ⟨S22, hF, hE⟩ := fw_bind hE
                  refine fw_callV (As := []) (rest := []) C R ft_callV_6_116 yi_Request_writeAsk ys_Request_writeAsk (ct_Request_writeAsk l G kd11 S18 _ _ hk_b7 hF) hk_b7 (by decide) rfl rfl hl.1 rfl (lv_room (Nat.le_of_ble_eq_true rfl)) ⟨Nat.le_of_ble_eq_true rfl, Nat.le_of_ble_eq_true rfl⟩ ⟨Nat.le_of_ble_eq_true rfl, Nat.le_of_ble_eq_true rfl⟩ d_FW_ask_93 (fun H locs kd23 hxkd23 hP R => ?_)
                  rw [hP] at R; clear hP hxkd23
                  refine lv_aload_n hx hb d_FW_ask_96 rfl (lv_at hl 3 rfl) ?_
                  refine lv_aload hx hb d_FW_ask_97 (lv_at hl 0 rfl) ?_
                  refine lv_aload_n hx hb d_FW_ask_99 rfl (lv_at hl 2 rfl) ?_
                  obtain ⟨x25, S24, hF, hE⟩ := fw_b2_ex hE
                  refine fw_callV (As := [.ref b7, .ref b3]) (rest := []) C R ft_callV_6_88 yi_FW_sendFirst ys_FW_sendFirst (ct_FW_sendFirst l G kd11 S22 _ _ _ _ _ hk_a0 hk_b7 hk_b3 hF) hk_a0 (by decide) rfl rfl hl.1 rfl (lv_room (Nat.le_of_ble_eq_true rfl)) ⟨Nat.le_of_ble_eq_true rfl, Nat.le_of_ble_eq_true rfl⟩ ⟨Nat.le_of_ble_eq_true rfl, Nat.le_of_ble_eq_true rfl⟩ d_FW_ask_100 (fun H locs kd26 hxkd26 hP R => ?_)
                  rw [hP] at R; clear hP hxkd26
                  refine lv_pop hx hb d_FW_ask_103 rfl ?_
                  refine lv_goto (tgt := 113) hx hb d_FW_ask_104 (by decide) ?_
                  refine lv_iload hx hb d_FW_ask_113 (lv_at hl 1 rfl) ?_
                  cases hE
                  refine W.widen (k := 10) (n := 364) (Nat.le_of_ble_eq_true rfl) (Nat.le_of_ble_eq_true rfl) ?_
                  exact fw_iret C hXkd11 trivial R d_FW_ask_115
          · replace hE := fw_om_some hq hE
            obtain ⟨S27, hF, hE⟩ := fw_bind hE
            refine fw_callI (As := [.int x4, .int p1, .int p2, .int (fw_g S6 a0 7), va_rf (some b9)]) (rest := [.ref b7]) C R ft_callI_6_106 yi_Request_init rfl (ct_Request_init l G kd8 S6 _ _ _ _ _ _ _ hk_b7 (fun _ h => by cases h; exact hk_b9) hF) rfl hl.1 rfl (lv_room (Nat.le_of_ble_eq_true rfl)) ⟨Nat.le_of_ble_eq_true rfl, Nat.le_of_ble_eq_true rfl⟩ ⟨Nat.le_of_ble_eq_true rfl, Nat.le_of_ble_eq_true rfl⟩ d_FW_ask_52 (fun H locs kd28 hxkd28 hP R => ?_)
            refine W.widen (k := 10) (n := 364) (by decide) (by decide) ?_
            have hXkd28 := fw_X.tr hXkd8 hxkd28
            have hk_a0 := hxkd28 _ _ hk_a0
            have hk_b3 := hxkd28 _ _ hk_b3
            have hk_b5 := hxkd28 _ _ hk_b5
            have hk_b7 := hxkd28 _ _ hk_b7
            have hk_b9 := hxkd28 _ _ hk_b9
            refine lv_astore (lv' := [(5, .ref b7), (4, .int x4), (3, .ref b3), (0, .ref a0), (1, .int p1), (2, .int p2)]) hx hb d_FW_ask_55 hl (by decide) rfl (fun ls hl => ?_)
            refine lv_aload_n hx hb d_FW_ask_57 rfl (lv_at hl 3 rfl) ?_
            refine fw_getr C R ft_field_6_30 hk_a0 rfl rfl d_FW_ask_58 (fun hq => ?_) (fun b29 hq hk_b29 => ?_)
            · replace hE := fw_om_none hq hE
              cases hE
            · replace hE := fw_om_some hq hE
              obtain ⟨S30, hF, hE⟩ := fw_bind hE
              refine fw_callV (As := []) (rest := []) C R ft_callV_6_109 yi_Pairs_clear ys_Pairs_clear (ct_Pairs_clear l G kd28 S27 _ _ hk_b29 hF) hk_b29 (by decide) rfl rfl hl.1 rfl (lv_room (Nat.le_of_ble_eq_true rfl)) ⟨Nat.le_of_ble_eq_true rfl, Nat.le_of_ble_eq_true rfl⟩ ⟨Nat.le_of_ble_eq_true rfl, Nat.le_of_ble_eq_true rfl⟩ d_FW_ask_61 (fun H locs kd31 hxkd31 hP R => ?_)
              rw [hP] at R; clear hP hxkd31
              refine lv_aload_n hx hb d_FW_ask_64 rfl (lv_at hl 3 rfl) ?_
              refine fw_getr C R ft_field_6_17 hk_a0 rfl rfl d_FW_ask_65 (fun hq => ?_) (fun b32 hq hk_b32 => ?_)
              · replace hE := fw_om_none hq hE
                refine lv_iload hx hb d_FW_ask_68 (lv_at hl 1 rfl) ?_
                refine lv_aload hx hb d_FW_ask_70 (lv_at hl 0 rfl) ?_
                cases hE
              · replace hE := fw_om_some hq hE
                refine lv_iload hx hb d_FW_ask_68 (lv_at hl 1 rfl) ?_
                refine lv_aload hx hb d_FW_ask_70 (lv_at hl 0 rfl) ?_
                obtain ⟨hi33, hE⟩ := fw_ifn hE
                refine fw_aast (K := 3) C R rfl (by decide) (by decide) hk_b32 hk_b7 hi33 d_FW_ask_72 (fun H locs R => ?_)
                obtain ⟨S34, eS34, hE⟩ := fw_let_ex hE
                rw [← eS34] at R
                clear eS34
                refine lv_aload_n hx hb d_FW_ask_73 rfl (lv_at hl 3 rfl) ?_
                refine lv_dup hx hb d_FW_ask_74 rfl ?_
                refine fw_get (v := .int (fw_g S34 a0 2)) C R ft_field_6_21 hk_a0 rfl d_FW_ask_75 ?_
                refine lv_iconst (v := 1) hx hb d_FW_ask_78 (by decide) ?_
                refine lv_iadd hx hb d_FW_ask_79 ?_
                refine fw_puti C R ft_field_6_21 rfl hk_a0 d_FW_ask_80 (fun H locs R => ?_)
                obtain ⟨S35, eS35, hE⟩ := fw_let_ex hE
                rw [← eS35] at R
                clear eS35
                refine lv_aload hx hb d_FW_ask_83 (lv_at hl 0 rfl) ?_
                obtain ⟨x36, hF, hE⟩ := fw_bind hE
                refine fw_callV (As := []) (rest := []) C R ft_callV_6_112 yi_Request_hasKeysLeft ys_Request_hasKeysLeft (ct_Request_hasKeysLeft l G kd28 S35 _ _ hk_b7 hF) hk_b7 (by decide) rfl rfl hl.1 rfl (lv_room (Nat.le_of_ble_eq_true rfl)) ⟨Nat.le_of_ble_eq_true rfl, Nat.le_of_ble_eq_true rfl⟩ ⟨Nat.le_of_ble_eq_true rfl, Nat.le_of_ble_eq_true rfl⟩ d_FW_ask_85 (fun H locs kd37 hxkd37 hP R => ?_)
                rw [hP] at R; clear hP hxkd37
                refine lv_if_eq (tgt := 107) hx hb d_FW_ask_88 (by decide) (fun hc => ?_) (fun hc => ?_)
                · replace hE := fw_if_t hc hE
                  refine lv_aload hx hb d_FW_ask_107 (lv_at hl 0 rfl) ?_
                  refine lv_iconst (v := 1) hx hb d_FW_ask_109 (by decide) ?_
                  refine fw_puti C R ft_field_6_85 rfl hk_b7 d_FW_ask_110 (fun H locs R => ?_)
                  obtain ⟨S38, eS38, hE⟩ := fw_let_ex hE
                  rw [← eS38] at R
                  clear eS38
                  refine lv_iload hx hb d_FW_ask_113 (lv_at hl 1 rfl) ?_
                  cases hE
                  refine W.widen (k := 10) (n := 364) (Nat.le_of_ble_eq_true rfl) (Nat.le_of_ble_eq_true rfl) ?_
                  exact fw_iret C hXkd28 trivial R d_FW_ask_115
                · replace hE := fw_if_f hc hE
                  refine lv_aload hx hb d_FW_ask_91 (lv_at hl 0 rfl) ?_
                  obtain ⟨S39, hF, hE⟩ := fw_bind hE
                  refine fw_callV (As := []) (rest := []) C R ft_callV_6_116 yi_Request_writeAsk ys_Request_writeAsk (ct_Request_writeAsk l G kd28 S35 _ _ hk_b7 hF) hk_b7 (by decide) rfl rfl hl.1 rfl (lv_room (Nat.le_of_ble_eq_true rfl)) ⟨Nat.le_of_ble_eq_true rfl, Nat.le_of_ble_eq_true rfl⟩ ⟨Nat.le_of_ble_eq_true rfl, Nat.le_of_ble_eq_true rfl⟩ d_FW_ask_93 (fun H locs kd40 hxkd40 hP R => ?_)
                  rw [hP] at R; clear hP hxkd40
                  refine lv_aload_n hx hb d_FW_ask_96 rfl (lv_at hl 3 rfl) ?_
                  refine lv_aload hx hb d_FW_ask_97 (lv_at hl 0 rfl) ?_
                  refine lv_aload_n hx hb d_FW_ask_99 rfl (lv_at hl 2 rfl) ?_
                  obtain ⟨x42, S41, hF, hE⟩ := fw_b2_ex hE
                  refine fw_callV (As := [.ref b7, .ref b3]) (rest := []) C R ft_callV_6_88 yi_FW_sendFirst ys_FW_sendFirst (ct_FW_sendFirst l G kd28 S39 _ _ _ _ _ hk_a0 hk_b7 hk_b3 hF) hk_a0 (by decide) rfl rfl hl.1 rfl (lv_room (Nat.le_of_ble_eq_true rfl)) ⟨Nat.le_of_ble_eq_true rfl, Nat.le_of_ble_eq_true rfl⟩ ⟨Nat.le_of_ble_eq_true rfl, Nat.le_of_ble_eq_true rfl⟩ d_FW_ask_100 (fun H locs kd43 hxkd43 hP R => ?_)
                  rw [hP] at R; clear hP hxkd43
                  refine lv_pop hx hb d_FW_ask_103 rfl ?_
                  refine lv_goto (tgt := 113) hx hb d_FW_ask_104 (by decide) ?_
                  refine lv_iload hx hb d_FW_ask_113 (lv_at hl 1 rfl) ?_
                  cases hE
                  refine W.widen (k := 10) (n := 364) (Nat.le_of_ble_eq_true rfl) (Nat.le_of_ble_eq_true rfl) ?_
                  exact fw_iret C hXkd28 trivial R d_FW_ask_115
        · replace hE := fw_if_f hc hE
          refine lv_bipush (v := -3) hx hb d_FW_ask_33 (by decide) ?_
          cases hE
          refine W.widen (k := 10) (n := 364) (Nat.le_of_ble_eq_true rfl) (Nat.le_of_ble_eq_true rfl) ?_
          exact fw_iret C fw_X.rf trivial R d_FW_ask_35
set_option maxHeartbeats 4000000 in
set_option maxRecDepth 100000 in
theorem ct_FW_learn (l : Launch) (G : fw_G) (kd0 : Nat → Option Nat) (S0 : fw_S) (a0 : Nat) (p1 : Nat) (S' : fw_S) (hk_a0 : kd0 a0 = some 6) (hk_p1 : kd0 p1 = some 3) (hE : F_FW_learn a0 p1 S0 = some S') : fw_M l G y_FW_learn prog_1_method_27_code 4 none 0 0 0 0 kd0 S0 ([.ref a0, .ref p1] : List Value) none S' (fun k => k = kd0) := by
  refine fw_start (by decide) (Nat.le_of_ble_eq_true rfl) ?_
  intro p e s m below meth c ls C hnm R hl
  clear hnm
  have hx := C.1
  have hb := C.2.1
  have hl : lv_has ls 4 [(0, .ref a0), (1, .ref p1)] := hl
  unfold F_FW_learn at hE
  refine lv_aload_n hx hb d_FW_learn_0 rfl (lv_at hl 1 rfl) ?_
  refine fw_get (v := .int (fw_g S0 p1 0)) C R ft_field_6_82 hk_p1 rfl d_FW_learn_1 ?_
  refine lv_topi (fun x1 ex1 => ?_)
  replace hE := fw_let_use ex1 hE
  clear ex1
  refine lv_istore_n (lv' := [(2, .int x1), (0, .ref a0), (1, .ref p1)]) hx hb d_FW_learn_4 rfl hl (by decide) rfl (fun ls hl => ?_)
  refine lv_aload_n hx hb d_FW_learn_5 rfl (lv_at hl 2 rfl) ?_
  refine fw_get (v := .int (fw_g S0 p1 5)) C R ft_field_6_163 hk_p1 rfl d_FW_learn_6 ?_
  refine lv_if_le (tgt := 34) hx hb d_FW_learn_9 (by decide) (fun hc => ?_) (fun hc => ?_)
  · replace hE := fw_if_t hc hE
    cases hE
    exact fw_vret C fw_X.rf rfl R d_FW_learn_34
  · replace hE := fw_if_f hc hE
    refine lv_iload_n hx hb d_FW_learn_12 rfl (lv_at hl 0 rfl) ?_
    refine lv_if_lt (tgt := 34) hx hb d_FW_learn_13 (by decide) (fun hc => ?_) (fun hc => ?_)
    · replace hE := fw_if_t hc hE
      cases hE
      exact fw_vret C fw_X.rf rfl R d_FW_learn_34
    · replace hE := fw_if_f hc hE
      refine lv_iload_n hx hb d_FW_learn_16 rfl (lv_at hl 0 rfl) ?_
      refine lv_aload_n hx hb d_FW_learn_17 rfl (lv_at hl 1 rfl) ?_
      refine fw_getr C R ft_field_6_41 hk_a0 rfl rfl d_FW_learn_18 (fun hq => ?_) (fun b2 hq hk_b2 => ?_)
      · replace hE := fw_om_none hq hE
        cases hE
      · replace hE := fw_om_some hq hE
        refine fw_alen (K := 100) (ty := .int) C R (by decide) (by decide) hk_b2 d_FW_learn_21 ?_
        refine lv_icmp_ge (tgt := 34) hx hb d_FW_learn_22 (by decide) (fun hc => ?_) (fun hc => ?_)
        · replace hE := fw_if_t hc hE
          cases hE
          exact fw_vret C fw_X.rf rfl R d_FW_learn_34
        · replace hE := fw_if_f hc hE
          refine lv_iload_n hx hb d_FW_learn_25 rfl (lv_at hl 0 rfl) ?_
          refine lv_aload_n hx hb d_FW_learn_26 rfl (lv_at hl 1 rfl) ?_
          refine fw_getr C R ft_field_6_45 hk_a0 rfl rfl d_FW_learn_27 (fun hq => ?_) (fun b3 hq hk_b3 => ?_)
          · replace hE := fw_om_none hq hE
            cases hE
          · replace hE := fw_om_some hq hE
            refine fw_alen (K := 101) (ty := .boolean) C R (by decide) (by decide) hk_b3 d_FW_learn_30 ?_
            refine lv_icmp_lt (tgt := 35) hx hb d_FW_learn_31 (by decide) (fun hc => ?_) (fun hc => ?_)
            · replace hE := fw_if_t hc hE
              refine lv_aload_n hx hb d_FW_learn_35 rfl (lv_at hl 2 rfl) ?_
              refine fw_getr C R ft_field_6_151 hk_p1 rfl rfl d_FW_learn_36 (fun hq => ?_) (fun b4 hq hk_b4 => ?_)
              · replace hE := fw_om_none hq hE
                cases hE
              · replace hE := fw_om_some hq hE
                refine fw_get (v := .int (fw_g S0 b4 2)) C R ft_field_6_103 hk_b4 rfl d_FW_learn_39 ?_
                refine lv_sipush (v := 1000) hx hb d_FW_learn_42 (by decide) ?_
                refine lv_imul hx hb d_FW_learn_45 ?_
                refine lv_aload_n hx hb d_FW_learn_46 rfl (lv_at hl 2 rfl) ?_
                refine fw_get (v := .int (fw_g S0 p1 5)) C R ft_field_6_163 hk_p1 rfl d_FW_learn_47 ?_
                obtain ⟨hne5, hE⟩ := fw_ifn hE
                refine lv_idiv hx hb d_FW_learn_50 hne5 ?_
                refine lv_topi (fun x6 ex6 => ?_)
                replace hE := fw_let_use ex6 hE
                clear ex6
                refine lv_istore_n (lv' := [(3, .int x6), (2, .int x1), (0, .ref a0), (1, .ref p1)]) hx hb d_FW_learn_51 rfl hl (by decide) rfl (fun ls hl => ?_)
                refine lv_aload_n hx hb d_FW_learn_52 rfl (lv_at hl 2 rfl) ?_
                refine fw_getr C R ft_field_6_41 hk_a0 rfl rfl d_FW_learn_53 (fun hq => ?_) (fun b7 hq hk_b7 => ?_)
                · replace hE := fw_om_none hq hE
                  refine lv_iload_n hx hb d_FW_learn_56 rfl (lv_at hl 1 rfl) ?_
                  refine lv_aload_n hx hb d_FW_learn_57 rfl (lv_at hl 2 rfl) ?_
                  refine fw_getr C R ft_field_6_45 hk_a0 rfl rfl d_FW_learn_58 (fun hq => ?_) (fun b8 hq hk_b8 => ?_)
                  · replace hE := fw_om_none hq hE
                    refine lv_iload_n hx hb d_FW_learn_61 rfl (lv_at hl 1 rfl) ?_
                    cases hE
                  · replace hE := fw_om_some hq hE
                    refine lv_iload_n hx hb d_FW_learn_61 rfl (lv_at hl 1 rfl) ?_
                    obtain ⟨hi9, hE⟩ := fw_ifn hE
                    refine fw_zald C R (by decide) hk_b8 hi9 d_FW_learn_62 ?_
                    refine lv_if_eq (tgt := 79) hx hb d_FW_learn_63 (by decide) (fun hc => ?_) (fun hc => ?_)
                    · replace hE := fw_if_t hc hE
                      refine lv_iload_n hx hb d_FW_learn_79 rfl (lv_at hl 0 rfl) ?_
                      cases hE
                    · replace hE := fw_if_f hc hE
                      refine lv_aload_n hx hb d_FW_learn_66 rfl (lv_at hl 2 rfl) ?_
                      refine fw_getr C R ft_field_6_41 hk_a0 rfl rfl d_FW_learn_67 (fun hq => ?_) (fun b10 hq hk_b10 => ?_)
                      · replace hE := fw_om_none hq hE
                        refine lv_iload_n hx hb d_FW_learn_70 rfl (lv_at hl 1 rfl) ?_
                        cases hE
                      · replace hE := fw_om_some hq hE
                        refine lv_iload_n hx hb d_FW_learn_70 rfl (lv_at hl 1 rfl) ?_
                        obtain ⟨hi11, hE⟩ := fw_ifn hE
                        refine fw_iald C R (by decide) hk_b10 hi11 d_FW_learn_71 ?_
                        refine lv_iload_n hx hb d_FW_learn_72 rfl (lv_at hl 0 rfl) ?_
                        refine lv_iadd hx hb d_FW_learn_73 ?_
                        refine lv_iconst (v := 2) hx hb d_FW_learn_74 (by decide) ?_
                        refine lv_idiv hx hb d_FW_learn_75 (by decide) ?_
                        refine lv_goto (tgt := 80) hx hb d_FW_learn_76 (by decide) ?_
                        cases hE
                · replace hE := fw_om_some hq hE
                  refine lv_iload_n hx hb d_FW_learn_56 rfl (lv_at hl 1 rfl) ?_
                  refine lv_aload_n hx hb d_FW_learn_57 rfl (lv_at hl 2 rfl) ?_
                  refine fw_getr C R ft_field_6_45 hk_a0 rfl rfl d_FW_learn_58 (fun hq => ?_) (fun b12 hq hk_b12 => ?_)
                  · replace hE := fw_om_none hq hE
                    refine lv_iload_n hx hb d_FW_learn_61 rfl (lv_at hl 1 rfl) ?_
                    cases hE
                  · replace hE := fw_om_some hq hE
                    refine lv_iload_n hx hb d_FW_learn_61 rfl (lv_at hl 1 rfl) ?_
                    obtain ⟨hi13, hE⟩ := fw_ifn hE
                    refine fw_zald C R (by decide) hk_b12 hi13 d_FW_learn_62 ?_
                    refine lv_if_eq (tgt := 79) hx hb d_FW_learn_63 (by decide) (fun hc => ?_) (fun hc => ?_)
                    · replace hE := fw_if_t hc hE
                      refine lv_iload_n hx hb d_FW_learn_79 rfl (lv_at hl 0 rfl) ?_
                      obtain ⟨hi14, hE⟩ := fw_ifn hE
                      refine fw_iast C R (by decide) hk_b7 hi14 d_FW_learn_80 (fun H locs R => ?_)
                      obtain ⟨S15, eS15, hE⟩ := fw_let_ex hE
                      rw [← eS15] at R
                      clear eS15
                      refine lv_aload_n hx hb d_FW_learn_81 rfl (lv_at hl 2 rfl) ?_
                      refine fw_getr C R ft_field_6_45 hk_a0 rfl rfl d_FW_learn_82 (fun hq => ?_) (fun b16 hq hk_b16 => ?_)
                      · replace hE := fw_om_none hq hE
                        refine lv_iload_n hx hb d_FW_learn_85 rfl (lv_at hl 1 rfl) ?_
                        refine lv_iconst (v := 1) hx hb d_FW_learn_86 (by decide) ?_
                        cases hE
                      · replace hE := fw_om_some hq hE
                        refine lv_iload_n hx hb d_FW_learn_85 rfl (lv_at hl 1 rfl) ?_
                        refine lv_iconst (v := 1) hx hb d_FW_learn_86 (by decide) ?_
                        obtain ⟨hi17, hE⟩ := fw_ifn hE
                        refine fw_zast C R (by decide) hk_b16 (by decide) hi17 d_FW_learn_87 (fun H locs R => ?_)
                        obtain ⟨S18, eS18, hE⟩ := fw_let_ex hE
                        rw [← eS18] at R
                        clear eS18
                        cases hE
                        exact fw_vret C fw_X.rf rfl R d_FW_learn_88
                    · replace hE := fw_if_f hc hE
                      refine lv_aload_n hx hb d_FW_learn_66 rfl (lv_at hl 2 rfl) ?_
                      refine fw_getr C R ft_field_6_41 hk_a0 rfl rfl d_FW_learn_67 (fun hq => ?_) (fun b19 hq hk_b19 => ?_)
                      · replace hE := fw_om_none hq hE
                        refine lv_iload_n hx hb d_FW_learn_70 rfl (lv_at hl 1 rfl) ?_
                        cases hE
                      · replace hE := fw_om_some hq hE
                        refine lv_iload_n hx hb d_FW_learn_70 rfl (lv_at hl 1 rfl) ?_
                        obtain ⟨hi20, hE⟩ := fw_ifn hE
                        refine fw_iald C R (by decide) hk_b19 hi20 d_FW_learn_71 ?_
                        refine lv_iload_n hx hb d_FW_learn_72 rfl (lv_at hl 0 rfl) ?_
                        refine lv_iadd hx hb d_FW_learn_73 ?_
                        refine lv_iconst (v := 2) hx hb d_FW_learn_74 (by decide) ?_
                        refine lv_idiv hx hb d_FW_learn_75 (by decide) ?_
                        refine lv_goto (tgt := 80) hx hb d_FW_learn_76 (by decide) ?_
                        obtain ⟨hi21, hE⟩ := fw_ifn hE
                        refine fw_iast C R (by decide) hk_b7 hi21 d_FW_learn_80 (fun H locs R => ?_)
                        obtain ⟨S22, eS22, hE⟩ := fw_let_ex hE
                        rw [← eS22] at R
                        clear eS22
                        refine lv_aload_n hx hb d_FW_learn_81 rfl (lv_at hl 2 rfl) ?_
                        refine fw_getr C R ft_field_6_45 hk_a0 rfl rfl d_FW_learn_82 (fun hq => ?_) (fun b23 hq hk_b23 => ?_)
                        · replace hE := fw_om_none hq hE
                          refine lv_iload_n hx hb d_FW_learn_85 rfl (lv_at hl 1 rfl) ?_
                          refine lv_iconst (v := 1) hx hb d_FW_learn_86 (by decide) ?_
                          cases hE
                        · replace hE := fw_om_some hq hE
                          refine lv_iload_n hx hb d_FW_learn_85 rfl (lv_at hl 1 rfl) ?_
                          refine lv_iconst (v := 1) hx hb d_FW_learn_86 (by decide) ?_
                          obtain ⟨hi24, hE⟩ := fw_ifn hE
                          refine fw_zast C R (by decide) hk_b23 (by decide) hi24 d_FW_learn_87 (fun H locs R => ?_)
                          obtain ⟨S25, eS25, hE⟩ := fw_let_ex hE
                          rw [← eS25] at R
                          clear eS25
                          cases hE
                          exact fw_vret C fw_X.rf rfl R d_FW_learn_88
            · replace hE := fw_if_f hc hE
              cases hE
              exact fw_vret C fw_X.rf rfl R d_FW_learn_34
set_option maxHeartbeats 4000000 in
set_option maxRecDepth 100000 in
theorem ct_FW_hear (l : Launch) (G : fw_G) (kd0 : Nat → Option Nat) (S0 : fw_S) (a0 : Nat) (p1 : Option Nat) (p2 : Int32) (p3 : Nat) (r0 : Int32) (S' : fw_S) (hk_a0 : kd0 a0 = some 6) (hk_p1 : ∀ b, p1 = some b → kd0 b = some 0) (hk_p3 : kd0 p3 = some 5) (hE : F_FW_hear a0 p1 p2 p3 S0 = some (r0, S')) : fw_M l G y_FW_hear prog_1_method_26_code 5 (some .boolean) 4 89 0 0 kd0 S0 ([.ref a0, va_rf p1, .int p2, .ref p3] : List Value) (some (.int r0)) S' (fun k => k = kd0) := by
  refine fw_start (by decide) (Nat.le_of_ble_eq_true rfl) ?_
  intro p e s m below meth c ls C hnm R hl
  clear hnm
  have hx := C.1
  have hb := C.2.1
  have hl : lv_has ls 5 [(0, .ref a0), (1, va_rf p1), (2, .int p2), (3, .ref p3)] := hl
  unfold F_FW_hear at hE
  cases p1 with
  | none =>
    replace hE := fw_om_none rfl hE
    have hl : lv_has ls 5 [(0, .ref a0), (1, .null), (2, .int p2), (3, .ref p3)] := hl
    refine lv_aload_n hx hb d_FW_hear_0 rfl (lv_at hl 0 rfl) ?_
    refine lv_aload_nN hx hb d_FW_hear_1 rfl (lv_at hl 1 rfl) ?_
    cases hE
  | some b1 =>
    replace hE := fw_om_some rfl hE
    have hl : lv_has ls 5 [(0, .ref a0), (1, .ref b1), (2, .int p2), (3, .ref p3)] := hl
    have hk_b1 := hk_p1 b1 rfl
    refine lv_aload_n hx hb d_FW_hear_0 rfl (lv_at hl 0 rfl) ?_
    refine lv_aload_n hx hb d_FW_hear_1 rfl (lv_at hl 1 rfl) ?_
    refine fw_get (v := .int (fw_g S0 b1 1)) C R ft_field_6_229 hk_b1 rfl d_FW_hear_2 ?_
    obtain ⟨o2, hF, hE⟩ := fw_bind hE
    refine fw_callV (As := [.int (fw_g S0 b1 1)]) (rest := []) C R ft_callV_6_78 yi_FW_requestAt ys_FW_requestAt (ct_FW_requestAt l G kd0 S0 _ _ _ hk_a0 hF) hk_a0 (by decide) rfl rfl hl.1 rfl (lv_room (Nat.le_of_ble_eq_true rfl)) ⟨Nat.le_of_ble_eq_true rfl, Nat.le_of_ble_eq_true rfl⟩ ⟨Nat.le_of_ble_eq_true rfl, Nat.le_of_ble_eq_true rfl⟩ d_FW_hear_5 (fun H locs kd3 hxkd3 hP R => ?_)
    obtain ⟨hP0, hP⟩ := hP
    rw [hP0] at hP R; clear hP0 hxkd3
    cases o2 with
    | none =>
      replace hE := fw_om_none rfl hE
      refine lv_astoreN (lv' := [(4, .null), (0, .ref a0), (1, .ref b1), (2, .int p2), (3, .ref p3)]) hx hb d_FW_hear_8 hl (by decide) rfl (fun ls hl => ?_)
      refine lv_aloadN hx hb d_FW_hear_10 (lv_at hl 0 rfl) ?_
      refine lv_ifnullN (tgt := 25) hx hb d_FW_hear_12 (by decide) ?_
      refine lv_iconst (v := 0) hx hb d_FW_hear_25 (by decide) ?_
      cases hE
      exact fw_zret C (by decide) fw_X.rf rfl R d_FW_hear_26
    | some b4 =>
      replace hE := fw_om_some rfl hE
      have hk_b4 := hP _ rfl
      clear hP
      refine lv_astore (lv' := [(4, .ref b4), (0, .ref a0), (1, .ref b1), (2, .int p2), (3, .ref p3)]) hx hb d_FW_hear_8 hl (by decide) rfl (fun ls hl => ?_)
      refine lv_aload hx hb d_FW_hear_10 (lv_at hl 0 rfl) ?_
      refine lv_ifnull hx hb d_FW_hear_12 ?_
      refine lv_aload hx hb d_FW_hear_15 (lv_at hl 0 rfl) ?_
      refine lv_aload_n hx hb d_FW_hear_17 rfl (lv_at hl 2 rfl) ?_
      refine lv_iload_n hx hb d_FW_hear_18 rfl (lv_at hl 3 rfl) ?_
      obtain ⟨x5, hF, hE⟩ := fw_bind hE
      refine fw_callV (As := [.ref b1, .int p2]) (rest := []) C R ft_callV_6_232 yi_Request_waitsFor ys_Request_waitsFor (ct_Request_waitsFor l G kd0 S0 _ _ _ _ hk_b4 hk_b1 hF) hk_b4 (by decide) rfl rfl hl.1 rfl (lv_room (Nat.le_of_ble_eq_true rfl)) ⟨Nat.le_of_ble_eq_true rfl, Nat.le_of_ble_eq_true rfl⟩ ⟨Nat.le_of_ble_eq_true rfl, Nat.le_of_ble_eq_true rfl⟩ d_FW_hear_19 (fun H locs kd6 hxkd6 hP R => ?_)
      rw [hP] at R; clear hP hxkd6
      refine lv_if_ne (tgt := 27) hx hb d_FW_hear_22 (by decide) (fun hc => ?_) (fun hc => ?_)
      · replace hE := fw_if_f hc hE
        refine lv_aload_n hx hb d_FW_hear_27 rfl (lv_at hl 2 rfl) ?_
        refine fw_get (v := .int (fw_g S0 b1 0)) C R ft_field_6_214 hk_b1 rfl d_FW_hear_28 ?_
        refine lv_iconst (v := 4) hx hb d_FW_hear_31 (by decide) ?_
        refine lv_icmp_ne (tgt := 43) hx hb d_FW_hear_32 (by decide) (fun hc => ?_) (fun hc => ?_)
        · replace hE := fw_if_f hc hE
          refine lv_aload hx hb d_FW_hear_43 (lv_at hl 0 rfl) ?_
          refine lv_aload_n hx hb d_FW_hear_45 rfl (lv_at hl 2 rfl) ?_
          obtain ⟨S7, hF, hE⟩ := fw_bind hE
          refine fw_callV (As := [.ref b1]) (rest := []) C R ft_callV_6_239 yi_Request_takeRows ys_Request_takeRows (ct_Request_takeRows l G kd0 S0 _ _ _ hk_b4 hk_b1 hF) hk_b4 (by decide) rfl rfl hl.1 rfl (lv_room (Nat.le_of_ble_eq_true rfl)) ⟨Nat.le_of_ble_eq_true rfl, Nat.le_of_ble_eq_true rfl⟩ ⟨Nat.le_of_ble_eq_true rfl, Nat.le_of_ble_eq_true rfl⟩ d_FW_hear_46 (fun H locs kd8 hxkd8 hP R => ?_)
          rw [hP] at R; clear hP hxkd8
          refine lv_aload_n hx hb d_FW_hear_49 rfl (lv_at hl 2 rfl) ?_
          refine lv_iconst (v := 1) hx hb d_FW_hear_50 (by decide) ?_
          obtain ⟨x9, hF, hE⟩ := fw_bind hE
          refine fw_callV (As := [.int (1 : Int32)]) (rest := []) C R ft_callV_6_242 yi_Frame_byteAt ys_Frame_byteAt (ct_Frame_byteAt l G kd0 S7 _ _ _ hk_b1 hF) hk_b1 (by decide) rfl rfl hl.1 rfl (lv_room (Nat.le_of_ble_eq_true rfl)) ⟨Nat.le_of_ble_eq_true rfl, Nat.le_of_ble_eq_true rfl⟩ ⟨Nat.le_of_ble_eq_true rfl, Nat.le_of_ble_eq_true rfl⟩ d_FW_hear_51 (fun H locs kd10 hxkd10 hP R => ?_)
          rw [hP] at R; clear hP hxkd10
          refine lv_iconst (v := 1) hx hb d_FW_hear_54 (by decide) ?_
          refine lv_icmp_ne (tgt := 74) hx hb d_FW_hear_55 (by decide) (fun hc => ?_) (fun hc => ?_)
          · replace hE := fw_if_f hc hE
            refine lv_aload hx hb d_FW_hear_74 (lv_at hl 0 rfl) ?_
            obtain ⟨x11, hF, hE⟩ := fw_bind hE
            refine fw_callV (As := []) (rest := []) C R ft_callV_6_112 yi_Request_hasKeysLeft ys_Request_hasKeysLeft (ct_Request_hasKeysLeft l G kd0 S7 _ _ hk_b4 hF) hk_b4 (by decide) rfl rfl hl.1 rfl (lv_room (Nat.le_of_ble_eq_true rfl)) ⟨Nat.le_of_ble_eq_true rfl, Nat.le_of_ble_eq_true rfl⟩ ⟨Nat.le_of_ble_eq_true rfl, Nat.le_of_ble_eq_true rfl⟩ d_FW_hear_76 (fun H locs kd12 hxkd12 hP R => ?_)
            rw [hP] at R; clear hP hxkd12
            refine lv_if_eq (tgt := 98) hx hb d_FW_hear_79 (by decide) (fun hc => ?_) (fun hc => ?_)
            · replace hE := fw_if_t hc hE
              refine lv_aload hx hb d_FW_hear_98 (lv_at hl 0 rfl) ?_
              refine lv_iconst (v := 1) hx hb d_FW_hear_100 (by decide) ?_
              refine fw_puti C R ft_field_6_85 rfl hk_b4 d_FW_hear_101 (fun H locs R => ?_)
              obtain ⟨S13, eS13, hE⟩ := fw_let_ex hE
              rw [← eS13] at R
              clear eS13
              refine lv_aload_n hx hb d_FW_hear_104 rfl (lv_at hl 1 rfl) ?_
              refine lv_aload hx hb d_FW_hear_105 (lv_at hl 0 rfl) ?_
              obtain ⟨S14, hF, hE⟩ := fw_bind hE
              refine fw_callV (As := [.ref b4]) (rest := []) C R ft_callV_6_248 yi_FW_learn ys_FW_learn (ct_FW_learn l G kd0 S13 _ _ _ hk_a0 hk_b4 hF) hk_a0 (by decide) rfl rfl hl.1 rfl (lv_room (Nat.le_of_ble_eq_true rfl)) ⟨Nat.le_of_ble_eq_true rfl, Nat.le_of_ble_eq_true rfl⟩ ⟨Nat.le_of_ble_eq_true rfl, Nat.le_of_ble_eq_true rfl⟩ d_FW_hear_107 (fun H locs kd15 hxkd15 hP R => ?_)
              rw [hP] at R; clear hP hxkd15
              refine lv_iconst (v := 1) hx hb d_FW_hear_110 (by decide) ?_
              cases hE
              exact fw_zret C (by decide) fw_X.rf rfl R d_FW_hear_111
            · replace hE := fw_if_f hc hE
              refine lv_aload hx hb d_FW_hear_82 (lv_at hl 0 rfl) ?_
              obtain ⟨S16, hF, hE⟩ := fw_bind hE
              refine fw_callV (As := []) (rest := []) C R ft_callV_6_116 yi_Request_writeAsk ys_Request_writeAsk (ct_Request_writeAsk l G kd0 S7 _ _ hk_b4 hF) hk_b4 (by decide) rfl rfl hl.1 rfl (lv_room (Nat.le_of_ble_eq_true rfl)) ⟨Nat.le_of_ble_eq_true rfl, Nat.le_of_ble_eq_true rfl⟩ ⟨Nat.le_of_ble_eq_true rfl, Nat.le_of_ble_eq_true rfl⟩ d_FW_hear_84 (fun H locs kd17 hxkd17 hP R => ?_)
              rw [hP] at R; clear hP hxkd17
              refine lv_aload_n hx hb d_FW_hear_87 rfl (lv_at hl 1 rfl) ?_
              refine lv_aload hx hb d_FW_hear_88 (lv_at hl 0 rfl) ?_
              refine lv_aload_n hx hb d_FW_hear_90 rfl (lv_at hl 4 rfl) ?_
              obtain ⟨x19, S18, hF, hE⟩ := fw_b2_ex hE
              refine fw_callV (As := [.ref b4, .ref p3]) (rest := []) C R ft_callV_6_88 yi_FW_sendFirst ys_FW_sendFirst (ct_FW_sendFirst l G kd0 S16 _ _ _ _ _ hk_a0 hk_b4 hk_p3 hF) hk_a0 (by decide) rfl rfl hl.1 rfl (lv_room (Nat.le_of_ble_eq_true rfl)) ⟨Nat.le_of_ble_eq_true rfl, Nat.le_of_ble_eq_true rfl⟩ ⟨Nat.le_of_ble_eq_true rfl, Nat.le_of_ble_eq_true rfl⟩ d_FW_hear_91 (fun H locs kd20 hxkd20 hP R => ?_)
              rw [hP] at R; clear hP hxkd20
              refine lv_pop hx hb d_FW_hear_94 rfl ?_
              refine lv_goto (tgt := 110) hx hb d_FW_hear_95 (by decide) ?_
              refine lv_iconst (v := 1) hx hb d_FW_hear_110 (by decide) ?_
              cases hE
              exact fw_zret C (by decide) fw_X.rf rfl R d_FW_hear_111
          · replace hE := fw_if_t hc hE
            refine lv_aload hx hb d_FW_hear_58 (lv_at hl 0 rfl) ?_
            obtain ⟨S21, hF, hE⟩ := fw_bind hE
            refine fw_callV (As := []) (rest := []) C R ft_callV_6_245 yi_Request_writeMore ys_Request_writeMore (ct_Request_writeMore l G kd0 S7 _ _ hk_b4 hF) hk_b4 (by decide) rfl rfl hl.1 rfl (lv_room (Nat.le_of_ble_eq_true rfl)) ⟨Nat.le_of_ble_eq_true rfl, Nat.le_of_ble_eq_true rfl⟩ ⟨Nat.le_of_ble_eq_true rfl, Nat.le_of_ble_eq_true rfl⟩ d_FW_hear_60 (fun H locs kd22 hxkd22 hP R => ?_)
            rw [hP] at R; clear hP hxkd22
            refine lv_aload_n hx hb d_FW_hear_63 rfl (lv_at hl 1 rfl) ?_
            refine lv_aload hx hb d_FW_hear_64 (lv_at hl 0 rfl) ?_
            refine lv_aload_n hx hb d_FW_hear_66 rfl (lv_at hl 4 rfl) ?_
            obtain ⟨x24, S23, hF, hE⟩ := fw_b2_ex hE
            refine fw_callV (As := [.ref b4, .ref p3]) (rest := []) C R ft_callV_6_88 yi_FW_sendFirst ys_FW_sendFirst (ct_FW_sendFirst l G kd0 S21 _ _ _ _ _ hk_a0 hk_b4 hk_p3 hF) hk_a0 (by decide) rfl rfl hl.1 rfl (lv_room (Nat.le_of_ble_eq_true rfl)) ⟨Nat.le_of_ble_eq_true rfl, Nat.le_of_ble_eq_true rfl⟩ ⟨Nat.le_of_ble_eq_true rfl, Nat.le_of_ble_eq_true rfl⟩ d_FW_hear_67 (fun H locs kd25 hxkd25 hP R => ?_)
            rw [hP] at R; clear hP hxkd25
            refine lv_pop hx hb d_FW_hear_70 rfl ?_
            refine lv_goto (tgt := 110) hx hb d_FW_hear_71 (by decide) ?_
            refine lv_iconst (v := 1) hx hb d_FW_hear_110 (by decide) ?_
            cases hE
            exact fw_zret C (by decide) fw_X.rf rfl R d_FW_hear_111
        · replace hE := fw_if_t hc hE
          refine lv_aload hx hb d_FW_hear_35 (lv_at hl 0 rfl) ?_
          refine lv_iconst (v := 3) hx hb d_FW_hear_37 (by decide) ?_
          obtain ⟨S26, hF, hE⟩ := fw_bind hE
          refine fw_callV (As := [.int (3 : Int32)]) (rest := []) C R ft_callV_6_236 yi_Request_fail ys_Request_fail (ct_Request_fail l G kd0 S0 _ _ _ hk_b4 hF) hk_b4 (by decide) rfl rfl hl.1 rfl (lv_room (Nat.le_of_ble_eq_true rfl)) ⟨Nat.le_of_ble_eq_true rfl, Nat.le_of_ble_eq_true rfl⟩ ⟨Nat.le_of_ble_eq_true rfl, Nat.le_of_ble_eq_true rfl⟩ d_FW_hear_38 (fun H locs kd27 hxkd27 hP R => ?_)
          rw [hP] at R; clear hP hxkd27
          refine lv_iconst (v := 1) hx hb d_FW_hear_41 (by decide) ?_
          cases hE
          exact fw_zret C (by decide) fw_X.rf rfl R d_FW_hear_42
      · replace hE := fw_if_t hc hE
        refine lv_iconst (v := 0) hx hb d_FW_hear_25 (by decide) ?_
        cases hE
        exact fw_zret C (by decide) fw_X.rf rfl R d_FW_hear_26
