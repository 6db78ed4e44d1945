set_option maxHeartbeats 4000000 in
set_option maxRecDepth 100000 in
theorem ct_Request_takeRows (l : Launch) (G : fw_G) (kd0 : Nat → Option Nat) (S0 : fw_S) (a0 : Nat) (p1 : Nat) (S' : fw_S) (hk_a0 : kd0 a0 = some 3) (hk_p1 : kd0 p1 = some 0) (hE : F_Request_takeRows a0 p1 S0 = some S') : fw_M l G y_Request_takeRows prog_5_method_8_code 3 none 1 22 0 0 kd0 S0 ([.ref a0, .ref p1] : List Value) none S' (fun k => k = kd0) := by
  refine fw_start (by decide) (Nat.le_of_ble_eq_true rfl) ?_
  intro p e s m below meth c ls C hnm R hl
  clear hnm
  have hx := C.1
  have hb := C.2.1
  have hl : lv_has ls 3 [(0, .ref a0), (1, .ref p1)] := hl
  have h_l2 : ∀ (n : Nat), ∀ v0 : Nat, ∀ v1 : Nat, ∀ v2 : Int32, ∀ S0 : fw_S, kd0 v0 = some 3 → kd0 v1 = some 0 → ∀ (H : Heap) (locs : List Loc) (ls : Array Slot), fw_R G kd0 S0 H locs → lv_has ls 3 [(0, .ref v0), (1, .ref v1), (2, .int v2)] → F_Request_takeRows_l2 n v0 v1 v2 S0 = some S' → W p l e { frames := 1, cells := 0, slots := 0, locals := 22 } s m ([.ref a0, .ref p1] : List Value).toArray below meth c H locs 0 0 (MQ below (fw_Q G kd0 none S' (fun k => k = kd0)) ([.ref a0, .ref p1] : List Value).toArray s 0 0 (fw_A G)) (F0 m 2 ls []) := by
    intro n
    induction n with
    | zero =>
      intro v0 v1 v2 S0 hk_v0 hk_v1 H locs ls R hl hE
      rw [F_Request_takeRows_l2] at hE
      cases hE
    | succ n ih =>
      intro v0 v1 v2 S0 hk_v0 hk_v1 H locs ls R hl hE
      rw [F_Request_takeRows_l2] at hE
      refine lv_iload_n hx hb d_Request_takeRows_2 rfl (lv_at hl 2 rfl) ?_
      refine lv_iconst (v := 1) hx hb d_Request_takeRows_3 (by decide) ?_
      refine lv_iadd hx hb d_Request_takeRows_4 ?_
      refine lv_aload_n hx hb d_Request_takeRows_5 rfl (lv_at hl 1 rfl) ?_
      refine fw_get (v := .int (fw_g S0 v1 2)) C R ft_field_3_114 hk_v1 rfl d_Request_takeRows_6 ?_
      refine lv_icmp_ge (tgt := 48) hx hb d_Request_takeRows_9 (by decide) (fun hc => ?_) (fun hc => ?_)
      · replace hE := fw_if_t hc hE
        cases hE
        exact fw_vret C fw_X.rf rfl R d_Request_takeRows_48
      · replace hE := fw_if_f hc hE
        refine lv_aload_n hx hb d_Request_takeRows_12 rfl (lv_at hl 0 rfl) ?_
        refine fw_getr C R ft_field_3_23 hk_v0 rfl rfl d_Request_takeRows_13 (fun hq => ?_) (fun b1 hq hk_b1 => ?_)
        · replace hE := fw_om_none hq hE
          refine lv_aload_n hx hb d_Request_takeRows_16 rfl (lv_at hl 1 rfl) ?_
          refine lv_iload_n hx hb d_Request_takeRows_17 rfl (lv_at hl 2 rfl) ?_
          obtain ⟨x2, hF, hE⟩ := fw_bind hE
          refine fw_callV (As := [.int v2]) (rest := [.null]) C R ft_callV_3_108 yi_Frame_byteAt ys_Frame_byteAt (ct_Frame_byteAt l G kd0 S0 _ _ _ hk_v1 hF) hk_v1 (by decide) rfl rfl hl.1 rfl (lv_room (Nat.le_of_ble_eq_true rfl)) ⟨Nat.le_of_ble_eq_true rfl, Nat.le_of_ble_eq_true rfl⟩ ⟨Nat.le_of_ble_eq_true rfl, Nat.le_of_ble_eq_true rfl⟩ d_Request_takeRows_18 (fun H locs kd3 hxkd3 hP R => ?_)
          rw [hP] at R; clear hP hxkd3
          refine lv_aload_n hx hb d_Request_takeRows_21 rfl (lv_at hl 1 rfl) ?_
          refine lv_iload_n hx hb d_Request_takeRows_22 rfl (lv_at hl 2 rfl) ?_
          refine lv_iconst (v := 1) hx hb d_Request_takeRows_23 (by decide) ?_
          refine lv_iadd hx hb d_Request_takeRows_24 ?_
          obtain ⟨x4, hF, hE⟩ := fw_bind hE
          refine fw_callV (As := [.int (v2 + (1 : Int32))]) (rest := [.int x2, .null]) C R ft_callV_3_108 yi_Frame_byteAt ys_Frame_byteAt (ct_Frame_byteAt l G kd0 S0 _ _ _ hk_v1 hF) hk_v1 (by decide) rfl rfl hl.1 rfl (lv_room (Nat.le_of_ble_eq_true rfl)) ⟨Nat.le_of_ble_eq_true rfl, Nat.le_of_ble_eq_true rfl⟩ ⟨Nat.le_of_ble_eq_true rfl, Nat.le_of_ble_eq_true rfl⟩ d_Request_takeRows_25 (fun H locs kd5 hxkd5 hP R => ?_)
          rw [hP] at R; clear hP hxkd5
          cases hE
        · replace hE := fw_om_some hq hE
          refine lv_aload_n hx hb d_Request_takeRows_16 rfl (lv_at hl 1 rfl) ?_
          refine lv_iload_n hx hb d_Request_takeRows_17 rfl (lv_at hl 2 rfl) ?_
          obtain ⟨x6, hF, hE⟩ := fw_bind hE
          refine fw_callV (As := [.int v2]) (rest := [.ref b1]) C R ft_callV_3_108 yi_Frame_byteAt ys_Frame_byteAt (ct_Frame_byteAt l G kd0 S0 _ _ _ hk_v1 hF) hk_v1 (by decide) rfl rfl hl.1 rfl (lv_room (Nat.le_of_ble_eq_true rfl)) ⟨Nat.le_of_ble_eq_true rfl, Nat.le_of_ble_eq_true rfl⟩ ⟨Nat.le_of_ble_eq_true rfl, Nat.le_of_ble_eq_true rfl⟩ d_Request_takeRows_18 (fun H locs kd7 hxkd7 hP R => ?_)
          rw [hP] at R; clear hP hxkd7
          refine lv_aload_n hx hb d_Request_takeRows_21 rfl (lv_at hl 1 rfl) ?_
          refine lv_iload_n hx hb d_Request_takeRows_22 rfl (lv_at hl 2 rfl) ?_
          refine lv_iconst (v := 1) hx hb d_Request_takeRows_23 (by decide) ?_
          refine lv_iadd hx hb d_Request_takeRows_24 ?_
          obtain ⟨x8, hF, hE⟩ := fw_bind hE
          refine fw_callV (As := [.int (v2 + (1 : Int32))]) (rest := [.int x6, .ref b1]) C R ft_callV_3_108 yi_Frame_byteAt ys_Frame_byteAt (ct_Frame_byteAt l G kd0 S0 _ _ _ hk_v1 hF) hk_v1 (by decide) rfl rfl hl.1 rfl (lv_room (Nat.le_of_ble_eq_true rfl)) ⟨Nat.le_of_ble_eq_true rfl, Nat.le_of_ble_eq_true rfl⟩ ⟨Nat.le_of_ble_eq_true rfl, Nat.le_of_ble_eq_true rfl⟩ d_Request_takeRows_25 (fun H locs kd9 hxkd9 hP R => ?_)
          rw [hP] at R; clear hP hxkd9
          obtain ⟨x11, S10, hF, hE⟩ := fw_b2_ex hE
          refine fw_callV (As := [.int x6, .int x8]) (rest := []) C R ft_callV_3_88 yi_Pairs_add ys_Pairs_add (ct_Pairs_add l G kd0 S0 _ _ _ _ _ hk_b1 hF) hk_b1 (by decide) rfl rfl hl.1 rfl (lv_room (Nat.le_of_ble_eq_true rfl)) ⟨Nat.le_of_ble_eq_true rfl, Nat.le_of_ble_eq_true rfl⟩ ⟨Nat.le_of_ble_eq_true rfl, Nat.le_of_ble_eq_true rfl⟩ d_Request_takeRows_28 (fun H locs kd12 hxkd12 hP R => ?_)
          rw [hP] at R; clear hP hxkd12
          refine lv_pop hx hb d_Request_takeRows_31 rfl ?_
          refine lv_aload_n hx hb d_Request_takeRows_32 rfl (lv_at hl 0 rfl) ?_
          refine lv_dup hx hb d_Request_takeRows_33 rfl ?_
          refine fw_get (v := .int (fw_g S10 v0 8)) C R ft_field_3_27 hk_v0 rfl d_Request_takeRows_34 ?_
          refine lv_iconst (v := 1) hx hb d_Request_takeRows_37 (by decide) ?_
          refine lv_iadd hx hb d_Request_takeRows_38 ?_
          refine fw_puti C R ft_field_3_27 rfl hk_v0 d_Request_takeRows_39 (fun H locs R => ?_)
          obtain ⟨S13, eS13, hE⟩ := fw_let_ex hE
          rw [← eS13] at R
          clear eS13
          refine lv_iinc (v := (v2 + (2 : Int32))) (lv' := [(2, .int (v2 + (2 : Int32))), (0, .ref v0), (1, .ref v1)]) hx hb d_Request_takeRows_42 hl (k := 2) rfl rfl (by decide) rfl (fun ls hl => ?_)
          refine lv_goto (tgt := 2) hx hb d_Request_takeRows_45 (by decide) ?_
          exact ih _ _ _ _ hk_v0 hk_v1 _ _ _ R (lv_sub hl [1, 2, 0] rfl) hE
  unfold F_Request_takeRows at hE
  refine lv_iconst (v := 2) hx hb d_Request_takeRows_0 (by decide) ?_
  refine lv_istore_n (lv' := [(2, .int (2 : Int32)), (0, .ref a0), (1, .ref p1)]) hx hb d_Request_takeRows_1 rfl hl (by decide) rfl (fun ls hl => ?_)
  exact h_l2 _ _ _ _ _ hk_a0 hk_p1 _ _ _ R (lv_sub hl [1, 2, 0] rfl) hE
set_option maxHeartbeats 4000000 in
set_option maxRecDepth 100000 in
theorem ct_Request_fail (l : Launch) (G : fw_G) (kd0 : Nat → Option Nat) (S0 : fw_S) (a0 : Nat) (p1 : Int32) (S' : fw_S) (hk_a0 : kd0 a0 = some 3) (hE : F_Request_fail a0 p1 S0 = some S') : fw_M l G y_Request_fail prog_5_method_9_code 2 none 1 20 0 0 kd0 S0 ([.ref a0, .int p1] : List Value) none S' (fun k => k = kd0) := by
  refine fw_start (by decide) (Nat.le_of_ble_eq_true rfl) ?_
  intro p e s m below meth c ls C hnm R hl
  clear hnm
  have hx := C.1
  have hb := C.2.1
  have hl : lv_has ls 2 [(0, .ref a0), (1, .int p1)] := hl
  unfold F_Request_fail at hE
  refine lv_aload_n hx hb d_Request_fail_0 rfl (lv_at hl 0 rfl) ?_
  refine lv_iload_n hx hb d_Request_fail_1 rfl (lv_at hl 1 rfl) ?_
  refine fw_puti C R ft_field_3_49 rfl hk_a0 d_Request_fail_2 (fun H locs R => ?_)
  obtain ⟨S1, eS1, hE⟩ := fw_let_ex hE
  rw [← eS1] at R
  clear eS1
  refine lv_aload_n hx hb d_Request_fail_5 rfl (lv_at hl 0 rfl) ?_
  refine fw_get (v := .int (fw_g S1 a0 1)) C R ft_field_3_58 hk_a0 rfl d_Request_fail_6 ?_
  refine lv_if_eq (tgt := 27) hx hb d_Request_fail_9 (by decide) (fun hc => ?_) (fun hc => ?_)
  · replace hE := fw_if_t hc hE
    refine lv_aload_n hx hb d_Request_fail_27 rfl (lv_at hl 0 rfl) ?_
    refine lv_iconst (v := 2) hx hb d_Request_fail_28 (by decide) ?_
    refine fw_puti C R ft_field_3_46 rfl hk_a0 d_Request_fail_29 (fun H locs R => ?_)
    obtain ⟨S2, eS2, hE⟩ := fw_let_ex hE
    rw [← eS2] at R
    clear eS2
    cases hE
    exact fw_vret C fw_X.rf rfl R d_Request_fail_32
  · replace hE := fw_if_f hc hE
    refine lv_aload_n hx hb d_Request_fail_12 rfl (lv_at hl 0 rfl) ?_
    refine lv_iconst (v := 1) hx hb d_Request_fail_13 (by decide) ?_
    refine fw_puti C R ft_field_3_46 rfl hk_a0 d_Request_fail_14 (fun H locs R => ?_)
    obtain ⟨S3, eS3, hE⟩ := fw_let_ex hE
    rw [← eS3] at R
    clear eS3
    refine lv_aload_n hx hb d_Request_fail_17 rfl (lv_at hl 0 rfl) ?_
    refine fw_getr C R ft_field_3_23 hk_a0 rfl rfl d_Request_fail_18 (fun hq => ?_) (fun b4 hq hk_b4 => ?_)
    · replace hE := fw_om_none hq hE
      cases hE
    · replace hE := fw_om_some hq hE
      obtain ⟨S5, hF, hE⟩ := fw_bind hE
      refine fw_callV (As := []) (rest := []) C R ft_callV_3_117 yi_Pairs_clear ys_Pairs_clear (ct_Pairs_clear l G kd0 S3 _ _ hk_b4 hF) hk_b4 (by decide) rfl rfl hl.1 rfl (lv_room (Nat.le_of_ble_eq_true rfl)) ⟨Nat.le_of_ble_eq_true rfl, Nat.le_of_ble_eq_true rfl⟩ ⟨Nat.le_of_ble_eq_true rfl, Nat.le_of_ble_eq_true rfl⟩ d_Request_fail_21 (fun H locs kd6 hxkd6 hP R => ?_)
      rw [hP] at R; clear hP hxkd6
      refine lv_goto (tgt := 32) hx hb d_Request_fail_24 (by decide) ?_
      cases hE
      exact fw_vret C fw_X.rf rfl R d_Request_fail_32
set_option maxHeartbeats 4000000 in
set_option maxRecDepth 100000 in
theorem ct_Request_joinedSize (l : Launch) (G : fw_G) (kd0 : Nat → Option Nat) (S0 : fw_S) (a0 : Nat) (r0 : Int32) (hk_a0 : kd0 a0 = some 3) (hE : F_Request_joinedSize a0 S0 = some r0) : fw_M l G y_Request_joinedSize prog_5_method_10_code 4 (some .int) 1 21 0 0 kd0 S0 ([.ref a0] : List Value) (some (.int r0)) S0 (fun k => k = kd0) := by
  refine fw_start (by decide) (Nat.le_of_ble_eq_true rfl) ?_
  intro p e s m below meth c ls C hnm R hl
  clear hnm
  have hx := C.1
  have hb := C.2.1
  have hl : lv_has ls 4 [(0, .ref a0)] := hl
  have h_l42 : ∀ (k29 : Nat → Int32 → Int32 → Option (Int32)), (∀ v0 : Nat, ∀ v1 : Int32, ∀ v2 : Int32, kd0 v0 = some 3 → ∀ (H : Heap) (locs : List Loc) (ls : Array Slot), fw_R G kd0 S0 H locs → lv_has ls 4 [(0, .ref v0), (1, .int v1), (2, .int v2)] → k29 v0 v1 v2 = some r0 → W p l e { frames := 1, cells := 0, slots := 0, locals := 21 } s m ([.ref a0] : List Value).toArray below meth c H locs 0 0 (MQ below (fw_Q G kd0 (some (.int r0)) S0 (fun k => k = kd0)) ([.ref a0] : List Value).toArray s 0 0 (fw_A G)) (F0 m 29 ls [])) → ∀ (n : Nat), ∀ v0 : Nat, ∀ v1 : Int32, ∀ v2 : Int32, ∀ v3 : Int32, kd0 v0 = some 3 → ∀ (H : Heap) (locs : List Loc) (ls : Array Slot), fw_R G kd0 S0 H locs → lv_has ls 4 [(0, .ref v0), (1, .int v1), (2, .int v2), (3, .int v3)] → F_Request_joinedSize_l42 S0 k29 n v0 v1 v2 v3 = some r0 → W p l e { frames := 1, cells := 0, slots := 0, locals := 21 } s m ([.ref a0] : List Value).toArray below meth c H locs 0 0 (MQ below (fw_Q G kd0 (some (.int r0)) S0 (fun k => k = kd0)) ([.ref a0] : List Value).toArray s 0 0 (fw_A G)) (F0 m 42 ls []) := by
    intro k29 hk29 n
    induction n with
    | zero =>
      intro v0 v1 v2 v3 hk_v0 H locs ls R hl hE
      rw [F_Request_joinedSize_l42] at hE
      cases hE
    | succ n ih =>
      intro v0 v1 v2 v3 hk_v0 H locs ls R hl hE
      rw [F_Request_joinedSize_l42] at hE
      refine lv_iload_n hx hb d_Request_joinedSize_42 rfl (lv_at hl 3 rfl) ?_
      refine lv_aload_n hx hb d_Request_joinedSize_43 rfl (lv_at hl 0 rfl) ?_
      refine fw_getr C R ft_field_3_23 hk_v0 rfl rfl d_Request_joinedSize_44 (fun hq => ?_) (fun b2 hq hk_b2 => ?_)
      · replace hE := fw_om_none hq hE
        cases hE
      · replace hE := fw_om_some hq hE
        refine fw_get (v := .int (fw_g S0 b2 2)) C R ft_field_3_65 hk_b2 rfl d_Request_joinedSize_47 ?_
        refine lv_icmp_ge (tgt := 81) hx hb d_Request_joinedSize_50 (by decide) (fun hc => ?_) (fun hc => ?_)
        · replace hE := fw_if_t hc hE
          refine lv_iinc (v := (v2 + (1 : Int32))) (lv' := [(2, .int (v2 + (1 : Int32))), (0, .ref v0), (1, .int v1), (3, .int v3)]) hx hb d_Request_joinedSize_81 hl (k := 2) rfl rfl (by decide) rfl (fun ls hl => ?_)
          refine lv_goto (tgt := 29) hx hb d_Request_joinedSize_84 (by decide) ?_
          exact hk29 _ _ _ hk_v0 _ _ _ R (lv_sub hl [1, 2, 0] rfl) hE
        · replace hE := fw_if_f hc hE
          refine lv_aload_n hx hb d_Request_joinedSize_53 rfl (lv_at hl 0 rfl) ?_
          refine fw_getr C R ft_field_3_23 hk_v0 rfl rfl d_Request_joinedSize_54 (fun hq => ?_) (fun b3 hq hk_b3 => ?_)
          · replace hE := fw_om_none hq hE
            refine lv_iload_n hx hb d_Request_joinedSize_57 rfl (lv_at hl 3 rfl) ?_
            cases hE
          · replace hE := fw_om_some hq hE
            refine lv_iload_n hx hb d_Request_joinedSize_57 rfl (lv_at hl 3 rfl) ?_
            obtain ⟨x4, hF, hE⟩ := fw_bind hE
            refine fw_callV (As := [.int v3]) (rest := []) C R ft_callV_3_81 yi_Pairs_keyAt ys_Pairs_keyAt (ct_Pairs_keyAt l G kd0 S0 _ _ _ hk_b3 hF) hk_b3 (by decide) rfl rfl hl.1 rfl (lv_room (Nat.le_of_ble_eq_true rfl)) ⟨Nat.le_of_ble_eq_true rfl, Nat.le_of_ble_eq_true rfl⟩ ⟨Nat.le_of_ble_eq_true rfl, Nat.le_of_ble_eq_true rfl⟩ d_Request_joinedSize_58 (fun H locs kd5 hxkd5 hP R => ?_)
            rw [hP] at R; clear hP hxkd5
            refine lv_aload_n hx hb d_Request_joinedSize_61 rfl (lv_at hl 0 rfl) ?_
            refine fw_getr C R ft_field_3_68 hk_v0 rfl rfl d_Request_joinedSize_62 (fun hq => ?_) (fun b6 hq hk_b6 => ?_)
            · replace hE := fw_om_none hq hE
              refine lv_iload_n hx hb d_Request_joinedSize_65 rfl (lv_at hl 2 rfl) ?_
              cases hE
            · replace hE := fw_om_some hq hE
              refine lv_iload_n hx hb d_Request_joinedSize_65 rfl (lv_at hl 2 rfl) ?_
              obtain ⟨x7, hF, hE⟩ := fw_bind hE
              refine fw_callV (As := [.int v2]) (rest := [.int x4]) C R ft_callV_3_81 yi_Pairs_keyAt ys_Pairs_keyAt (ct_Pairs_keyAt l G kd0 S0 _ _ _ hk_b6 hF) hk_b6 (by decide) rfl rfl hl.1 rfl (lv_room (Nat.le_of_ble_eq_true rfl)) ⟨Nat.le_of_ble_eq_true rfl, Nat.le_of_ble_eq_true rfl⟩ ⟨Nat.le_of_ble_eq_true rfl, Nat.le_of_ble_eq_true rfl⟩ d_Request_joinedSize_66 (fun H locs kd8 hxkd8 hP R => ?_)
              rw [hP] at R; clear hP hxkd8
              refine lv_icmp_ne (tgt := 75) hx hb d_Request_joinedSize_69 (by decide) (fun hc => ?_) (fun hc => ?_)
              · replace hE := fw_if_f hc hE
                refine lv_iinc (v := (v3 + (1 : Int32))) (lv' := [(3, .int (v3 + (1 : Int32))), (0, .ref v0), (1, .int v1), (2, .int v2)]) hx hb d_Request_joinedSize_75 hl (k := 3) rfl rfl (by decide) rfl (fun ls hl => ?_)
                refine lv_goto (tgt := 42) hx hb d_Request_joinedSize_78 (by decide) ?_
                exact ih _ _ _ _ hk_v0 _ _ _ R (lv_sub hl [1, 2, 3, 0] rfl) hE
              · replace hE := fw_if_t hc hE
                refine lv_iinc (v := (v1 + (1 : Int32))) (lv' := [(1, .int (v1 + (1 : Int32))), (0, .ref v0), (2, .int v2), (3, .int v3)]) hx hb d_Request_joinedSize_72 hl (k := 1) rfl rfl (by decide) rfl (fun ls hl => ?_)
                refine lv_iinc (v := (v3 + (1 : Int32))) (lv' := [(3, .int (v3 + (1 : Int32))), (1, .int (v1 + (1 : Int32))), (0, .ref v0), (2, .int v2)]) hx hb d_Request_joinedSize_75 hl (k := 3) rfl rfl (by decide) rfl (fun ls hl => ?_)
                refine lv_goto (tgt := 42) hx hb d_Request_joinedSize_78 (by decide) ?_
                exact ih _ _ _ _ hk_v0 _ _ _ R (lv_sub hl [2, 1, 3, 0] rfl) hE
  have h_l29 : ∀ (n : Nat), ∀ v0 : Nat, ∀ v1 : Int32, ∀ v2 : Int32, kd0 v0 = some 3 → ∀ (H : Heap) (locs : List Loc) (ls : Array Slot), fw_R G kd0 S0 H locs → lv_has ls 4 [(0, .ref v0), (1, .int v1), (2, .int v2)] → F_Request_joinedSize_l29 S0 n v0 v1 v2 = some r0 → W p l e { frames := 1, cells := 0, slots := 0, locals := 21 } s m ([.ref a0] : List Value).toArray below meth c H locs 0 0 (MQ below (fw_Q G kd0 (some (.int r0)) S0 (fun k => k = kd0)) ([.ref a0] : List Value).toArray s 0 0 (fw_A G)) (F0 m 29 ls []) := by
    intro n
    induction n with
    | zero =>
      intro v0 v1 v2 hk_v0 H locs ls R hl hE
      rw [F_Request_joinedSize_l29] at hE
      cases hE
    | succ n ih =>
      intro v0 v1 v2 hk_v0 H locs ls R hl hE
      rw [F_Request_joinedSize_l29] at hE
      refine lv_iload_n hx hb d_Request_joinedSize_29 rfl (lv_at hl 2 rfl) ?_
      refine lv_aload_n hx hb d_Request_joinedSize_30 rfl (lv_at hl 0 rfl) ?_
      refine fw_getr C R ft_field_3_68 hk_v0 rfl rfl d_Request_joinedSize_31 (fun hq => ?_) (fun b1 hq hk_b1 => ?_)
      · replace hE := fw_om_none hq hE
        cases hE
      · replace hE := fw_om_some hq hE
        refine fw_get (v := .int (fw_g S0 b1 2)) C R ft_field_3_65 hk_b1 rfl d_Request_joinedSize_34 ?_
        refine lv_icmp_ge (tgt := 87) hx hb d_Request_joinedSize_37 (by decide) (fun hc => ?_) (fun hc => ?_)
        · replace hE := fw_if_t hc hE
          refine lv_iload_n hx hb d_Request_joinedSize_87 rfl (lv_at hl 1 rfl) ?_
          cases hE
          exact fw_iret C fw_X.rf rfl R d_Request_joinedSize_88
        · replace hE := fw_if_f hc hE
          refine lv_iconst (v := 0) hx hb d_Request_joinedSize_40 (by decide) ?_
          refine lv_istore_n (lv' := [(3, .int (0 : Int32)), (0, .ref v0), (1, .int v1), (2, .int v2)]) hx hb d_Request_joinedSize_41 rfl hl (by decide) rfl (fun ls hl => ?_)
          exact h_l42 _ ih _ _ _ _ _ hk_v0 _ _ _ R (lv_sub hl [1, 2, 3, 0] rfl) hE
  unfold F_Request_joinedSize at hE
  refine lv_aload_n hx hb d_Request_joinedSize_0 rfl (lv_at hl 0 rfl) ?_
  refine fw_get (v := .int (fw_g S0 a0 14)) C R ft_field_3_46 hk_a0 rfl d_Request_joinedSize_1 ?_
  refine lv_iconst (v := 1) hx hb d_Request_joinedSize_4 (by decide) ?_
  refine lv_icmp_eq (tgt := 10) hx hb d_Request_joinedSize_5 (by decide) (fun hc => ?_) (fun hc => ?_)
  · replace hE := fw_if_t hc hE
    refine lv_aload_n hx hb d_Request_joinedSize_10 rfl (lv_at hl 0 rfl) ?_
    refine fw_get (v := .int (fw_g S0 a0 15)) C R ft_field_3_49 hk_a0 rfl d_Request_joinedSize_11 ?_
    refine lv_if_eq (tgt := 25) hx hb d_Request_joinedSize_14 (by decide) (fun hc => ?_) (fun hc => ?_)
    · replace hE := fw_if_t hc hE
      refine lv_iconst (v := 0) hx hb d_Request_joinedSize_25 (by decide) ?_
      refine lv_istore_n (lv' := [(1, .int (0 : Int32)), (0, .ref a0)]) hx hb d_Request_joinedSize_26 rfl hl (by decide) rfl (fun ls hl => ?_)
      refine lv_iconst (v := 0) hx hb d_Request_joinedSize_27 (by decide) ?_
      refine lv_istore_n (lv' := [(2, .int (0 : Int32)), (1, .int (0 : Int32)), (0, .ref a0)]) hx hb d_Request_joinedSize_28 rfl hl (by decide) rfl (fun ls hl => ?_)
      exact h_l29 _ _ _ _ hk_a0 _ _ _ R (lv_sub hl [2, 1, 0] rfl) hE
    · replace hE := fw_if_f hc hE
      refine lv_aload_n hx hb d_Request_joinedSize_17 rfl (lv_at hl 0 rfl) ?_
      refine fw_getr C R ft_field_3_68 hk_a0 rfl rfl d_Request_joinedSize_18 (fun hq => ?_) (fun b9 hq hk_b9 => ?_)
      · replace hE := fw_om_none hq hE
        cases hE
      · replace hE := fw_om_some hq hE
        refine fw_get (v := .int (fw_g S0 b9 2)) C R ft_field_3_65 hk_b9 rfl d_Request_joinedSize_21 ?_
        cases hE
        exact fw_iret C fw_X.rf rfl R d_Request_joinedSize_24
  · replace hE := fw_if_f hc hE
    refine lv_iconst (v := 0) hx hb d_Request_joinedSize_8 (by decide) ?_
    cases hE
    exact fw_iret C fw_X.rf rfl R d_Request_joinedSize_9
set_option maxHeartbeats 4000000 in
set_option maxRecDepth 100000 in
theorem ct_Request_silentPart (l : Launch) (G : fw_G) (kd0 : Nat → Option Nat) (S0 : fw_S) (a0 : Nat) (p1 : Int32) (p2 : Int32) (r0 : Int32) (hk_a0 : kd0 a0 = some 3) (hE : F_Request_silentPart a0 p1 p2 S0 = some r0) : fw_M l G y_Request_silentPart prog_5_method_12_code 3 (some .int) 1 21 0 0 kd0 S0 ([.ref a0, .int p1, .int p2] : List Value) (some (.int r0)) S0 (fun k => k = kd0) := by
  refine fw_start (by decide) (Nat.le_of_ble_eq_true rfl) ?_
  intro p e s m below meth c ls C hnm R hl
  clear hnm
  have hx := C.1
  have hb := C.2.1
  have hl : lv_has ls 3 [(0, .ref a0), (1, .int p1), (2, .int p2)] := hl
  unfold F_Request_silentPart at hE
  refine lv_iload_n hx hb d_Request_silentPart_0 rfl (lv_at hl 1 rfl) ?_
  refine lv_if_lt (tgt := 15) hx hb d_Request_silentPart_1 (by decide) (fun hc => ?_) (fun hc => ?_)
  · replace hE := fw_if_t hc hE
    refine lv_bipush (v := -2) hx hb d_Request_silentPart_15 (by decide) ?_
    cases hE
    exact fw_iret C fw_X.rf rfl R d_Request_silentPart_17
  · replace hE := fw_if_f hc hE
    refine lv_iload_n hx hb d_Request_silentPart_4 rfl (lv_at hl 1 rfl) ?_
    refine lv_aload_n hx hb d_Request_silentPart_5 rfl (lv_at hl 0 rfl) ?_
    refine fw_getr C R ft_field_3_68 hk_a0 rfl rfl d_Request_silentPart_6 (fun hq => ?_) (fun b1 hq hk_b1 => ?_)
    · replace hE := fw_om_none hq hE
      cases hE
    · replace hE := fw_om_some hq hE
      refine fw_get (v := .int (fw_g S0 b1 2)) C R ft_field_3_65 hk_b1 rfl d_Request_silentPart_9 ?_
      refine lv_icmp_lt (tgt := 18) hx hb d_Request_silentPart_12 (by decide) (fun hc => ?_) (fun hc => ?_)
      · replace hE := fw_if_t hc hE
        refine lv_iload_n hx hb d_Request_silentPart_18 rfl (lv_at hl 2 rfl) ?_
        refine lv_if_eq (tgt := 33) hx hb d_Request_silentPart_19 (by decide) (fun hc => ?_) (fun hc => ?_)
        · replace hE := fw_if_t hc hE
          refine lv_iconst (v := -1) hx hb d_Request_silentPart_33 (by decide) ?_
          cases hE
          exact fw_iret C fw_X.rf rfl R d_Request_silentPart_34
        · replace hE := fw_if_f hc hE
          refine lv_aload_n hx hb d_Request_silentPart_22 rfl (lv_at hl 0 rfl) ?_
          refine fw_getr C R ft_field_3_68 hk_a0 rfl rfl d_Request_silentPart_23 (fun hq => ?_) (fun b2 hq hk_b2 => ?_)
          · replace hE := fw_om_none hq hE
            refine lv_iload_n hx hb d_Request_silentPart_26 rfl (lv_at hl 1 rfl) ?_
            cases hE
          · replace hE := fw_om_some hq hE
            refine lv_iload_n hx hb d_Request_silentPart_26 rfl (lv_at hl 1 rfl) ?_
            obtain ⟨x3, hF, hE⟩ := fw_bind hE
            refine fw_callV (As := [.int p1]) (rest := []) C R ft_callV_3_85 yi_Pairs_valueAt ys_Pairs_valueAt (ct_Pairs_valueAt l G kd0 S0 _ _ _ hk_b2 hF) hk_b2 (by decide) rfl rfl hl.1 rfl (lv_room (Nat.le_of_ble_eq_true rfl)) ⟨Nat.le_of_ble_eq_true rfl, Nat.le_of_ble_eq_true rfl⟩ ⟨Nat.le_of_ble_eq_true rfl, Nat.le_of_ble_eq_true rfl⟩ d_Request_silentPart_27 (fun H locs kd4 hxkd4 hP R => ?_)
            rw [hP] at R; clear hP hxkd4
            refine lv_goto (tgt := 34) hx hb d_Request_silentPart_30 (by decide) ?_
            cases hE
            exact fw_iret C fw_X.rf rfl R d_Request_silentPart_34
      · replace hE := fw_if_f hc hE
        refine lv_bipush (v := -2) hx hb d_Request_silentPart_15 (by decide) ?_
        cases hE
        exact fw_iret C fw_X.rf rfl R d_Request_silentPart_17
set_option maxHeartbeats 4000000 in
set_option maxRecDepth 100000 in
theorem ct_Request_joinedPart (l : Launch) (G : fw_G) (kd0 : Nat → Option Nat) (S0 : fw_S) (a0 : Nat) (p1 : Int32) (p2 : Int32) (r0 : Int32) (hk_a0 : kd0 a0 = some 3) (hE : F_Request_joinedPart a0 p1 p2 S0 = some r0) : fw_M l G y_Request_joinedPart prog_5_method_11_code 6 (some .int) 2 43 0 0 kd0 S0 ([.ref a0, .int p1, .int p2] : List Value) (some (.int r0)) S0 (fun k => k = kd0) := by
  refine fw_start (by decide) (Nat.le_of_ble_eq_true rfl) ?_
  intro p e s m below meth c ls C hnm R hl
  clear hnm
  have hx := C.1
  have hb := C.2.1
  have hl : lv_has ls 6 [(0, .ref a0), (1, .int p1), (2, .int p2)] := hl
  have h_j75 : ∀ v0 : Nat, ∀ v2 : Int32, ∀ v4 : Int32, ∀ v5 : Int32, kd0 v0 = some 3 → ∀ (H : Heap) (locs : List Loc) (ls : Array Slot), fw_R G kd0 S0 H locs → lv_has ls 6 [(0, .ref v0), (2, .int v2), (4, .int v4), (5, .int v5)] → F_Request_joinedPart_j75 S0 v0 v2 v4 v5 = some r0 → W p l e { frames := 2, cells := 0, slots := 0, locals := 43 } s m ([.ref a0, .int p1, .int p2] : List Value).toArray below meth c H locs 0 0 (MQ below (fw_Q G kd0 (some (.int r0)) S0 (fun k => k = kd0)) ([.ref a0, .int p1, .int p2] : List Value).toArray s 0 0 (fw_A G)) (F0 m 75 ls []) := by
    intro v0 v2 v4 v5 hk_v0 H locs ls R hl hE
    unfold F_Request_joinedPart_j75 at hE
    refine lv_iload_n hx hb d_Request_joinedPart_75 rfl (lv_at hl 1 rfl) ?_
    refine lv_if_eq (tgt := 91) hx hb d_Request_joinedPart_76 (by decide) (fun hc => ?_) (fun hc => ?_)
    · replace hE := fw_if_t hc hE
      refine lv_aload_n hx hb d_Request_joinedPart_91 rfl (lv_at hl 0 rfl) ?_
      refine fw_getr C R ft_field_3_23 hk_v0 rfl rfl d_Request_joinedPart_92 (fun hq => ?_) (fun b9 hq hk_b9 => ?_)
      · replace hE := fw_om_none hq hE
        refine lv_iload hx hb d_Request_joinedPart_95 (lv_at hl 3 rfl) ?_
        cases hE
      · replace hE := fw_om_some hq hE
        refine lv_iload hx hb d_Request_joinedPart_95 (lv_at hl 3 rfl) ?_
        obtain ⟨x10, hF, hE⟩ := fw_bind hE
        refine fw_callV (As := [.int v5]) (rest := []) C R ft_callV_3_85 yi_Pairs_valueAt ys_Pairs_valueAt (ct_Pairs_valueAt l G kd0 S0 _ _ _ hk_b9 hF) hk_b9 (by decide) rfl rfl hl.1 rfl (lv_room (Nat.le_of_ble_eq_true rfl)) ⟨Nat.le_of_ble_eq_true rfl, Nat.le_of_ble_eq_true rfl⟩ ⟨Nat.le_of_ble_eq_true rfl, Nat.le_of_ble_eq_true rfl⟩ d_Request_joinedPart_97 (fun H locs kd11 hxkd11 hP R => ?_)
        rw [hP] at R; clear hP hxkd11
        cases hE
        exact fw_iret C fw_X.rf rfl R d_Request_joinedPart_100
    · replace hE := fw_if_f hc hE
      refine lv_aload_n hx hb d_Request_joinedPart_79 rfl (lv_at hl 0 rfl) ?_
      refine fw_getr C R ft_field_3_68 hk_v0 rfl rfl d_Request_joinedPart_80 (fun hq => ?_) (fun b12 hq hk_b12 => ?_)
      · replace hE := fw_om_none hq hE
        refine lv_iload hx hb d_Request_joinedPart_83 (lv_at hl 2 rfl) ?_
        cases hE
      · replace hE := fw_om_some hq hE
        refine lv_iload hx hb d_Request_joinedPart_83 (lv_at hl 2 rfl) ?_
        obtain ⟨x13, hF, hE⟩ := fw_bind hE
        refine fw_callV (As := [.int v4]) (rest := []) C R ft_callV_3_85 yi_Pairs_valueAt ys_Pairs_valueAt (ct_Pairs_valueAt l G kd0 S0 _ _ _ hk_b12 hF) hk_b12 (by decide) rfl rfl hl.1 rfl (lv_room (Nat.le_of_ble_eq_true rfl)) ⟨Nat.le_of_ble_eq_true rfl, Nat.le_of_ble_eq_true rfl⟩ ⟨Nat.le_of_ble_eq_true rfl, Nat.le_of_ble_eq_true rfl⟩ d_Request_joinedPart_85 (fun H locs kd14 hxkd14 hP R => ?_)
        rw [hP] at R; clear hP hxkd14
        refine lv_goto (tgt := 100) hx hb d_Request_joinedPart_88 (by decide) ?_
        cases hE
        exact fw_iret C fw_X.rf rfl R d_Request_joinedPart_100
  have h_l34 : ∀ (k19 : Nat → Int32 → Int32 → Int32 → Int32 → Option (Int32)), (∀ v0 : Nat, ∀ v1 : Int32, ∀ v2 : Int32, ∀ v3 : Int32, ∀ v4 : Int32, kd0 v0 = some 3 → ∀ (H : Heap) (locs : List Loc) (ls : Array Slot), fw_R G kd0 S0 H locs → lv_has ls 6 [(0, .ref v0), (1, .int v1), (2, .int v2), (3, .int v3), (4, .int v4)] → k19 v0 v1 v2 v3 v4 = some r0 → W p l e { frames := 2, cells := 0, slots := 0, locals := 43 } s m ([.ref a0, .int p1, .int p2] : List Value).toArray below meth c H locs 0 0 (MQ below (fw_Q G kd0 (some (.int r0)) S0 (fun k => k = kd0)) ([.ref a0, .int p1, .int p2] : List Value).toArray s 0 0 (fw_A G)) (F0 m 19 ls [])) → ∀ (n : Nat), ∀ v0 : Nat, ∀ v1 : Int32, ∀ v2 : Int32, ∀ v3 : Int32, ∀ v4 : Int32, ∀ v5 : Int32, kd0 v0 = some 3 → ∀ (H : Heap) (locs : List Loc) (ls : Array Slot), fw_R G kd0 S0 H locs → lv_has ls 6 [(0, .ref v0), (1, .int v1), (2, .int v2), (3, .int v3), (4, .int v4), (5, .int v5)] → F_Request_joinedPart_l34 S0 k19 n v0 v1 v2 v3 v4 v5 = some r0 → W p l e { frames := 2, cells := 0, slots := 0, locals := 43 } s m ([.ref a0, .int p1, .int p2] : List Value).toArray below meth c H locs 0 0 (MQ below (fw_Q G kd0 (some (.int r0)) S0 (fun k => k = kd0)) ([.ref a0, .int p1, .int p2] : List Value).toArray s 0 0 (fw_A G)) (F0 m 34 ls []) := by
    intro k19 hk19 n
    induction n with
    | zero =>
      intro v0 v1 v2 v3 v4 v5 hk_v0 H locs ls R hl hE
      rw [F_Request_joinedPart_l34] at hE
      cases hE
    | succ n ih =>
      intro v0 v1 v2 v3 v4 v5 hk_v0 H locs ls R hl hE
      rw [F_Request_joinedPart_l34] at hE
      refine lv_iload hx hb d_Request_joinedPart_34 (lv_at hl 5 rfl) ?_
      refine lv_aload_n hx hb d_Request_joinedPart_36 rfl (lv_at hl 0 rfl) ?_
      refine fw_getr C R ft_field_3_23 hk_v0 rfl rfl d_Request_joinedPart_37 (fun hq => ?_) (fun b2 hq hk_b2 => ?_)
      · replace hE := fw_om_none hq hE
        cases hE
      · replace hE := fw_om_some hq hE
        refine fw_get (v := .int (fw_g S0 b2 2)) C R ft_field_3_65 hk_b2 rfl d_Request_joinedPart_40 ?_
        refine lv_icmp_ge (tgt := 110) hx hb d_Request_joinedPart_43 (by decide) (fun hc => ?_) (fun hc => ?_)
        · replace hE := fw_if_t hc hE
          refine lv_iinc (v := (v4 + (1 : Int32))) (lv' := [(4, .int (v4 + (1 : Int32))), (0, .ref v0), (1, .int v1), (2, .int v2), (3, .int v3), (5, .int v5)]) hx hb d_Request_joinedPart_110 hl (k := 4) rfl rfl (by decide) rfl (fun ls hl => ?_)
          refine lv_goto (tgt := 19) hx hb d_Request_joinedPart_113 (by decide) ?_
          exact hk19 _ _ _ _ _ hk_v0 _ _ _ R (lv_sub hl [1, 2, 3, 4, 0] rfl) hE
        · replace hE := fw_if_f hc hE
          refine lv_aload_n hx hb d_Request_joinedPart_46 rfl (lv_at hl 0 rfl) ?_
          refine fw_getr C R ft_field_3_23 hk_v0 rfl rfl d_Request_joinedPart_47 (fun hq => ?_) (fun b3 hq hk_b3 => ?_)
          · replace hE := fw_om_none hq hE
            refine lv_iload hx hb d_Request_joinedPart_50 (lv_at hl 5 rfl) ?_
            cases hE
          · replace hE := fw_om_some hq hE
            refine lv_iload hx hb d_Request_joinedPart_50 (lv_at hl 5 rfl) ?_
            obtain ⟨x4, hF, hE⟩ := fw_bind hE
            refine fw_callV (As := [.int v5]) (rest := []) C R ft_callV_3_81 yi_Pairs_keyAt ys_Pairs_keyAt (ct_Pairs_keyAt l G kd0 S0 _ _ _ hk_b3 hF) hk_b3 (by decide) rfl rfl hl.1 rfl (lv_room (Nat.le_of_ble_eq_true rfl)) ⟨Nat.le_of_ble_eq_true rfl, Nat.le_of_ble_eq_true rfl⟩ ⟨Nat.le_of_ble_eq_true rfl, Nat.le_of_ble_eq_true rfl⟩ d_Request_joinedPart_52 (fun H locs kd5 hxkd5 hP R => ?_)
            rw [hP] at R; clear hP hxkd5
            refine lv_aload_n hx hb d_Request_joinedPart_55 rfl (lv_at hl 0 rfl) ?_
            refine fw_getr C R ft_field_3_68 hk_v0 rfl rfl d_Request_joinedPart_56 (fun hq => ?_) (fun b6 hq hk_b6 => ?_)
            · replace hE := fw_om_none hq hE
              refine lv_iload hx hb d_Request_joinedPart_59 (lv_at hl 4 rfl) ?_
              cases hE
            · replace hE := fw_om_some hq hE
              refine lv_iload hx hb d_Request_joinedPart_59 (lv_at hl 4 rfl) ?_
              obtain ⟨x7, hF, hE⟩ := fw_bind hE
              refine fw_callV (As := [.int v4]) (rest := [.int x4]) C R ft_callV_3_81 yi_Pairs_keyAt ys_Pairs_keyAt (ct_Pairs_keyAt l G kd0 S0 _ _ _ hk_b6 hF) hk_b6 (by decide) rfl rfl hl.1 rfl (lv_room (Nat.le_of_ble_eq_true rfl)) ⟨Nat.le_of_ble_eq_true rfl, Nat.le_of_ble_eq_true rfl⟩ ⟨Nat.le_of_ble_eq_true rfl, Nat.le_of_ble_eq_true rfl⟩ d_Request_joinedPart_61 (fun H locs kd8 hxkd8 hP R => ?_)
              rw [hP] at R; clear hP hxkd8
              refine lv_icmp_eq (tgt := 70) hx hb d_Request_joinedPart_64 (by decide) (fun hc => ?_) (fun hc => ?_)
              · replace hE := fw_if_t hc hE
                refine lv_iload_n hx hb d_Request_joinedPart_70 rfl (lv_at hl 3 rfl) ?_
                refine lv_iload_n hx hb d_Request_joinedPart_71 rfl (lv_at hl 1 rfl) ?_
                refine lv_icmp_ne (tgt := 101) hx hb d_Request_joinedPart_72 (by decide) (fun hc => ?_) (fun hc => ?_)
                · replace hE := fw_if_f hc hE
                  refine lv_iinc (v := (v3 + (1 : Int32))) (lv' := [(3, .int (v3 + (1 : Int32))), (0, .ref v0), (1, .int v1), (2, .int v2), (4, .int v4), (5, .int v5)]) hx hb d_Request_joinedPart_101 hl (k := 3) rfl rfl (by decide) rfl (fun ls hl => ?_)
                  refine lv_iinc (v := (v5 + (1 : Int32))) (lv' := [(5, .int (v5 + (1 : Int32))), (3, .int (v3 + (1 : Int32))), (0, .ref v0), (1, .int v1), (2, .int v2), (4, .int v4)]) hx hb d_Request_joinedPart_104 hl (k := 5) rfl rfl (by decide) rfl (fun ls hl => ?_)
                  refine lv_goto (tgt := 34) hx hb d_Request_joinedPart_107 (by decide) ?_
                  exact ih _ _ _ _ _ _ hk_v0 _ _ _ R (lv_sub hl [2, 3, 4, 1, 5, 0] rfl) hE
                · replace hE := fw_if_t hc hE
                  exact h_j75 _ _ _ _ hk_v0 _ _ _ R (lv_sub hl [0, 2, 4, 5] rfl) hE
              · replace hE := fw_if_f hc hE
                refine lv_goto (tgt := 104) hx hb d_Request_joinedPart_67 (by decide) ?_
                refine lv_iinc (v := (v5 + (1 : Int32))) (lv' := [(5, .int (v5 + (1 : Int32))), (0, .ref v0), (1, .int v1), (2, .int v2), (3, .int v3), (4, .int v4)]) hx hb d_Request_joinedPart_104 hl (k := 5) rfl rfl (by decide) rfl (fun ls hl => ?_)
                refine lv_goto (tgt := 34) hx hb d_Request_joinedPart_107 (by decide) ?_
                exact ih _ _ _ _ _ _ hk_v0 _ _ _ R (lv_sub hl [1, 2, 3, 4, 5, 0] rfl) hE
  have h_l19 : ∀ (n : Nat), ∀ v0 : Nat, ∀ v1 : Int32, ∀ v2 : Int32, ∀ v3 : Int32, ∀ v4 : Int32, kd0 v0 = some 3 → ∀ (H : Heap) (locs : List Loc) (ls : Array Slot), fw_R G kd0 S0 H locs → lv_has ls 6 [(0, .ref v0), (1, .int v1), (2, .int v2), (3, .int v3), (4, .int v4)] → F_Request_joinedPart_l19 S0 n v0 v1 v2 v3 v4 = some r0 → W p l e { frames := 2, cells := 0, slots := 0, locals := 43 } s m ([.ref a0, .int p1, .int p2] : List Value).toArray below meth c H locs 0 0 (MQ below (fw_Q G kd0 (some (.int r0)) S0 (fun k => k = kd0)) ([.ref a0, .int p1, .int p2] : List Value).toArray s 0 0 (fw_A G)) (F0 m 19 ls []) := by
    intro n
    induction n with
    | zero =>
      intro v0 v1 v2 v3 v4 hk_v0 H locs ls R hl hE
      rw [F_Request_joinedPart_l19] at hE
      cases hE
    | succ n ih =>
      intro v0 v1 v2 v3 v4 hk_v0 H locs ls R hl hE
      rw [F_Request_joinedPart_l19] at hE
      refine lv_iload hx hb d_Request_joinedPart_19 (lv_at hl 4 rfl) ?_
      refine lv_aload_n hx hb d_Request_joinedPart_21 rfl (lv_at hl 0 rfl) ?_
      refine fw_getr C R ft_field_3_68 hk_v0 rfl rfl d_Request_joinedPart_22 (fun hq => ?_) (fun b1 hq hk_b1 => ?_)
      · replace hE := fw_om_none hq hE
        cases hE
      · replace hE := fw_om_some hq hE
        refine fw_get (v := .int (fw_g S0 b1 2)) C R ft_field_3_65 hk_b1 rfl d_Request_joinedPart_25 ?_
        refine lv_icmp_ge (tgt := 116) hx hb d_Request_joinedPart_28 (by decide) (fun hc => ?_) (fun hc => ?_)
        · replace hE := fw_if_t hc hE
          refine lv_bipush (v := -2) hx hb d_Request_joinedPart_116 (by decide) ?_
          cases hE
          exact fw_iret C fw_X.rf rfl R d_Request_joinedPart_118
        · replace hE := fw_if_f hc hE
          refine lv_iconst (v := 0) hx hb d_Request_joinedPart_31 (by decide) ?_
          refine lv_istore (lv' := [(5, .int (0 : Int32)), (0, .ref v0), (1, .int v1), (2, .int v2), (3, .int v3), (4, .int v4)]) hx hb d_Request_joinedPart_32 hl (by decide) rfl (fun ls hl => ?_)
          exact h_l34 _ ih _ _ _ _ _ _ _ hk_v0 _ _ _ R (lv_sub hl [1, 2, 3, 4, 5, 0] rfl) hE
  unfold F_Request_joinedPart at hE
  refine lv_aload_n hx hb d_Request_joinedPart_0 rfl (lv_at hl 0 rfl) ?_
  refine fw_get (v := .int (fw_g S0 a0 15)) C R ft_field_3_49 hk_a0 rfl d_Request_joinedPart_1 ?_
  refine lv_if_eq (tgt := 14) hx hb d_Request_joinedPart_4 (by decide) (fun hc => ?_) (fun hc => ?_)
  · replace hE := fw_if_t hc hE
    refine lv_iconst (v := 0) hx hb d_Request_joinedPart_14 (by decide) ?_
    refine lv_istore_n (lv' := [(3, .int (0 : Int32)), (0, .ref a0), (1, .int p1), (2, .int p2)]) hx hb d_Request_joinedPart_15 rfl hl (by decide) rfl (fun ls hl => ?_)
    refine lv_iconst (v := 0) hx hb d_Request_joinedPart_16 (by decide) ?_
    refine lv_istore (lv' := [(4, .int (0 : Int32)), (3, .int (0 : Int32)), (0, .ref a0), (1, .int p1), (2, .int p2)]) hx hb d_Request_joinedPart_17 hl (by decide) rfl (fun ls hl => ?_)
    exact h_l19 _ _ _ _ _ _ hk_a0 _ _ _ R (lv_sub hl [2, 3, 4, 1, 0] rfl) hE
  · replace hE := fw_if_f hc hE
    refine lv_aload_n hx hb d_Request_joinedPart_7 rfl (lv_at hl 0 rfl) ?_
    refine lv_iload_n hx hb d_Request_joinedPart_8 rfl (lv_at hl 1 rfl) ?_
    refine lv_iload_n hx hb d_Request_joinedPart_9 rfl (lv_at hl 2 rfl) ?_
    obtain ⟨x15, hF, hE⟩ := fw_bind hE
    refine fw_callV (As := [.int p1, .int p2]) (rest := []) C R ft_callV_3_120 yi_Request_silentPart ys_Request_silentPart (ct_Request_silentPart l G kd0 S0 _ _ _ _ hk_a0 hF) hk_a0 (by decide) rfl rfl hl.1 rfl (lv_room (Nat.le_of_ble_eq_true rfl)) ⟨Nat.le_of_ble_eq_true rfl, Nat.le_of_ble_eq_true rfl⟩ ⟨Nat.le_of_ble_eq_true rfl, Nat.le_of_ble_eq_true rfl⟩ d_Request_joinedPart_10 (fun H locs kd16 hxkd16 hP R => ?_)
    rw [hP] at R; clear hP hxkd16
    cases hE
    exact fw_iret C fw_X.rf rfl R d_Request_joinedPart_13
set_option maxHeartbeats 4000000 in
set_option maxRecDepth 100000 in
theorem ct_ServingEnd_init (l : Launch) (G : fw_G) (kd0 : Nat → Option Nat) (S0 : fw_S) (a0 : Nat) (S' : fw_S) (hk_a0 : kd0 a0 = some 4) (hE : F_ServingEnd_init a0 S0 = some S') : fw_M l G y_ServingEnd_init prog_6_method_1_code 2 none 3 63 38 1241 kd0 S0 ([.ref a0] : List Value) none S' (fun _ => True) := by
  refine fw_start (by decide) (Nat.le_of_ble_eq_true rfl) ?_
  intro p e s m below meth c ls C hnm R hl
  have hx := C.1
  have hb := C.2.1
  have hl : lv_has ls 2 [(0, .ref a0)] := hl
  unfold F_ServingEnd_init at hE
  refine lv_aload_n hx hb d_ServingEnd_init_0 rfl (lv_at hl 0 rfl) ?_
  refine fw_obj C ft_obj_4_3 ob_1 ob_2 hl.1 d_ServingEnd_init_1 (Nat.le_of_ble_eq_true rfl) (Nat.le_of_ble_eq_true rfl) ?_
  refine lv_aload_n hx hb d_ServingEnd_init_4 rfl (lv_at hl 0 rfl) ?_
  refine fw_new C R cl_2 nd_2 ft_new_4_9 ni_2 nj_2 (Nat.le_of_ble_eq_true rfl) (Nat.le_of_ble_eq_true rfl) d_ServingEnd_init_5 (fun H kd3 hxkd3 hk_new R => ?_)
  refine W.widen (k := 1) (n := 3) (by decide) (by decide) ?_
  obtain ⟨b2, eb2, hE⟩ := fw_let_ex hE
  obtain ⟨S1, eS1, hE⟩ := fw_let_ex hE
  rw [← eS1] at R
  rw [← eb2] at hk_new ⊢
  have hk_b2 := hk_new
  have hXkd3 := fw_X.tr fw_X.rf hxkd3
  have hk_a0 := hxkd3 _ _ hk_a0
  clear eS1 eb2 hk_new
  refine lv_dup hx hb d_ServingEnd_init_8 rfl ?_
  refine lv_bipush (v := 60) hx hb d_ServingEnd_init_9 (by decide) ?_
  obtain ⟨S4, hF, hE⟩ := fw_bind hE
  refine fw_callI (As := [.int (60 : Int32)]) (rest := [.ref b2, .ref a0]) C R ft_callI_4_11 yi_Pairs_init rfl (ct_Pairs_init l G kd3 S1 _ _ _ hk_b2 hF) rfl hl.1 rfl (lv_room (Nat.le_of_ble_eq_true rfl)) ⟨Nat.le_of_ble_eq_true rfl, Nat.le_of_ble_eq_true rfl⟩ ⟨Nat.le_of_ble_eq_true rfl, Nat.le_of_ble_eq_true rfl⟩ d_ServingEnd_init_11 (fun H locs kd5 hxkd5 hP R => ?_)
  refine W.widen (k := 3) (n := 131) (by decide) (by decide) ?_
  have hXkd5 := fw_X.tr hXkd3 hxkd5
  have hk_a0 := hxkd5 _ _ hk_a0
  have hk_b2 := hxkd5 _ _ hk_b2
  refine fw_putFr C hnm R ft_field_4_14 rfl ft_nonest_4_14 rfl rfl (by decide) hk_b2 hk_a0 d_ServingEnd_init_14 (fun H locs R => ?_)
  obtain ⟨S6, eS6, hE⟩ := fw_let_ex hE
  rw [← eS6] at R
  clear eS6
  refine lv_aload_n hx hb d_ServingEnd_init_17 rfl (lv_at hl 0 rfl) ?_
  refine lv_bipush (v := 8) hx hb d_ServingEnd_init_18 (by decide) ?_
  refine fw_newq (K := 1) C R ft_anew_4_20 (by decide) (by decide) (by decide) (by decide) (by decide) (by decide) d_ServingEnd_init_20 (fun H kd9 hxkd9 hk_new R => ?_)
  refine W.widen (k := 4) (n := 139) (by decide) (by decide) ?_
  obtain ⟨b8, eb8, hE⟩ := fw_let_ex hE
  obtain ⟨S7, eS7, hE⟩ := fw_let_ex hE
  rw [← eS7] at R
  rw [← eb8] at hk_new ⊢
  have hk_b8 := hk_new
  have hXkd9 := fw_X.tr hXkd5 hxkd9
  have hk_a0 := hxkd9 _ _ hk_a0
  have hk_b2 := hxkd9 _ _ hk_b2
  clear eS7 eb8 hk_new
  refine fw_putFr C hnm R ft_field_4_22 rfl ft_nonest_4_22 rfl rfl (by decide) hk_b8 hk_a0 d_ServingEnd_init_23 (fun H locs R => ?_)
  obtain ⟨S10, eS10, hE⟩ := fw_let_ex hE
  rw [← eS10] at R
  clear eS10
  refine lv_aload_n hx hb d_ServingEnd_init_26 rfl (lv_at hl 0 rfl) ?_
  refine lv_iconst (v := 0) hx hb d_ServingEnd_init_27 (by decide) ?_
  refine fw_puti C R ft_field_4_26 rfl hk_a0 d_ServingEnd_init_28 (fun H locs R => ?_)
  obtain ⟨S11, eS11, hE⟩ := fw_let_ex hE
  rw [← eS11] at R
  clear eS11
  refine lv_aload_n hx hb d_ServingEnd_init_31 rfl (lv_at hl 0 rfl) ?_
  refine lv_iconst (v := 0) hx hb d_ServingEnd_init_32 (by decide) ?_
  refine fw_puti C R ft_field_4_30 rfl hk_a0 d_ServingEnd_init_33 (fun H locs R => ?_)
  obtain ⟨S12, eS12, hE⟩ := fw_let_ex hE
  rw [← eS12] at R
  clear eS12
  refine lv_aload_n hx hb d_ServingEnd_init_36 rfl (lv_at hl 0 rfl) ?_
  refine fw_new C R cl_0 nd_0 ft_new_4_33 ni_0 nj_0 (Nat.le_of_ble_eq_true rfl) (Nat.le_of_ble_eq_true rfl) d_ServingEnd_init_37 (fun H kd15 hxkd15 hk_new R => ?_)
  refine W.widen (k := 5) (n := 143) (by decide) (by decide) ?_
  obtain ⟨b14, eb14, hE⟩ := fw_let_ex hE
  obtain ⟨S13, eS13, hE⟩ := fw_let_ex hE
  rw [← eS13] at R
  rw [← eb14] at hk_new ⊢
  have hk_b14 := hk_new
  have hXkd15 := fw_X.tr hXkd9 hxkd15
  have hk_a0 := hxkd15 _ _ hk_a0
  have hk_b2 := hxkd15 _ _ hk_b2
  have hk_b8 := hxkd15 _ _ hk_b8
  clear eS13 eb14 hk_new
  refine lv_dup hx hb d_ServingEnd_init_40 rfl ?_
  obtain ⟨S16, hF, hE⟩ := fw_bind hE
  refine fw_callI (As := []) (rest := [.ref b14, .ref a0]) C R ft_callI_4_35 yi_Frame_init rfl (ct_Frame_init l G kd15 S13 _ _ hk_b14 hF) rfl hl.1 rfl (lv_room (Nat.le_of_ble_eq_true rfl)) ⟨Nat.le_of_ble_eq_true rfl, Nat.le_of_ble_eq_true rfl⟩ ⟨Nat.le_of_ble_eq_true rfl, Nat.le_of_ble_eq_true rfl⟩ d_ServingEnd_init_41 (fun H locs kd17 hxkd17 hP R => ?_)
  refine W.widen (k := 6) (n := 161) (by decide) (by decide) ?_
  have hXkd17 := fw_X.tr hXkd15 hxkd17
  have hk_a0 := hxkd17 _ _ hk_a0
  have hk_b2 := hxkd17 _ _ hk_b2
  have hk_b8 := hxkd17 _ _ hk_b8
  have hk_b14 := hxkd17 _ _ hk_b14
  refine fw_putFr C hnm R ft_field_4_36 rfl ft_nonest_4_36 rfl rfl (by decide) hk_b14 hk_a0 d_ServingEnd_init_44 (fun H locs R => ?_)
  obtain ⟨S18, eS18, hE⟩ := fw_let_ex hE
  rw [← eS18] at R
  clear eS18
  refine lv_iconst (v := 0) hx hb d_ServingEnd_init_47 (by decide) ?_
  refine lv_istore_n (lv' := [(1, .int (0 : Int32)), (0, .ref a0)]) hx hb d_ServingEnd_init_48 rfl hl (by decide) rfl (fun ls hl => ?_)
  refine lv_iload_n hx hb d_ServingEnd_init_49 rfl (lv_at hl 0 rfl) ?_
  refine lv_bipush (v := 8) hx hb d_ServingEnd_init_50 (by decide) ?_
  refine lv_icmp_ge (tgt := 74) hx hb d_ServingEnd_init_52 (by decide) (fun hc => absurd hc (by decide)) (fun _ => ?_)
  refine lv_aload_n hx hb d_ServingEnd_init_55 rfl (lv_at hl 1 rfl) ?_
  refine fw_getr C R ft_field_4_22 hk_a0 rfl rfl d_ServingEnd_init_56 (fun hq => ?_) (fun b19 hq hk_b19 => ?_)
  · replace hE := fw_om_none hq hE
    refine lv_iload_n hx hb d_ServingEnd_init_59 rfl (lv_at hl 0 rfl) ?_
    refine fw_new C R cl_1 nd_1 ft_new_4_20 ni_1 nj_1 (Nat.le_of_ble_eq_true rfl) (Nat.le_of_ble_eq_true rfl) d_ServingEnd_init_60 (fun H kd22 hxkd22 hk_new R => ?_)
    refine W.widen (k := 7) (n := 165) (by decide) (by decide) ?_
    obtain ⟨b21, eb21, hE⟩ := fw_let_ex hE
    obtain ⟨S20, eS20, hE⟩ := fw_let_ex hE
    rw [← eS20] at R
    rw [← eb21] at hk_new ⊢
    have hk_b21 := hk_new
    have hXkd22 := fw_X.tr hXkd17 hxkd22
    have hk_a0 := hxkd22 _ _ hk_a0
    have hk_b2 := hxkd22 _ _ hk_b2
    have hk_b8 := hxkd22 _ _ hk_b8
    have hk_b14 := hxkd22 _ _ hk_b14
    clear eS20 eb21 hk_new
    refine lv_dup hx hb d_ServingEnd_init_63 rfl ?_
    obtain ⟨S23, hF, hE⟩ := fw_bind hE
    refine fw_callI (As := []) (rest := [.ref b21, .int (0 : Int32), .null]) C R ft_callI_4_40 yi_Memory_init rfl (ct_Memory_init l G kd22 S20 _ _ hk_b21 hF) rfl hl.1 rfl (lv_room (Nat.le_of_ble_eq_true rfl)) ⟨Nat.le_of_ble_eq_true rfl, Nat.le_of_ble_eq_true rfl⟩ ⟨Nat.le_of_ble_eq_true rfl, Nat.le_of_ble_eq_true rfl⟩ d_ServingEnd_init_64 (fun H locs kd24 hxkd24 hP R => ?_)
    refine W.widen (k := 10) (n := 296) (by decide) (by decide) ?_
    have hXkd24 := fw_X.tr hXkd22 hxkd24
    have hk_a0 := hxkd24 _ _ hk_a0
    have hk_b2 := hxkd24 _ _ hk_b2
    have hk_b8 := hxkd24 _ _ hk_b8
    have hk_b14 := hxkd24 _ _ hk_b14
    have hk_b21 := hxkd24 _ _ hk_b21
    cases hE
  · replace hE := fw_om_some hq hE
    refine lv_iload_n hx hb d_ServingEnd_init_59 rfl (lv_at hl 0 rfl) ?_
    refine fw_new C R cl_1 nd_1 ft_new_4_20 ni_1 nj_1 (Nat.le_of_ble_eq_true rfl) (Nat.le_of_ble_eq_true rfl) d_ServingEnd_init_60 (fun H kd27 hxkd27 hk_new R => ?_)
    refine W.widen (k := 7) (n := 165) (by decide) (by decide) ?_
    obtain ⟨b26, eb26, hE⟩ := fw_let_ex hE
    obtain ⟨S25, eS25, hE⟩ := fw_let_ex hE
    rw [← eS25] at R
    rw [← eb26] at hk_new ⊢
    have hk_b26 := hk_new
    have hXkd27 := fw_X.tr hXkd17 hxkd27
    have hk_a0 := hxkd27 _ _ hk_a0
    have hk_b2 := hxkd27 _ _ hk_b2
    have hk_b8 := hxkd27 _ _ hk_b8
    have hk_b14 := hxkd27 _ _ hk_b14
    have hk_b19 := hxkd27 _ _ hk_b19
    clear eS25 eb26 hk_new
    refine lv_dup hx hb d_ServingEnd_init_63 rfl ?_
    obtain ⟨S28, hF, hE⟩ := fw_bind hE
    refine fw_callI (As := []) (rest := [.ref b26, .int (0 : Int32), .ref b19]) C R ft_callI_4_40 yi_Memory_init rfl (ct_Memory_init l G kd27 S25 _ _ hk_b26 hF) rfl hl.1 rfl (lv_room (Nat.le_of_ble_eq_true rfl)) ⟨Nat.le_of_ble_eq_true rfl, Nat.le_of_ble_eq_true rfl⟩ ⟨Nat.le_of_ble_eq_true rfl, Nat.le_of_ble_eq_true rfl⟩ d_ServingEnd_init_64 (fun H locs kd29 hxkd29 hP R => ?_)
    refine W.widen (k := 10) (n := 296) (by decide) (by decide) ?_
    have hXkd29 := fw_X.tr hXkd27 hxkd29
    have hk_a0 := hxkd29 _ _ hk_a0
    have hk_b2 := hxkd29 _ _ hk_b2
    have hk_b8 := hxkd29 _ _ hk_b8
    have hk_b14 := hxkd29 _ _ hk_b14
    have hk_b19 := hxkd29 _ _ hk_b19
    have hk_b26 := hxkd29 _ _ hk_b26
    obtain ⟨hi30, hE⟩ := fw_ifn hE
    refine fw_aast (K := 1) C R rfl (by decide) (by decide) hk_b19 hk_b26 hi30 d_ServingEnd_init_67 (fun H locs R => ?_)
    obtain ⟨S31, eS31, hE⟩ := fw_let_ex hE
    rw [← eS31] at R
    clear eS31
    refine lv_iinc (v := (1 : Int32)) (lv' := [(1, .int (1 : Int32)), (0, .ref a0)]) hx hb d_ServingEnd_init_68 hl (k := 0) rfl (by decide) (by decide) rfl (fun ls hl => ?_)
    refine lv_goto (tgt := 49) hx hb d_ServingEnd_init_71 (by decide) ?_
    refine lv_iload_n hx hb d_ServingEnd_init_49 rfl (lv_at hl 0 rfl) ?_
    refine lv_bipush (v := 8) hx hb d_ServingEnd_init_50 (by decide) ?_
    refine lv_icmp_ge (tgt := 74) hx hb d_ServingEnd_init_52 (by decide) (fun hc => absurd hc (by decide)) (fun _ => ?_)
    refine lv_aload_n hx hb d_ServingEnd_init_55 rfl (lv_at hl 1 rfl) ?_
    refine fw_getr C R ft_field_4_22 hk_a0 rfl rfl d_ServingEnd_init_56 (fun hq => ?_) (fun b32 hq hk_b32 => ?_)
    · replace hE := fw_om_none hq hE
      refine lv_iload_n hx hb d_ServingEnd_init_59 rfl (lv_at hl 0 rfl) ?_
      refine fw_new C R cl_1 nd_1 ft_new_4_20 ni_1 nj_1 (Nat.le_of_ble_eq_true rfl) (Nat.le_of_ble_eq_true rfl) d_ServingEnd_init_60 (fun H kd35 hxkd35 hk_new R => ?_)
      refine W.widen (k := 11) (n := 300) (by decide) (by decide) ?_
      obtain ⟨b34, eb34, hE⟩ := fw_let_ex hE
      obtain ⟨S33, eS33, hE⟩ := fw_let_ex hE
      rw [← eS33] at R
      rw [← eb34] at hk_new ⊢
      have hk_b34 := hk_new
      have hXkd35 := fw_X.tr hXkd29 hxkd35
      have hk_a0 := hxkd35 _ _ hk_a0
      have hk_b2 := hxkd35 _ _ hk_b2
      have hk_b8 := hxkd35 _ _ hk_b8
      have hk_b14 := hxkd35 _ _ hk_b14
      have hk_b19 := hxkd35 _ _ hk_b19
      have hk_b26 := hxkd35 _ _ hk_b26
      clear eS33 eb34 hk_new
      refine lv_dup hx hb d_ServingEnd_init_63 rfl ?_
      obtain ⟨S36, hF, hE⟩ := fw_bind hE
      refine fw_callI (As := []) (rest := [.ref b34, .int (1 : Int32), .null]) C R ft_callI_4_40 yi_Memory_init rfl (ct_Memory_init l G kd35 S33 _ _ hk_b34 hF) rfl hl.1 rfl (lv_room (Nat.le_of_ble_eq_true rfl)) ⟨Nat.le_of_ble_eq_true rfl, Nat.le_of_ble_eq_true rfl⟩ ⟨Nat.le_of_ble_eq_true rfl, Nat.le_of_ble_eq_true rfl⟩ d_ServingEnd_init_64 (fun H locs kd37 hxkd37 hP R => ?_)
      refine W.widen (k := 14) (n := 431) (by decide) (by decide) ?_
      have hXkd37 := fw_X.tr hXkd35 hxkd37
      have hk_a0 := hxkd37 _ _ hk_a0
      have hk_b2 := hxkd37 _ _ hk_b2
      have hk_b8 := hxkd37 _ _ hk_b8
      have hk_b14 := hxkd37 _ _ hk_b14
      have hk_b19 := hxkd37 _ _ hk_b19
      have hk_b26 := hxkd37 _ _ hk_b26
      have hk_b34 := hxkd37 _ _ hk_b34
      cases hE
    · replace hE := fw_om_some hq hE
      refine lv_iload_n hx hb d_ServingEnd_init_59 rfl (lv_at hl 0 rfl) ?_
      refine fw_new C R cl_1 nd_1 ft_new_4_20 ni_1 nj_1 (Nat.le_of_ble_eq_true rfl) (Nat.le_of_ble_eq_true rfl) d_ServingEnd_init_60 (fun H kd40 hxkd40 hk_new R => ?_)
      refine W.widen (k := 11) (n := 300) (by decide) (by decide) ?_
      obtain ⟨b39, eb39, hE⟩ := fw_let_ex hE
      obtain ⟨S38, eS38, hE⟩ := fw_let_ex hE
      rw [← eS38] at R
      rw [← eb39] at hk_new ⊢
      have hk_b39 := hk_new
      have hXkd40 := fw_X.tr hXkd29 hxkd40
      have hk_a0 := hxkd40 _ _ hk_a0
      have hk_b2 := hxkd40 _ _ hk_b2
      have hk_b8 := hxkd40 _ _ hk_b8
      have hk_b14 := hxkd40 _ _ hk_b14
      have hk_b19 := hxkd40 _ _ hk_b19
      have hk_b26 := hxkd40 _ _ hk_b26
      have hk_b32 := hxkd40 _ _ hk_b32
      clear eS38 eb39 hk_new
      refine lv_dup hx hb d_ServingEnd_init_63 rfl ?_
      obtain ⟨S41, hF, hE⟩ := fw_bind hE
      refine fw_callI (As := []) (rest := [.ref b39, .int (1 : Int32), .ref b32]) C R ft_callI_4_40 yi_Memory_init rfl (ct_Memory_init l G kd40 S38 _ _ hk_b39 hF) rfl hl.1 rfl (lv_room (Nat.le_of_ble_eq_true rfl)) ⟨Nat.le_of_ble_eq_true rfl, Nat.le_of_ble_eq_true rfl⟩ ⟨Nat.le_of_ble_eq_true rfl, Nat.le_of_ble_eq_true rfl⟩ d_ServingEnd_init_64 (fun H locs kd42 hxkd42 hP R => ?_)
      refine W.widen (k := 14) (n := 431) (by decide) (by decide) ?_
      have hXkd42 := fw_X.tr hXkd40 hxkd42
      have hk_a0 := hxkd42 _ _ hk_a0
      have hk_b2 := hxkd42 _ _ hk_b2
      have hk_b8 := hxkd42 _ _ hk_b8
      have hk_b14 := hxkd42 _ _ hk_b14
      have hk_b19 := hxkd42 _ _ hk_b19
      have hk_b26 := hxkd42 _ _ hk_b26
      have hk_b32 := hxkd42 _ _ hk_b32
      have hk_b39 := hxkd42 _ _ hk_b39
      obtain ⟨hi43, hE⟩ := fw_ifn hE
      refine fw_aast (K := 1) C R rfl (by decide) (by decide) hk_b32 hk_b39 hi43 d_ServingEnd_init_67 (fun H locs R => ?_)
      obtain ⟨S44, eS44, hE⟩ := fw_let_ex hE
      rw [← eS44] at R
      clear eS44
      refine lv_iinc (v := (2 : Int32)) (lv' := [(1, .int (2 : Int32)), (0, .ref a0)]) hx hb d_ServingEnd_init_68 hl (k := 0) rfl (by decide) (by decide) rfl (fun ls hl => ?_)
      refine lv_goto (tgt := 49) hx hb d_ServingEnd_init_71 (by decide) ?_
      refine lv_iload_n hx hb d_ServingEnd_init_49 rfl (lv_at hl 0 rfl) ?_
      refine lv_bipush (v := 8) hx hb d_ServingEnd_init_50 (by decide) ?_
      refine lv_icmp_ge (tgt := 74) hx hb d_ServingEnd_init_52 (by decide) (fun hc => absurd hc (by decide)) (fun _ => ?_)
      refine lv_aload_n hx hb d_ServingEnd_init_55 rfl (lv_at hl 1 rfl) ?_
      refine fw_getr C R ft_field_4_22 hk_a0 rfl rfl d_ServingEnd_init_56 (fun hq => ?_) (fun b45 hq hk_b45 => ?_)
      · replace hE := fw_om_none hq hE
        refine lv_iload_n hx hb d_ServingEnd_init_59 rfl (lv_at hl 0 rfl) ?_
        refine fw_new C R cl_1 nd_1 ft_new_4_20 ni_1 nj_1 (Nat.le_of_ble_eq_true rfl) (Nat.le_of_ble_eq_true rfl) d_ServingEnd_init_60 (fun H kd48 hxkd48 hk_new R => ?_)
        refine W.widen (k := 15) (n := 435) (by decide) (by decide) ?_
        obtain ⟨b47, eb47, hE⟩ := fw_let_ex hE
        obtain ⟨S46, eS46, hE⟩ := fw_let_ex hE
        rw [← eS46] at R
        rw [← eb47] at hk_new ⊢
        have hk_b47 := hk_new
        have hXkd48 := fw_X.tr hXkd42 hxkd48
        have hk_a0 := hxkd48 _ _ hk_a0
        have hk_b2 := hxkd48 _ _ hk_b2
        have hk_b8 := hxkd48 _ _ hk_b8
        have hk_b14 := hxkd48 _ _ hk_b14
        have hk_b19 := hxkd48 _ _ hk_b19
        have hk_b26 := hxkd48 _ _ hk_b26
        have hk_b32 := hxkd48 _ _ hk_b32
        have hk_b39 := hxkd48 _ _ hk_b39
        clear eS46 eb47 hk_new
        refine lv_dup hx hb d_ServingEnd_init_63 rfl ?_
        obtain ⟨S49, hF, hE⟩ := fw_bind hE
        refine fw_callI (As := []) (rest := [.ref b47, .int (2 : Int32), .null]) C R ft_callI_4_40 yi_Memory_init rfl (ct_Memory_init l G kd48 S46 _ _ hk_b47 hF) rfl hl.1 rfl (lv_room (Nat.le_of_ble_eq_true rfl)) ⟨Nat.le_of_ble_eq_true rfl, Nat.le_of_ble_eq_true rfl⟩ ⟨Nat.le_of_ble_eq_true rfl, Nat.le_of_ble_eq_true rfl⟩ d_ServingEnd_init_64 (fun H locs kd50 hxkd50 hP R => ?_)
        refine W.widen (k := 18) (n := 566) (by decide) (by decide) ?_
        have hXkd50 := fw_X.tr hXkd48 hxkd50
        have hk_a0 := hxkd50 _ _ hk_a0
        have hk_b2 := hxkd50 _ _ hk_b2
        have hk_b8 := hxkd50 _ _ hk_b8
        have hk_b14 := hxkd50 _ _ hk_b14
        have hk_b19 := hxkd50 _ _ hk_b19
        have hk_b26 := hxkd50 _ _ hk_b26
        have hk_b32 := hxkd50 _ _ hk_b32
        have hk_b39 := hxkd50 _ _ hk_b39
        have hk_b47 := hxkd50 _ _ hk_b47
        cases hE
      · replace hE := fw_om_some hq hE
        refine lv_iload_n hx hb d_ServingEnd_init_59 rfl (lv_at hl 0 rfl) ?_
        refine fw_new C R cl_1 nd_1 ft_new_4_20 ni_1 nj_1 (Nat.le_of_ble_eq_true rfl) (Nat.le_of_ble_eq_true rfl) d_ServingEnd_init_60 (fun H kd53 hxkd53 hk_new R => ?_)
        refine W.widen (k := 15) (n := 435) (by decide) (by decide) ?_
        obtain ⟨b52, eb52, hE⟩ := fw_let_ex hE
        obtain ⟨S51, eS51, hE⟩ := fw_let_ex hE
        rw [← eS51] at R
        rw [← eb52] at hk_new ⊢
        have hk_b52 := hk_new
        have hXkd53 := fw_X.tr hXkd42 hxkd53
        have hk_a0 := hxkd53 _ _ hk_a0
        have hk_b2 := hxkd53 _ _ hk_b2
        have hk_b8 := hxkd53 _ _ hk_b8
        have hk_b14 := hxkd53 _ _ hk_b14
        have hk_b19 := hxkd53 _ _ hk_b19
        have hk_b26 := hxkd53 _ _ hk_b26
        have hk_b32 := hxkd53 _ _ hk_b32
        have hk_b39 := hxkd53 _ _ hk_b39
        have hk_b45 := hxkd53 _ _ hk_b45
        clear eS51 eb52 hk_new
        refine lv_dup hx hb d_ServingEnd_init_63 rfl ?_
        obtain ⟨S54, hF, hE⟩ := fw_bind hE
        refine fw_callI (As := []) (rest := [.ref b52, .int (2 : Int32), .ref b45]) C R ft_callI_4_40 yi_Memory_init rfl (ct_Memory_init l G kd53 S51 _ _ hk_b52 hF) rfl hl.1 rfl (lv_room (Nat.le_of_ble_eq_true rfl)) ⟨Nat.le_of_ble_eq_true rfl, Nat.le_of_ble_eq_true rfl⟩ ⟨Nat.le_of_ble_eq_true rfl, Nat.le_of_ble_eq_true rfl⟩ d_ServingEnd_init_64 (fun H locs kd55 hxkd55 hP R => ?_)
        refine W.widen (k := 18) (n := 566) (by decide) (by decide) ?_
        have hXkd55 := fw_X.tr hXkd53 hxkd55
        have hk_a0 := hxkd55 _ _ hk_a0
        have hk_b2 := hxkd55 _ _ hk_b2
        have hk_b8 := hxkd55 _ _ hk_b8
        have hk_b14 := hxkd55 _ _ hk_b14
        have hk_b19 := hxkd55 _ _ hk_b19
        have hk_b26 := hxkd55 _ _ hk_b26
        have hk_b32 := hxkd55 _ _ hk_b32
        have hk_b39 := hxkd55 _ _ hk_b39
        have hk_b45 := hxkd55 _ _ hk_b45
        have hk_b52 := hxkd55 _ _ hk_b52
        obtain ⟨hi56, hE⟩ := fw_ifn hE
        refine fw_aast (K := 1) C R rfl (by decide) (by decide) hk_b45 hk_b52 hi56 d_ServingEnd_init_67 (fun H locs R => ?_)
        obtain ⟨S57, eS57, hE⟩ := fw_let_ex hE
        rw [← eS57] at R
        clear eS57
        refine lv_iinc (v := (3 : Int32)) (lv' := [(1, .int (3 : Int32)), (0, .ref a0)]) hx hb d_ServingEnd_init_68 hl (k := 0) rfl (by decide) (by decide) rfl (fun ls hl => ?_)
        refine lv_goto (tgt := 49) hx hb d_ServingEnd_init_71 (by decide) ?_
        refine lv_iload_n hx hb d_ServingEnd_init_49 rfl (lv_at hl 0 rfl) ?_
        refine lv_bipush (v := 8) hx hb d_ServingEnd_init_50 (by decide) ?_
        refine lv_icmp_ge (tgt := 74) hx hb d_ServingEnd_init_52 (by decide) (fun hc => absurd hc (by decide)) (fun _ => ?_)
        refine lv_aload_n hx hb d_ServingEnd_init_55 rfl (lv_at hl 1 rfl) ?_
        refine fw_getr C R ft_field_4_22 hk_a0 rfl rfl d_ServingEnd_init_56 (fun hq => ?_) (fun b58 hq hk_b58 => ?_)
        · replace hE := fw_om_none hq hE
          refine lv_iload_n hx hb d_ServingEnd_init_59 rfl (lv_at hl 0 rfl) ?_
          refine fw_new C R cl_1 nd_1 ft_new_4_20 ni_1 nj_1 (Nat.le_of_ble_eq_true rfl) (Nat.le_of_ble_eq_true rfl) d_ServingEnd_init_60 (fun H kd61 hxkd61 hk_new R => ?_)
          refine W.widen (k := 19) (n := 570) (by decide) (by decide) ?_
          obtain ⟨b60, eb60, hE⟩ := fw_let_ex hE
          obtain ⟨S59, eS59, hE⟩ := fw_let_ex hE
          rw [← eS59] at R
          rw [← eb60] at hk_new ⊢
          have hk_b60 := hk_new
          have hXkd61 := fw_X.tr hXkd55 hxkd61
          have hk_a0 := hxkd61 _ _ hk_a0
          have hk_b2 := hxkd61 _ _ hk_b2
          have hk_b8 := hxkd61 _ _ hk_b8
          have hk_b14 := hxkd61 _ _ hk_b14
          have hk_b19 := hxkd61 _ _ hk_b19
          have hk_b26 := hxkd61 _ _ hk_b26
          have hk_b32 := hxkd61 _ _ hk_b32
          have hk_b39 := hxkd61 _ _ hk_b39
          have hk_b45 := hxkd61 _ _ hk_b45
          have hk_b52 := hxkd61 _ _ hk_b52
          clear eS59 eb60 hk_new
          refine lv_dup hx hb d_ServingEnd_init_63 rfl ?_
          obtain ⟨S62, hF, hE⟩ := fw_bind hE
          refine fw_callI (As := []) (rest := [.ref b60, .int (3 : Int32), .null]) C R ft_callI_4_40 yi_Memory_init rfl (ct_Memory_init l G kd61 S59 _ _ hk_b60 hF) rfl hl.1 rfl (lv_room (Nat.le_of_ble_eq_true rfl)) ⟨Nat.le_of_ble_eq_true rfl, Nat.le_of_ble_eq_true rfl⟩ ⟨Nat.le_of_ble_eq_true rfl, Nat.le_of_ble_eq_true rfl⟩ d_ServingEnd_init_64 (fun H locs kd63 hxkd63 hP R => ?_)
          refine W.widen (k := 22) (n := 701) (by decide) (by decide) ?_
          have hXkd63 := fw_X.tr hXkd61 hxkd63
          have hk_a0 := hxkd63 _ _ hk_a0
          have hk_b2 := hxkd63 _ _ hk_b2
          have hk_b8 := hxkd63 _ _ hk_b8
          have hk_b14 := hxkd63 _ _ hk_b14
          have hk_b19 := hxkd63 _ _ hk_b19
          have hk_b26 := hxkd63 _ _ hk_b26
          have hk_b32 := hxkd63 _ _ hk_b32
          have hk_b39 := hxkd63 _ _ hk_b39
          have hk_b45 := hxkd63 _ _ hk_b45
          have hk_b52 := hxkd63 _ _ hk_b52
          have hk_b60 := hxkd63 _ _ hk_b60
          cases hE
        · replace hE := fw_om_some hq hE
          refine lv_iload_n hx hb d_ServingEnd_init_59 rfl (lv_at hl 0 rfl) ?_
          refine fw_new C R cl_1 nd_1 ft_new_4_20 ni_1 nj_1 (Nat.le_of_ble_eq_true rfl) (Nat.le_of_ble_eq_true rfl) d_ServingEnd_init_60 (fun H kd66 hxkd66 hk_new R => ?_)
          refine W.widen (k := 19) (n := 570) (by decide) (by decide) ?_
          obtain ⟨b65, eb65, hE⟩ := fw_let_ex hE
          obtain ⟨S64, eS64, hE⟩ := fw_let_ex hE
          rw [← eS64] at R
          rw [← eb65] at hk_new ⊢
          have hk_b65 := hk_new
          have hXkd66 := fw_X.tr hXkd55 hxkd66
          have hk_a0 := hxkd66 _ _ hk_a0
          have hk_b2 := hxkd66 _ _ hk_b2
          have hk_b8 := hxkd66 _ _ hk_b8
          have hk_b14 := hxkd66 _ _ hk_b14
          have hk_b19 := hxkd66 _ _ hk_b19
          have hk_b26 := hxkd66 _ _ hk_b26
          have hk_b32 := hxkd66 _ _ hk_b32
          have hk_b39 := hxkd66 _ _ hk_b39
          have hk_b45 := hxkd66 _ _ hk_b45
          have hk_b52 := hxkd66 _ _ hk_b52
          have hk_b58 := hxkd66 _ _ hk_b58
          clear eS64 eb65 hk_new
          refine lv_dup hx hb d_ServingEnd_init_63 rfl ?_
          obtain ⟨S67, hF, hE⟩ := fw_bind hE
          refine fw_callI (As := []) (rest := [.ref b65, .int (3 : Int32), .ref b58]) C R ft_callI_4_40 yi_Memory_init rfl (ct_Memory_init l G kd66 S64 _ _ hk_b65 hF) rfl hl.1 rfl (lv_room (Nat.le_of_ble_eq_true rfl)) ⟨Nat.le_of_ble_eq_true rfl, Nat.le_of_ble_eq_true rfl⟩ ⟨Nat.le_of_ble_eq_true rfl, Nat.le_of_ble_eq_true rfl⟩ d_ServingEnd_init_64 (fun H locs kd68 hxkd68 hP R => ?_)
          refine W.widen (k := 22) (n := 701) (by decide) (by decide) ?_
          have hXkd68 := fw_X.tr hXkd66 hxkd68
          have hk_a0 := hxkd68 _ _ hk_a0
          have hk_b2 := hxkd68 _ _ hk_b2
          have hk_b8 := hxkd68 _ _ hk_b8
          have hk_b14 := hxkd68 _ _ hk_b14
          have hk_b19 := hxkd68 _ _ hk_b19
          have hk_b26 := hxkd68 _ _ hk_b26
          have hk_b32 := hxkd68 _ _ hk_b32
          have hk_b39 := hxkd68 _ _ hk_b39
          have hk_b45 := hxkd68 _ _ hk_b45
          have hk_b52 := hxkd68 _ _ hk_b52
          have hk_b58 := hxkd68 _ _ hk_b58
          have hk_b65 := hxkd68 _ _ hk_b65
          obtain ⟨hi69, hE⟩ := fw_ifn hE
          refine fw_aast (K := 1) C R rfl (by decide) (by decide) hk_b58 hk_b65 hi69 d_ServingEnd_init_67 (fun H locs R => ?_)
          obtain ⟨S70, eS70, hE⟩ := fw_let_ex hE
          rw [← eS70] at R
          clear eS70
          refine lv_iinc (v := (4 : Int32)) (lv' := [(1, .int (4 : Int32)), (0, .ref a0)]) hx hb d_ServingEnd_init_68 hl (k := 0) rfl (by decide) (by decide) rfl (fun ls hl => ?_)
          refine lv_goto (tgt := 49) hx hb d_ServingEnd_init_71 (by decide) ?_
          refine lv_iload_n hx hb d_ServingEnd_init_49 rfl (lv_at hl 0 rfl) ?_
          refine lv_bipush (v := 8) hx hb d_ServingEnd_init_50 (by decide) ?_
          refine lv_icmp_ge (tgt := 74) hx hb d_ServingEnd_init_52 (by decide) (fun hc => absurd hc (by decide)) (fun _ => ?_)
          refine lv_aload_n hx hb d_ServingEnd_init_55 rfl (lv_at hl 1 rfl) ?_
          refine fw_getr C R ft_field_4_22 hk_a0 rfl rfl d_ServingEnd_init_56 (fun hq => ?_) (fun b71 hq hk_b71 => ?_)
          · replace hE := fw_om_none hq hE
            refine lv_iload_n hx hb d_ServingEnd_init_59 rfl (lv_at hl 0 rfl) ?_
            refine fw_new C R cl_1 nd_1 ft_new_4_20 ni_1 nj_1 (Nat.le_of_ble_eq_true rfl) (Nat.le_of_ble_eq_true rfl) d_ServingEnd_init_60 (fun H kd74 hxkd74 hk_new R => ?_)
            refine W.widen (k := 23) (n := 705) (by decide) (by decide) ?_
            obtain ⟨b73, eb73, hE⟩ := fw_let_ex hE
            obtain ⟨S72, eS72, hE⟩ := fw_let_ex hE
            rw [← eS72] at R
            rw [← eb73] at hk_new ⊢
            have hk_b73 := hk_new
            have hXkd74 := fw_X.tr hXkd68 hxkd74
            have hk_a0 := hxkd74 _ _ hk_a0
            have hk_b2 := hxkd74 _ _ hk_b2
            have hk_b8 := hxkd74 _ _ hk_b8
            have hk_b14 := hxkd74 _ _ hk_b14
            have hk_b19 := hxkd74 _ _ hk_b19
            have hk_b26 := hxkd74 _ _ hk_b26
            have hk_b32 := hxkd74 _ _ hk_b32
            have hk_b39 := hxkd74 _ _ hk_b39
            have hk_b45 := hxkd74 _ _ hk_b45
            have hk_b52 := hxkd74 _ _ hk_b52
            have hk_b58 := hxkd74 _ _ hk_b58
            have hk_b65 := hxkd74 _ _ hk_b65
            clear eS72 eb73 hk_new
            refine lv_dup hx hb d_ServingEnd_init_63 rfl ?_
            obtain ⟨S75, hF, hE⟩ := fw_bind hE
            refine fw_callI (As := []) (rest := [.ref b73, .int (4 : Int32), .null]) C R ft_callI_4_40 yi_Memory_init rfl (ct_Memory_init l G kd74 S72 _ _ hk_b73 hF) rfl hl.1 rfl (lv_room (Nat.le_of_ble_eq_true rfl)) ⟨Nat.le_of_ble_eq_true rfl, Nat.le_of_ble_eq_true rfl⟩ ⟨Nat.le_of_ble_eq_true rfl, Nat.le_of_ble_eq_true rfl⟩ d_ServingEnd_init_64 (fun H locs kd76 hxkd76 hP R => ?_)
            refine W.widen (k := 26) (n := 836) (by decide) (by decide) ?_
            have hXkd76 := fw_X.tr hXkd74 hxkd76
            have hk_a0 := hxkd76 _ _ hk_a0
            have hk_b2 := hxkd76 _ _ hk_b2
            have hk_b8 := hxkd76 _ _ hk_b8
            have hk_b14 := hxkd76 _ _ hk_b14
            have hk_b19 := hxkd76 _ _ hk_b19
            have hk_b26 := hxkd76 _ _ hk_b26
            have hk_b32 := hxkd76 _ _ hk_b32
            have hk_b39 := hxkd76 _ _ hk_b39
            have hk_b45 := hxkd76 _ _ hk_b45
            have hk_b52 := hxkd76 _ _ hk_b52
            have hk_b58 := hxkd76 _ _ hk_b58
            have hk_b65 := hxkd76 _ _ hk_b65
            have hk_b73 := hxkd76 _ _ hk_b73
            cases hE
          · replace hE := fw_om_some hq hE
            refine lv_iload_n hx hb d_ServingEnd_init_59 rfl (lv_at hl 0 rfl) ?_
            refine fw_new C R cl_1 nd_1 ft_new_4_20 ni_1 nj_1 (Nat.le_of_ble_eq_true rfl) (Nat.le_of_ble_eq_true rfl) d_ServingEnd_init_60 (fun H kd79 hxkd79 hk_new R => ?_)
            refine W.widen (k := 23) (n := 705) (by decide) (by decide) ?_
            obtain ⟨b78, eb78, hE⟩ := fw_let_ex hE
            obtain ⟨S77, eS77, hE⟩ := fw_let_ex hE
            rw [← eS77] at R
            rw [← eb78] at hk_new ⊢
            have hk_b78 := hk_new
            have hXkd79 := fw_X.tr hXkd68 hxkd79
            have hk_a0 := hxkd79 _ _ hk_a0
            have hk_b2 := hxkd79 _ _ hk_b2
            have hk_b8 := hxkd79 _ _ hk_b8
            have hk_b14 := hxkd79 _ _ hk_b14
            have hk_b19 := hxkd79 _ _ hk_b19
            have hk_b26 := hxkd79 _ _ hk_b26
            have hk_b32 := hxkd79 _ _ hk_b32
            have hk_b39 := hxkd79 _ _ hk_b39
            have hk_b45 := hxkd79 _ _ hk_b45
            have hk_b52 := hxkd79 _ _ hk_b52
            have hk_b58 := hxkd79 _ _ hk_b58
            have hk_b65 := hxkd79 _ _ hk_b65
            have hk_b71 := hxkd79 _ _ hk_b71
            clear eS77 eb78 hk_new
            refine lv_dup hx hb d_ServingEnd_init_63 rfl ?_
            obtain ⟨S80, hF, hE⟩ := fw_bind hE
            refine fw_callI (As := []) (rest := [.ref b78, .int (4 : Int32), .ref b71]) C R ft_callI_4_40 yi_Memory_init rfl (ct_Memory_init l G kd79 S77 _ _ hk_b78 hF) rfl hl.1 rfl (lv_room (Nat.le_of_ble_eq_true rfl)) ⟨Nat.le_of_ble_eq_true rfl, Nat.le_of_ble_eq_true rfl⟩ ⟨Nat.le_of_ble_eq_true rfl, Nat.le_of_ble_eq_true rfl⟩ d_ServingEnd_init_64 (fun H locs kd81 hxkd81 hP R => ?_)
            refine W.widen (k := 26) (n := 836) (by decide) (by decide) ?_
            have hXkd81 := fw_X.tr hXkd79 hxkd81
            have hk_a0 := hxkd81 _ _ hk_a0
            have hk_b2 := hxkd81 _ _ hk_b2
            have hk_b8 := hxkd81 _ _ hk_b8
            have hk_b14 := hxkd81 _ _ hk_b14
            have hk_b19 := hxkd81 _ _ hk_b19
            have hk_b26 := hxkd81 _ _ hk_b26
            have hk_b32 := hxkd81 _ _ hk_b32
            have hk_b39 := hxkd81 _ _ hk_b39
            have hk_b45 := hxkd81 _ _ hk_b45
            have hk_b52 := hxkd81 _ _ hk_b52
            have hk_b58 := hxkd81 _ _ hk_b58
            have hk_b65 := hxkd81 _ _ hk_b65
            have hk_b71 := hxkd81 _ _ hk_b71
            have hk_b78 := hxkd81 _ _ hk_b78
            obtain ⟨hi82, hE⟩ := fw_ifn hE
            refine fw_aast (K := 1) C R rfl (by decide) (by decide) hk_b71 hk_b78 hi82 d_ServingEnd_init_67 (fun H locs R => ?_)
            obtain ⟨S83, eS83, hE⟩ := fw_let_ex hE
            rw [← eS83] at R
            clear eS83
            refine lv_iinc (v := (5 : Int32)) (lv' := [(1, .int (5 : Int32)), (0, .ref a0)]) hx hb d_ServingEnd_init_68 hl (k := 0) rfl (by decide) (by decide) rfl (fun ls hl => ?_)
            refine lv_goto (tgt := 49) hx hb d_ServingEnd_init_71 (by decide) ?_
            refine lv_iload_n hx hb d_ServingEnd_init_49 rfl (lv_at hl 0 rfl) ?_
            refine lv_bipush (v := 8) hx hb d_ServingEnd_init_50 (by decide) ?_
            refine lv_icmp_ge (tgt := 74) hx hb d_ServingEnd_init_52 (by decide) (fun hc => absurd hc (by decide)) (fun _ => ?_)
            refine lv_aload_n hx hb d_ServingEnd_init_55 rfl (lv_at hl 1 rfl) ?_
            refine fw_getr C R ft_field_4_22 hk_a0 rfl rfl d_ServingEnd_init_56 (fun hq => ?_) (fun b84 hq hk_b84 => ?_)
            · replace hE := fw_om_none hq hE
              refine lv_iload_n hx hb d_ServingEnd_init_59 rfl (lv_at hl 0 rfl) ?_
              refine fw_new C R cl_1 nd_1 ft_new_4_20 ni_1 nj_1 (Nat.le_of_ble_eq_true rfl) (Nat.le_of_ble_eq_true rfl) d_ServingEnd_init_60 (fun H kd87 hxkd87 hk_new R => ?_)
              refine W.widen (k := 27) (n := 840) (by decide) (by decide) ?_
              obtain ⟨b86, eb86, hE⟩ := fw_let_ex hE
              obtain ⟨S85, eS85, hE⟩ := fw_let_ex hE
              rw [← eS85] at R
              rw [← eb86] at hk_new ⊢
              have hk_b86 := hk_new
              have hXkd87 := fw_X.tr hXkd81 hxkd87
              have hk_a0 := hxkd87 _ _ hk_a0
              have hk_b2 := hxkd87 _ _ hk_b2
              have hk_b8 := hxkd87 _ _ hk_b8
              have hk_b14 := hxkd87 _ _ hk_b14
              have hk_b19 := hxkd87 _ _ hk_b19
              have hk_b26 := hxkd87 _ _ hk_b26
              have hk_b32 := hxkd87 _ _ hk_b32
              have hk_b39 := hxkd87 _ _ hk_b39
              have hk_b45 := hxkd87 _ _ hk_b45
              have hk_b52 := hxkd87 _ _ hk_b52
              have hk_b58 := hxkd87 _ _ hk_b58
              have hk_b65 := hxkd87 _ _ hk_b65
              have hk_b71 := hxkd87 _ _ hk_b71
              have hk_b78 := hxkd87 _ _ hk_b78
              clear eS85 eb86 hk_new
              refine lv_dup hx hb d_ServingEnd_init_63 rfl ?_
              obtain ⟨S88, hF, hE⟩ := fw_bind hE
              refine fw_callI (As := []) (rest := [.ref b86, .int (5 : Int32), .null]) C R ft_callI_4_40 yi_Memory_init rfl (ct_Memory_init l G kd87 S85 _ _ hk_b86 hF) rfl hl.1 rfl (lv_room (Nat.le_of_ble_eq_true rfl)) ⟨Nat.le_of_ble_eq_true rfl, Nat.le_of_ble_eq_true rfl⟩ ⟨Nat.le_of_ble_eq_true rfl, Nat.le_of_ble_eq_true rfl⟩ d_ServingEnd_init_64 (fun H locs kd89 hxkd89 hP R => ?_)
              refine W.widen (k := 30) (n := 971) (by decide) (by decide) ?_
              have hXkd89 := fw_X.tr hXkd87 hxkd89
              have hk_a0 := hxkd89 _ _ hk_a0
              have hk_b2 := hxkd89 _ _ hk_b2
              have hk_b8 := hxkd89 _ _ hk_b8
              have hk_b14 := hxkd89 _ _ hk_b14
              have hk_b19 := hxkd89 _ _ hk_b19
              have hk_b26 := hxkd89 _ _ hk_b26
              have hk_b32 := hxkd89 _ _ hk_b32
              have hk_b39 := hxkd89 _ _ hk_b39
              have hk_b45 := hxkd89 _ _ hk_b45
              have hk_b52 := hxkd89 _ _ hk_b52
              have hk_b58 := hxkd89 _ _ hk_b58
              have hk_b65 := hxkd89 _ _ hk_b65
              have hk_b71 := hxkd89 _ _ hk_b71
              have hk_b78 := hxkd89 _ _ hk_b78
              have hk_b86 := hxkd89 _ _ hk_b86
              cases hE
            · replace hE := fw_om_some hq hE
              refine lv_iload_n hx hb d_ServingEnd_init_59 rfl (lv_at hl 0 rfl) ?_
              refine fw_new C R cl_1 nd_1 ft_new_4_20 ni_1 nj_1 (Nat.le_of_ble_eq_true rfl) (Nat.le_of_ble_eq_true rfl) d_ServingEnd_init_60 (fun H kd92 hxkd92 hk_new R => ?_)
              refine W.widen (k := 27) (n := 840) (by decide) (by decide) ?_
              obtain ⟨b91, eb91, hE⟩ := fw_let_ex hE
              obtain ⟨S90, eS90, hE⟩ := fw_let_ex hE
              rw [← eS90] at R
              rw [← eb91] at hk_new ⊢
              have hk_b91 := hk_new
              have hXkd92 := fw_X.tr hXkd81 hxkd92
              have hk_a0 := hxkd92 _ _ hk_a0
              have hk_b2 := hxkd92 _ _ hk_b2
              have hk_b8 := hxkd92 _ _ hk_b8
              have hk_b14 := hxkd92 _ _ hk_b14
              have hk_b19 := hxkd92 _ _ hk_b19
              have hk_b26 := hxkd92 _ _ hk_b26
              have hk_b32 := hxkd92 _ _ hk_b32
              have hk_b39 := hxkd92 _ _ hk_b39
              have hk_b45 := hxkd92 _ _ hk_b45
              have hk_b52 := hxkd92 _ _ hk_b52
              have hk_b58 := hxkd92 _ _ hk_b58
              have hk_b65 := hxkd92 _ _ hk_b65
              have hk_b71 := hxkd92 _ _ hk_b71
              have hk_b78 := hxkd92 _ _ hk_b78
              have hk_b84 := hxkd92 _ _ hk_b84
              clear eS90 eb91 hk_new
              refine lv_dup hx hb d_ServingEnd_init_63 rfl ?_
              obtain ⟨S93, hF, hE⟩ := fw_bind hE
              refine fw_callI (As := []) (rest := [.ref b91, .int (5 : Int32), .ref b84]) C R ft_callI_4_40 yi_Memory_init rfl (ct_Memory_init l G kd92 S90 _ _ hk_b91 hF) rfl hl.1 rfl (lv_room (Nat.le_of_ble_eq_true rfl)) ⟨Nat.le_of_ble_eq_true rfl, Nat.le_of_ble_eq_true rfl⟩ ⟨Nat.le_of_ble_eq_true rfl, Nat.le_of_ble_eq_true rfl⟩ d_ServingEnd_init_64 (fun H locs kd94 hxkd94 hP R => ?_)
              refine W.widen (k := 30) (n := 971) (by decide) (by decide) ?_
              have hXkd94 := fw_X.tr hXkd92 hxkd94
              have hk_a0 := hxkd94 _ _ hk_a0
              have hk_b2 := hxkd94 _ _ hk_b2
              have hk_b8 := hxkd94 _ _ hk_b8
              have hk_b14 := hxkd94 _ _ hk_b14
              have hk_b19 := hxkd94 _ _ hk_b19
              have hk_b26 := hxkd94 _ _ hk_b26
              have hk_b32 := hxkd94 _ _ hk_b32
              have hk_b39 := hxkd94 _ _ hk_b39
              have hk_b45 := hxkd94 _ _ hk_b45
              have hk_b52 := hxkd94 _ _ hk_b52
              have hk_b58 := hxkd94 _ _ hk_b58
              have hk_b65 := hxkd94 _ _ hk_b65
              have hk_b71 := hxkd94 _ _ hk_b71
              have hk_b78 := hxkd94 _ _ hk_b78
              have hk_b84 := hxkd94 _ _ hk_b84
              have hk_b91 := hxkd94 _ _ hk_b91
              obtain ⟨hi95, hE⟩ := fw_ifn hE
              refine fw_aast (K := 1) C R rfl (by decide) (by decide) hk_b84 hk_b91 hi95 d_ServingEnd_init_67 (fun H locs R => ?_)
              obtain ⟨S96, eS96, hE⟩ := fw_let_ex hE
              rw [← eS96] at R
              clear eS96
              refine lv_iinc (v := (6 : Int32)) (lv' := [(1, .int (6 : Int32)), (0, .ref a0)]) hx hb d_ServingEnd_init_68 hl (k := 0) rfl (by decide) (by decide) rfl (fun ls hl => ?_)
              refine lv_goto (tgt := 49) hx hb d_ServingEnd_init_71 (by decide) ?_
              refine lv_iload_n hx hb d_ServingEnd_init_49 rfl (lv_at hl 0 rfl) ?_
              refine lv_bipush (v := 8) hx hb d_ServingEnd_init_50 (by decide) ?_
              refine lv_icmp_ge (tgt := 74) hx hb d_ServingEnd_init_52 (by decide) (fun hc => absurd hc (by decide)) (fun _ => ?_)
              refine lv_aload_n hx hb d_ServingEnd_init_55 rfl (lv_at hl 1 rfl) ?_
              refine fw_getr C R ft_field_4_22 hk_a0 rfl rfl d_ServingEnd_init_56 (fun hq => ?_) (fun b97 hq hk_b97 => ?_)
              · replace hE := fw_om_none hq hE
                refine lv_iload_n hx hb d_ServingEnd_init_59 rfl (lv_at hl 0 rfl) ?_
                refine fw_new C R cl_1 nd_1 ft_new_4_20 ni_1 nj_1 (Nat.le_of_ble_eq_true rfl) (Nat.le_of_ble_eq_true rfl) d_ServingEnd_init_60 (fun H kd100 hxkd100 hk_new R => ?_)
                refine W.widen (k := 31) (n := 975) (by decide) (by decide) ?_
                obtain ⟨b99, eb99, hE⟩ := fw_let_ex hE
                obtain ⟨S98, eS98, hE⟩ := fw_let_ex hE
                rw [← eS98] at R
                rw [← eb99] at hk_new ⊢
                have hk_b99 := hk_new
                have hXkd100 := fw_X.tr hXkd94 hxkd100
                have hk_a0 := hxkd100 _ _ hk_a0
                have hk_b2 := hxkd100 _ _ hk_b2
                have hk_b8 := hxkd100 _ _ hk_b8
                have hk_b14 := hxkd100 _ _ hk_b14
                have hk_b19 := hxkd100 _ _ hk_b19
                have hk_b26 := hxkd100 _ _ hk_b26
                have hk_b32 := hxkd100 _ _ hk_b32
                have hk_b39 := hxkd100 _ _ hk_b39
                have hk_b45 := hxkd100 _ _ hk_b45
                have hk_b52 := hxkd100 _ _ hk_b52
                have hk_b58 := hxkd100 _ _ hk_b58
                have hk_b65 := hxkd100 _ _ hk_b65
                have hk_b71 := hxkd100 _ _ hk_b71
                have hk_b78 := hxkd100 _ _ hk_b78
                have hk_b84 := hxkd100 _ _ hk_b84
                have hk_b91 := hxkd100 _ _ hk_b91
                clear eS98 eb99 hk_new
                refine lv_dup hx hb d_ServingEnd_init_63 rfl ?_
                obtain ⟨S101, hF, hE⟩ := fw_bind hE
                refine fw_callI (As := []) (rest := [.ref b99, .int (6 : Int32), .null]) C R ft_callI_4_40 yi_Memory_init rfl (ct_Memory_init l G kd100 S98 _ _ hk_b99 hF) rfl hl.1 rfl (lv_room (Nat.le_of_ble_eq_true rfl)) ⟨Nat.le_of_ble_eq_true rfl, Nat.le_of_ble_eq_true rfl⟩ ⟨Nat.le_of_ble_eq_true rfl, Nat.le_of_ble_eq_true rfl⟩ d_ServingEnd_init_64 (fun H locs kd102 hxkd102 hP R => ?_)
                refine W.widen (k := 34) (n := 1106) (by decide) (by decide) ?_
                have hXkd102 := fw_X.tr hXkd100 hxkd102
                have hk_a0 := hxkd102 _ _ hk_a0
                have hk_b2 := hxkd102 _ _ hk_b2
                have hk_b8 := hxkd102 _ _ hk_b8
                have hk_b14 := hxkd102 _ _ hk_b14
                have hk_b19 := hxkd102 _ _ hk_b19
                have hk_b26 := hxkd102 _ _ hk_b26
                have hk_b32 := hxkd102 _ _ hk_b32
                have hk_b39 := hxkd102 _ _ hk_b39
                have hk_b45 := hxkd102 _ _ hk_b45
                have hk_b52 := hxkd102 _ _ hk_b52
                have hk_b58 := hxkd102 _ _ hk_b58
                have hk_b65 := hxkd102 _ _ hk_b65
                have hk_b71 := hxkd102 _ _ hk_b71
                have hk_b78 := hxkd102 _ _ hk_b78
                have hk_b84 := hxkd102 _ _ hk_b84
                have hk_b91 := hxkd102 _ _ hk_b91
                have hk_b99 := hxkd102 _ _ hk_b99
                cases hE
              · replace hE := fw_om_some hq hE
                refine lv_iload_n hx hb d_ServingEnd_init_59 rfl (lv_at hl 0 rfl) ?_
                refine fw_new C R cl_1 nd_1 ft_new_4_20 ni_1 nj_1 (Nat.le_of_ble_eq_true rfl) (Nat.le_of_ble_eq_true rfl) d_ServingEnd_init_60 (fun H kd105 hxkd105 hk_new R => ?_)
                refine W.widen (k := 31) (n := 975) (by decide) (by decide) ?_
                obtain ⟨b104, eb104, hE⟩ := fw_let_ex hE
                obtain ⟨S103, eS103, hE⟩ := fw_let_ex hE
                rw [← eS103] at R
                rw [← eb104] at hk_new ⊢
                have hk_b104 := hk_new
                have hXkd105 := fw_X.tr hXkd94 hxkd105
                have hk_a0 := hxkd105 _ _ hk_a0
                have hk_b2 := hxkd105 _ _ hk_b2
                have hk_b8 := hxkd105 _ _ hk_b8
                have hk_b14 := hxkd105 _ _ hk_b14
                have hk_b19 := hxkd105 _ _ hk_b19
                have hk_b26 := hxkd105 _ _ hk_b26
                have hk_b32 := hxkd105 _ _ hk_b32
                have hk_b39 := hxkd105 _ _ hk_b39
                have hk_b45 := hxkd105 _ _ hk_b45
                have hk_b52 := hxkd105 _ _ hk_b52
                have hk_b58 := hxkd105 _ _ hk_b58
                have hk_b65 := hxkd105 _ _ hk_b65
                have hk_b71 := hxkd105 _ _ hk_b71
                have hk_b78 := hxkd105 _ _ hk_b78
                have hk_b84 := hxkd105 _ _ hk_b84
                have hk_b91 := hxkd105 _ _ hk_b91
                have hk_b97 := hxkd105 _ _ hk_b97
                clear eS103 eb104 hk_new
                refine lv_dup hx hb d_ServingEnd_init_63 rfl ?_
                obtain ⟨S106, hF, hE⟩ := fw_bind hE
                refine fw_callI (As := []) (rest := [.ref b104, .int (6 : Int32), .ref b97]) C R ft_callI_4_40 yi_Memory_init rfl (ct_Memory_init l G kd105 S103 _ _ hk_b104 hF) rfl hl.1 rfl (lv_room (Nat.le_of_ble_eq_true rfl)) ⟨Nat.le_of_ble_eq_true rfl, Nat.le_of_ble_eq_true rfl⟩ ⟨Nat.le_of_ble_eq_true rfl, Nat.le_of_ble_eq_true rfl⟩ d_ServingEnd_init_64 (fun H locs kd107 hxkd107 hP R => ?_)
                refine W.widen (k := 34) (n := 1106) (by decide) (by decide) ?_
                have hXkd107 := fw_X.tr hXkd105 hxkd107
                have hk_a0 := hxkd107 _ _ hk_a0
                have hk_b2 := hxkd107 _ _ hk_b2
                have hk_b8 := hxkd107 _ _ hk_b8
                have hk_b14 := hxkd107 _ _ hk_b14
                have hk_b19 := hxkd107 _ _ hk_b19
                have hk_b26 := hxkd107 _ _ hk_b26
                have hk_b32 := hxkd107 _ _ hk_b32
                have hk_b39 := hxkd107 _ _ hk_b39
                have hk_b45 := hxkd107 _ _ hk_b45
                have hk_b52 := hxkd107 _ _ hk_b52
                have hk_b58 := hxkd107 _ _ hk_b58
                have hk_b65 := hxkd107 _ _ hk_b65
                have hk_b71 := hxkd107 _ _ hk_b71
                have hk_b78 := hxkd107 _ _ hk_b78
                have hk_b84 := hxkd107 _ _ hk_b84
                have hk_b91 := hxkd107 _ _ hk_b91
                have hk_b97 := hxkd107 _ _ hk_b97
                have hk_b104 := hxkd107 _ _ hk_b104
                obtain ⟨hi108, hE⟩ := fw_ifn hE
                refine fw_aast (K := 1) C R rfl (by decide) (by decide) hk_b97 hk_b104 hi108 d_ServingEnd_init_67 (fun H locs R => ?_)
                obtain ⟨S109, eS109, hE⟩ := fw_let_ex hE
                rw [← eS109] at R
                clear eS109
                refine lv_iinc (v := (7 : Int32)) (lv' := [(1, .int (7 : Int32)), (0, .ref a0)]) hx hb d_ServingEnd_init_68 hl (k := 0) rfl (by decide) (by decide) rfl (fun ls hl => ?_)
                refine lv_goto (tgt := 49) hx hb d_ServingEnd_init_71 (by decide) ?_
                refine lv_iload_n hx hb d_ServingEnd_init_49 rfl (lv_at hl 0 rfl) ?_
                refine lv_bipush (v := 8) hx hb d_ServingEnd_init_50 (by decide) ?_
                refine lv_icmp_ge (tgt := 74) hx hb d_ServingEnd_init_52 (by decide) (fun hc => absurd hc (by decide)) (fun _ => ?_)
                refine lv_aload_n hx hb d_ServingEnd_init_55 rfl (lv_at hl 1 rfl) ?_
                refine fw_getr C R ft_field_4_22 hk_a0 rfl rfl d_ServingEnd_init_56 (fun hq => ?_) (fun b110 hq hk_b110 => ?_)
                · replace hE := fw_om_none hq hE
                  refine lv_iload_n hx hb d_ServingEnd_init_59 rfl (lv_at hl 0 rfl) ?_
                  refine fw_new C R cl_1 nd_1 ft_new_4_20 ni_1 nj_1 (Nat.le_of_ble_eq_true rfl) (Nat.le_of_ble_eq_true rfl) d_ServingEnd_init_60 (fun H kd113 hxkd113 hk_new R => ?_)
                  refine W.widen (k := 35) (n := 1110) (by decide) (by decide) ?_
                  obtain ⟨b112, eb112, hE⟩ := fw_let_ex hE
                  obtain ⟨S111, eS111, hE⟩ := fw_let_ex hE
                  rw [← eS111] at R
                  rw [← eb112] at hk_new ⊢
                  have hk_b112 := hk_new
                  have hXkd113 := fw_X.tr hXkd107 hxkd113
                  have hk_a0 := hxkd113 _ _ hk_a0
                  have hk_b2 := hxkd113 _ _ hk_b2
                  have hk_b8 := hxkd113 _ _ hk_b8
                  have hk_b14 := hxkd113 _ _ hk_b14
                  have hk_b19 := hxkd113 _ _ hk_b19
                  have hk_b26 := hxkd113 _ _ hk_b26
                  have hk_b32 := hxkd113 _ _ hk_b32
                  have hk_b39 := hxkd113 _ _ hk_b39
                  have hk_b45 := hxkd113 _ _ hk_b45
                  have hk_b52 := hxkd113 _ _ hk_b52
                  have hk_b58 := hxkd113 _ _ hk_b58
                  have hk_b65 := hxkd113 _ _ hk_b65
                  have hk_b71 := hxkd113 _ _ hk_b71
                  have hk_b78 := hxkd113 _ _ hk_b78
                  have hk_b84 := hxkd113 _ _ hk_b84
                  have hk_b91 := hxkd113 _ _ hk_b91
                  have hk_b97 := hxkd113 _ _ hk_b97
                  have hk_b104 := hxkd113 _ _ hk_b104
                  clear eS111 eb112 hk_new
                  refine lv_dup hx hb d_ServingEnd_init_63 rfl ?_
                  obtain ⟨S114, hF, hE⟩ := fw_bind hE
                  refine fw_callI (As := []) (rest := [.ref b112, .int (7 : Int32), .null]) C R ft_callI_4_40 yi_Memory_init rfl (ct_Memory_init l G kd113 S111 _ _ hk_b112 hF) rfl hl.1 rfl (lv_room (Nat.le_of_ble_eq_true rfl)) ⟨Nat.le_of_ble_eq_true rfl, Nat.le_of_ble_eq_true rfl⟩ ⟨Nat.le_of_ble_eq_true rfl, Nat.le_of_ble_eq_true rfl⟩ d_ServingEnd_init_64 (fun H locs kd115 hxkd115 hP R => ?_)
                  refine W.widen (k := 38) (n := 1241) (by decide) (by decide) ?_
                  have hXkd115 := fw_X.tr hXkd113 hxkd115
                  have hk_a0 := hxkd115 _ _ hk_a0
                  have hk_b2 := hxkd115 _ _ hk_b2
                  have hk_b8 := hxkd115 _ _ hk_b8
                  have hk_b14 := hxkd115 _ _ hk_b14
                  have hk_b19 := hxkd115 _ _ hk_b19
                  have hk_b26 := hxkd115 _ _ hk_b26
                  have hk_b32 := hxkd115 _ _ hk_b32
                  have hk_b39 := hxkd115 _ _ hk_b39
                  have hk_b45 := hxkd115 _ _ hk_b45
                  have hk_b52 := hxkd115 _ _ hk_b52
                  have hk_b58 := hxkd115 _ _ hk_b58
                  have hk_b65 := hxkd115 _ _ hk_b65
                  have hk_b71 := hxkd115 _ _ hk_b71
                  have hk_b78 := hxkd115 _ _ hk_b78
                  have hk_b84 := hxkd115 _ _ hk_b84
                  have hk_b91 := hxkd115 _ _ hk_b91
                  have hk_b97 := hxkd115 _ _ hk_b97
                  have hk_b104 := hxkd115 _ _ hk_b104
                  have hk_b112 := hxkd115 _ _ hk_b112
                  cases hE
                · replace hE := fw_om_some hq hE
                  refine lv_iload_n hx hb d_ServingEnd_init_59 rfl (lv_at hl 0 rfl) ?_
                  refine fw_new C R cl_1 nd_1 ft_new_4_20 ni_1 nj_1 (Nat.le_of_ble_eq_true rfl) (Nat.le_of_ble_eq_true rfl) d_ServingEnd_init_60 (fun H kd118 hxkd118 hk_new R => ?_)
                  refine W.widen (k := 35) (n := 1110) (by decide) (by decide) ?_
                  obtain ⟨b117, eb117, hE⟩ := fw_let_ex hE
                  obtain ⟨S116, eS116, hE⟩ := fw_let_ex hE
                  rw [← eS116] at R
                  rw [← eb117] at hk_new ⊢
                  have hk_b117 := hk_new
                  have hXkd118 := fw_X.tr hXkd107 hxkd118
                  have hk_a0 := hxkd118 _ _ hk_a0
                  have hk_b2 := hxkd118 _ _ hk_b2
                  have hk_b8 := hxkd118 _ _ hk_b8
                  have hk_b14 := hxkd118 _ _ hk_b14
                  have hk_b19 := hxkd118 _ _ hk_b19
                  have hk_b26 := hxkd118 _ _ hk_b26
                  have hk_b32 := hxkd118 _ _ hk_b32
                  have hk_b39 := hxkd118 _ _ hk_b39
                  have hk_b45 := hxkd118 _ _ hk_b45
                  have hk_b52 := hxkd118 _ _ hk_b52
                  have hk_b58 := hxkd118 _ _ hk_b58
                  have hk_b65 := hxkd118 _ _ hk_b65
                  have hk_b71 := hxkd118 _ _ hk_b71
                  have hk_b78 := hxkd118 _ _ hk_b78
                  have hk_b84 := hxkd118 _ _ hk_b84
                  have hk_b91 := hxkd118 _ _ hk_b91
                  have hk_b97 := hxkd118 _ _ hk_b97
                  have hk_b104 := hxkd118 _ _ hk_b104
                  have hk_b110 := hxkd118 _ _ hk_b110
                  clear eS116 eb117 hk_new
                  refine lv_dup hx hb d_ServingEnd_init_63 rfl ?_
                  obtain ⟨S119, hF, hE⟩ := fw_bind hE
                  refine fw_callI (As := []) (rest := [.ref b117, .int (7 : Int32), .ref b110]) C R ft_callI_4_40 yi_Memory_init rfl (ct_Memory_init l G kd118 S116 _ _ hk_b117 hF) rfl hl.1 rfl (lv_room (Nat.le_of_ble_eq_true rfl)) ⟨Nat.le_of_ble_eq_true rfl, Nat.le_of_ble_eq_true rfl⟩ ⟨Nat.le_of_ble_eq_true rfl, Nat.le_of_ble_eq_true rfl⟩ d_ServingEnd_init_64 (fun H locs kd120 hxkd120 hP R => ?_)
                  refine W.widen (k := 38) (n := 1241) (by decide) (by decide) ?_
                  have hXkd120 := fw_X.tr hXkd118 hxkd120
                  have hk_a0 := hxkd120 _ _ hk_a0
                  have hk_b2 := hxkd120 _ _ hk_b2
                  have hk_b8 := hxkd120 _ _ hk_b8
                  have hk_b14 := hxkd120 _ _ hk_b14
                  have hk_b19 := hxkd120 _ _ hk_b19
                  have hk_b26 := hxkd120 _ _ hk_b26
                  have hk_b32 := hxkd120 _ _ hk_b32
                  have hk_b39 := hxkd120 _ _ hk_b39
                  have hk_b45 := hxkd120 _ _ hk_b45
                  have hk_b52 := hxkd120 _ _ hk_b52
                  have hk_b58 := hxkd120 _ _ hk_b58
                  have hk_b65 := hxkd120 _ _ hk_b65
                  have hk_b71 := hxkd120 _ _ hk_b71
                  have hk_b78 := hxkd120 _ _ hk_b78
                  have hk_b84 := hxkd120 _ _ hk_b84
                  have hk_b91 := hxkd120 _ _ hk_b91
                  have hk_b97 := hxkd120 _ _ hk_b97
                  have hk_b104 := hxkd120 _ _ hk_b104
                  have hk_b110 := hxkd120 _ _ hk_b110
                  have hk_b117 := hxkd120 _ _ hk_b117
                  obtain ⟨hi121, hE⟩ := fw_ifn hE
                  refine fw_aast (K := 1) C R rfl (by decide) (by decide) hk_b110 hk_b117 hi121 d_ServingEnd_init_67 (fun H locs R => ?_)
                  obtain ⟨S122, eS122, hE⟩ := fw_let_ex hE
                  rw [← eS122] at R
                  clear eS122
                  refine lv_iinc (v := (8 : Int32)) (lv' := [(1, .int (8 : Int32)), (0, .ref a0)]) hx hb d_ServingEnd_init_68 hl (k := 0) rfl (by decide) (by decide) rfl (fun ls hl => ?_)
                  refine lv_goto (tgt := 49) hx hb d_ServingEnd_init_71 (by decide) ?_
                  refine lv_iload_n hx hb d_ServingEnd_init_49 rfl (lv_at hl 0 rfl) ?_
                  refine lv_bipush (v := 8) hx hb d_ServingEnd_init_50 (by decide) ?_
                  refine lv_icmp_ge (tgt := 74) hx hb d_ServingEnd_init_52 (by decide) (fun _ => ?_) (fun hc => absurd (by decide) hc)
                  cases hE
                  refine W.widen (k := 38) (n := 1241) (Nat.le_of_ble_eq_true rfl) (Nat.le_of_ble_eq_true rfl) ?_
                  exact fw_vret C hXkd120 trivial R d_ServingEnd_init_74
set_option maxHeartbeats 4000000 in
set_option maxRecDepth 100000 in
theorem ct_ServingEnd_memoryAt (l : Launch) (G : fw_G) (kd0 : Nat → Option Nat) (S0 : fw_S) (a0 : Nat) (p1 : Int32) (r0 : Option Nat) (hk_a0 : kd0 a0 = some 4) (hE : F_ServingEnd_memoryAt a0 p1 S0 = some r0) : fw_M l G y_ServingEnd_memoryAt prog_6_method_4_code 2 (some (.object "FederationWire$Memory")) 0 0 0 0 kd0 S0 ([.ref a0, .int p1] : List Value) (some (va_rf r0)) S0 (fun k => k = kd0 ∧ ∀ b, r0 = some b → k b = some 1) := by
  refine fw_start (by decide) (Nat.le_of_ble_eq_true rfl) ?_
  intro p e s m below meth c ls C hnm R hl
  clear hnm
  have hx := C.1
  have hb := C.2.1
  have hl : lv_has ls 2 [(0, .ref a0), (1, .int p1)] := hl
  unfold F_ServingEnd_memoryAt at hE
  refine lv_iload_n hx hb d_ServingEnd_memoryAt_0 rfl (lv_at hl 1 rfl) ?_
  refine lv_if_lt (tgt := 30) hx hb d_ServingEnd_memoryAt_1 (by decide) (fun hc => ?_) (fun hc => ?_)
  · replace hE := fw_if_t hc hE
    refine lv_null hx hb d_ServingEnd_memoryAt_30 ?_
    cases hE
    exact fw_aret (o := none) C fw_X.rf ⟨rfl, (fun _ h => by cases h)⟩ R d_ServingEnd_memoryAt_31
  · replace hE := fw_if_f hc hE
    refine lv_iload_n hx hb d_ServingEnd_memoryAt_4 rfl (lv_at hl 1 rfl) ?_
    refine lv_aload_n hx hb d_ServingEnd_memoryAt_5 rfl (lv_at hl 0 rfl) ?_
    refine fw_get (v := .int (fw_g S0 a0 2)) C R ft_field_4_26 hk_a0 rfl d_ServingEnd_memoryAt_6 ?_
    refine lv_icmp_ge (tgt := 30) hx hb d_ServingEnd_memoryAt_9 (by decide) (fun hc => ?_) (fun hc => ?_)
    · replace hE := fw_if_t hc hE
      refine lv_null hx hb d_ServingEnd_memoryAt_30 ?_
      cases hE
      exact fw_aret (o := none) C fw_X.rf ⟨rfl, (fun _ h => by cases h)⟩ R d_ServingEnd_memoryAt_31
    · replace hE := fw_if_f hc hE
      refine lv_iload_n hx hb d_ServingEnd_memoryAt_12 rfl (lv_at hl 1 rfl) ?_
      refine lv_aload_n hx hb d_ServingEnd_memoryAt_13 rfl (lv_at hl 0 rfl) ?_
      refine fw_getr C R ft_field_4_22 hk_a0 rfl rfl d_ServingEnd_memoryAt_14 (fun hq => ?_) (fun b1 hq hk_b1 => ?_)
      · replace hE := fw_om_none hq hE
        cases hE
      · replace hE := fw_om_some hq hE
        refine fw_alen (K := 201) (ty := .object "FederationWire$Memory") C R (by decide) (by decide) hk_b1 d_ServingEnd_memoryAt_17 ?_
        refine lv_icmp_ge (tgt := 30) hx hb d_ServingEnd_memoryAt_18 (by decide) (fun hc => ?_) (fun hc => ?_)
        · replace hE := fw_if_t hc hE
          refine lv_null hx hb d_ServingEnd_memoryAt_30 ?_
          cases hE
          exact fw_aret (o := none) C fw_X.rf ⟨rfl, (fun _ h => by cases h)⟩ R d_ServingEnd_memoryAt_31
        · replace hE := fw_if_f hc hE
          refine lv_aload_n hx hb d_ServingEnd_memoryAt_21 rfl (lv_at hl 0 rfl) ?_
          refine fw_getr C R ft_field_4_22 hk_a0 rfl rfl d_ServingEnd_memoryAt_22 (fun hq => ?_) (fun b2 hq hk_b2 => ?_)
          · replace hE := fw_om_none hq hE
            refine lv_iload_n hx hb d_ServingEnd_memoryAt_25 rfl (lv_at hl 1 rfl) ?_
            cases hE
          · replace hE := fw_om_some hq hE
            refine lv_iload_n hx hb d_ServingEnd_memoryAt_25 rfl (lv_at hl 1 rfl) ?_
            obtain ⟨hi3, hE⟩ := fw_ifn hE
            refine fw_aaldr (K := 1) (ty := .object "FederationWire$Memory") C R (by decide) rfl hk_b2 hi3 d_ServingEnd_memoryAt_26 (fun hq => ?_) (fun b4 hq hk_b4 => ?_)
            · replace hE := fw_om_none hq hE
              refine lv_goto (tgt := 31) hx hb d_ServingEnd_memoryAt_27 (by decide) ?_
              cases hE
              exact fw_aret (o := none) C fw_X.rf ⟨rfl, (fun _ h => by cases h)⟩ R d_ServingEnd_memoryAt_31
            · replace hE := fw_om_some hq hE
              refine lv_goto (tgt := 31) hx hb d_ServingEnd_memoryAt_27 (by decide) ?_
              cases hE
              exact fw_aret (o := (some b4)) C fw_X.rf ⟨rfl, (fun _ h => by cases h; exact hk_b4)⟩ R d_ServingEnd_memoryAt_31
set_option maxHeartbeats 4000000 in
set_option maxRecDepth 100000 in
theorem ct_ServingEnd_placeOf (l : Launch) (G : fw_G) (kd0 : Nat → Option Nat) (S0 : fw_S) (a0 : Nat) (p1 : Int32) (r0 : Int32) (hk_a0 : kd0 a0 = some 4) (hE : F_ServingEnd_placeOf a0 p1 S0 = some r0) : fw_M l G y_ServingEnd_placeOf prog_6_method_5_code 4 (some .int) 1 21 0 0 kd0 S0 ([.ref a0, .int p1] : List Value) (some (.int r0)) S0 (fun k => k = kd0) := by
  refine fw_start (by decide) (Nat.le_of_ble_eq_true rfl) ?_
  intro p e s m below meth c ls C hnm R hl
  clear hnm
  have hx := C.1
  have hb := C.2.1
  have hl : lv_has ls 4 [(0, .ref a0), (1, .int p1)] := hl
  have h_l2 : ∀ (n : Nat), ∀ v0 : Nat, ∀ v1 : Int32, ∀ v2 : Int32, kd0 v0 = some 4 → ∀ (H : Heap) (locs : List Loc) (ls : Array Slot), fw_R G kd0 S0 H locs → lv_has ls 4 [(0, .ref v0), (1, .int v1), (2, .int v2)] → F_ServingEnd_placeOf_l2 S0 n v0 v1 v2 = some r0 → W p l e { frames := 1, cells := 0, slots := 0, locals := 21 } s m ([.ref a0, .int p1] : List Value).toArray below meth c H locs 0 0 (MQ below (fw_Q G kd0 (some (.int r0)) S0 (fun k => k = kd0)) ([.ref a0, .int p1] : List Value).toArray s 0 0 (fw_A G)) (F0 m 2 ls []) := by
    intro n
    induction n with
    | zero =>
      intro v0 v1 v2 hk_v0 H locs ls R hl hE
      rw [F_ServingEnd_placeOf_l2] at hE
      cases hE
    | succ n ih =>
      intro v0 v1 v2 hk_v0 H locs ls R hl hE
      rw [F_ServingEnd_placeOf_l2] at hE
      refine lv_iload_n hx hb d_ServingEnd_placeOf_2 rfl (lv_at hl 2 rfl) ?_
      refine lv_aload_n hx hb d_ServingEnd_placeOf_3 rfl (lv_at hl 0 rfl) ?_
      refine fw_get (v := .int (fw_g S0 v0 2)) C R ft_field_4_26 hk_v0 rfl d_ServingEnd_placeOf_4 ?_
      refine lv_icmp_ge (tgt := 36) hx hb d_ServingEnd_placeOf_7 (by decide) (fun hc => ?_) (fun hc => ?_)
      · replace hE := fw_if_t hc hE
        refine lv_bipush (v := -2) hx hb d_ServingEnd_placeOf_36 (by decide) ?_
        cases hE
        exact fw_iret C fw_X.rf rfl R d_ServingEnd_placeOf_38
      · replace hE := fw_if_f hc hE
        refine lv_aload_n hx hb d_ServingEnd_placeOf_10 rfl (lv_at hl 0 rfl) ?_
        refine lv_iload_n hx hb d_ServingEnd_placeOf_11 rfl (lv_at hl 2 rfl) ?_
        obtain ⟨o1, hF, hE⟩ := fw_bind hE
        refine fw_callV (As := [.int v2]) (rest := []) C R ft_callV_4_48 yi_ServingEnd_memoryAt ys_ServingEnd_memoryAt (ct_ServingEnd_memoryAt l G kd0 S0 _ _ _ hk_v0 hF) hk_v0 (by decide) rfl rfl hl.1 rfl (lv_room (Nat.le_of_ble_eq_true rfl)) ⟨Nat.le_of_ble_eq_true rfl, Nat.le_of_ble_eq_true rfl⟩ ⟨Nat.le_of_ble_eq_true rfl, Nat.le_of_ble_eq_true rfl⟩ d_ServingEnd_placeOf_12 (fun H locs kd2 hxkd2 hP R => ?_)
        obtain ⟨hP0, hP⟩ := hP
        rw [hP0] at hP R; clear hP0 hxkd2
        cases o1 with
        | none =>
          replace hE := fw_om_none rfl hE
          refine lv_astore_nN (lv' := [(3, .null), (0, .ref v0), (1, .int v1), (2, .int v2)]) hx hb d_ServingEnd_placeOf_15 rfl hl (by decide) rfl (fun ls hl => ?_)
          refine lv_aload_nN hx hb d_ServingEnd_placeOf_16 rfl (lv_at hl 0 rfl) ?_
          refine lv_ifnullN (tgt := 30) hx hb d_ServingEnd_placeOf_17 (by decide) ?_
          refine lv_iinc (v := (v2 + (1 : Int32))) (lv' := [(2, .int (v2 + (1 : Int32))), (3, .null), (0, .ref v0), (1, .int v1)]) hx hb d_ServingEnd_placeOf_30 hl (k := 3) rfl rfl (by decide) rfl (fun ls hl => ?_)
          refine lv_goto (tgt := 2) hx hb d_ServingEnd_placeOf_33 (by decide) ?_
          exact ih _ _ _ hk_v0 _ _ _ R (lv_sub hl [2, 3, 0] rfl) hE
        | some b3 =>
          replace hE := fw_om_some rfl hE
          have hk_b3 := hP _ rfl
          clear hP
          refine lv_astore_n (lv' := [(3, .ref b3), (0, .ref v0), (1, .int v1), (2, .int v2)]) hx hb d_ServingEnd_placeOf_15 rfl hl (by decide) rfl (fun ls hl => ?_)
          refine lv_aload_n hx hb d_ServingEnd_placeOf_16 rfl (lv_at hl 0 rfl) ?_
          refine lv_ifnull hx hb d_ServingEnd_placeOf_17 ?_
          refine lv_aload_n hx hb d_ServingEnd_placeOf_20 rfl (lv_at hl 0 rfl) ?_
          refine fw_get (v := .int (fw_g S0 b3 0)) C R ft_field_4_85 hk_b3 rfl d_ServingEnd_placeOf_21 ?_
          refine lv_iload_n hx hb d_ServingEnd_placeOf_24 rfl (lv_at hl 2 rfl) ?_
          refine lv_icmp_ne (tgt := 30) hx hb d_ServingEnd_placeOf_25 (by decide) (fun hc => ?_) (fun hc => ?_)
          · replace hE := fw_if_f hc hE
            refine lv_iinc (v := (v2 + (1 : Int32))) (lv' := [(2, .int (v2 + (1 : Int32))), (3, .ref b3), (0, .ref v0), (1, .int v1)]) hx hb d_ServingEnd_placeOf_30 hl (k := 3) rfl rfl (by decide) rfl (fun ls hl => ?_)
            refine lv_goto (tgt := 2) hx hb d_ServingEnd_placeOf_33 (by decide) ?_
            exact ih _ _ _ hk_v0 _ _ _ R (lv_sub hl [2, 3, 0] rfl) hE
          · replace hE := fw_if_t hc hE
            refine lv_iload_n hx hb d_ServingEnd_placeOf_28 rfl (lv_at hl 3 rfl) ?_
            cases hE
            exact fw_iret C fw_X.rf rfl R d_ServingEnd_placeOf_29
  unfold F_ServingEnd_placeOf at hE
  refine lv_iconst (v := 0) hx hb d_ServingEnd_placeOf_0 (by decide) ?_
  refine lv_istore_n (lv' := [(2, .int (0 : Int32)), (0, .ref a0), (1, .int p1)]) hx hb d_ServingEnd_placeOf_1 rfl hl (by decide) rfl (fun ls hl => ?_)
  exact h_l2 _ _ _ _ hk_a0 _ _ _ R (lv_sub hl [1, 2, 0] rfl) hE
set_option maxHeartbeats 4000000 in
set_option maxRecDepth 100000 in
theorem ct_ServingEnd_memoryFor (l : Launch) (G : fw_G) (kd0 : Nat → Option Nat) (S0 : fw_S) (a0 : Nat) (p1 : Int32) (r0 : Option Nat) (S' : fw_S) (hk_a0 : kd0 a0 = some 4) (hE : F_ServingEnd_memoryFor a0 p1 S0 = some (r0, S')) : fw_M l G y_ServingEnd_memoryFor prog_6_method_6_code 5 (some (.object "FederationWire$Memory")) 2 44 0 0 kd0 S0 ([.ref a0, .int p1] : List Value) (some (va_rf r0)) S' (fun k => k = kd0 ∧ ∀ b, r0 = some b → k b = some 1) := by
  refine fw_start (by decide) (Nat.le_of_ble_eq_true rfl) ?_
  intro p e s m below meth c ls C hnm R hl
  clear hnm
  have hx := C.1
  have hb := C.2.1
  have hl : lv_has ls 5 [(0, .ref a0), (1, .int p1)] := hl
  have h_j90 : ∀ v0 : Nat, ∀ S0 : fw_S, kd0 v0 = some 4 → ∀ (H : Heap) (locs : List Loc) (ls : Array Slot), fw_R G kd0 S0 H locs → lv_has ls 5 [(0, .ref v0), (3, .null)] → F_ServingEnd_memoryFor_j90 v0 S0 = some (r0, S') → W p l e { frames := 2, cells := 0, slots := 0, locals := 44 } s m ([.ref a0, .int p1] : List Value).toArray below meth c H locs 0 0 (MQ below (fw_Q G kd0 (some (va_rf r0)) S' (fun k => k = kd0 ∧ ∀ b, r0 = some b → k b = some 1)) ([.ref a0, .int p1] : List Value).toArray s 0 0 (fw_A G)) (F0 m 90 ls []) := by
    intro v0 S0 hk_v0 H locs ls R hl hE
    unfold F_ServingEnd_memoryFor_j90 at hE
    refine lv_aload_n hx hb d_ServingEnd_memoryFor_90 rfl (lv_at hl 0 rfl) ?_
    refine fw_get (v := .int (fw_g S0 v0 2)) C R ft_field_4_26 hk_v0 rfl d_ServingEnd_memoryFor_91 ?_
    refine lv_iconst (v := 1) hx hb d_ServingEnd_memoryFor_94 (by decide) ?_
    refine lv_isub hx hb d_ServingEnd_memoryFor_95 ?_
    refine lv_topi (fun x6 ex6 => ?_)
    replace hE := fw_let_use ex6 hE
    clear ex6
    refine lv_istore (lv' := [(4, .int x6), (0, .ref v0), (3, .null)]) hx hb d_ServingEnd_memoryFor_96 hl (by decide) rfl (fun ls hl => ?_)
    refine lv_iload hx hb d_ServingEnd_memoryFor_98 (lv_at hl 0 rfl) ?_
    refine lv_if_lt (tgt := 121) hx hb d_ServingEnd_memoryFor_100 (by decide) (fun hc => ?_) (fun hc => ?_)
    · replace hE := fw_if_t hc hE
      refine lv_aload_nN hx hb d_ServingEnd_memoryFor_121 rfl (lv_at hl 2 rfl) ?_
      cases hE
      exact fw_aret (o := none) C fw_X.rf ⟨rfl, (fun _ h => by cases h)⟩ R d_ServingEnd_memoryFor_122
    · replace hE := fw_if_f hc hE
      refine lv_iload hx hb d_ServingEnd_memoryFor_103 (lv_at hl 0 rfl) ?_
      refine lv_aload_n hx hb d_ServingEnd_memoryFor_105 rfl (lv_at hl 1 rfl) ?_
      refine fw_getr C R ft_field_4_22 hk_v0 rfl rfl d_ServingEnd_memoryFor_106 (fun hq => ?_) (fun b7 hq hk_b7 => ?_)
      · replace hE := fw_om_none hq hE
        cases hE
      · replace hE := fw_om_some hq hE
        refine fw_alen (K := 201) (ty := .object "FederationWire$Memory") C R (by decide) (by decide) hk_b7 d_ServingEnd_memoryFor_109 ?_
        refine lv_icmp_ge (tgt := 121) hx hb d_ServingEnd_memoryFor_110 (by decide) (fun hc => ?_) (fun hc => ?_)
        · replace hE := fw_if_t hc hE
          refine lv_aload_nN hx hb d_ServingEnd_memoryFor_121 rfl (lv_at hl 2 rfl) ?_
          cases hE
          exact fw_aret (o := none) C fw_X.rf ⟨rfl, (fun _ h => by cases h)⟩ R d_ServingEnd_memoryFor_122
        · replace hE := fw_if_f hc hE
          refine lv_aload_n hx hb d_ServingEnd_memoryFor_113 rfl (lv_at hl 1 rfl) ?_
          refine fw_getr C R ft_field_4_22 hk_v0 rfl rfl d_ServingEnd_memoryFor_114 (fun hq => ?_) (fun b8 hq hk_b8 => ?_)
          · replace hE := fw_om_none hq hE
            refine lv_iload hx hb d_ServingEnd_memoryFor_117 (lv_at hl 0 rfl) ?_
            refine lv_aload_nN hx hb d_ServingEnd_memoryFor_119 rfl (lv_at hl 2 rfl) ?_
            cases hE
          · replace hE := fw_om_some hq hE
            refine lv_iload hx hb d_ServingEnd_memoryFor_117 (lv_at hl 0 rfl) ?_
            refine lv_aload_nN hx hb d_ServingEnd_memoryFor_119 rfl (lv_at hl 2 rfl) ?_
            obtain ⟨hi9, hE⟩ := fw_ifn hE
            refine fw_aastN (K := 1) (Cn := "FederationWire$Memory") C R (by decide) hk_b8 hi9 d_ServingEnd_memoryFor_120 (fun H locs R => ?_)
            obtain ⟨S10, eS10, hE⟩ := fw_let_ex hE
            rw [← eS10] at R
            clear eS10
            refine lv_aload_nN hx hb d_ServingEnd_memoryFor_121 rfl (lv_at hl 2 rfl) ?_
            cases hE
            exact fw_aret (o := none) C fw_X.rf ⟨rfl, (fun _ h => by cases h)⟩ R d_ServingEnd_memoryFor_122
  have h_l45 : ∀ (n : Nat), ∀ v0 : Nat, ∀ v4 : Int32, ∀ S0 : fw_S, kd0 v0 = some 4 → ∀ (H : Heap) (locs : List Loc) (ls : Array Slot), fw_R G kd0 S0 H locs → lv_has ls 5 [(0, .ref v0), (3, .null), (4, .int v4)] → F_ServingEnd_memoryFor_l45 n v0 v4 S0 = some (r0, S') → W p l e { frames := 2, cells := 0, slots := 0, locals := 44 } s m ([.ref a0, .int p1] : List Value).toArray below meth c H locs 0 0 (MQ below (fw_Q G kd0 (some (va_rf r0)) S' (fun k => k = kd0 ∧ ∀ b, r0 = some b → k b = some 1)) ([.ref a0, .int p1] : List Value).toArray s 0 0 (fw_A G)) (F0 m 45 ls []) := by
    intro n
    induction n with
    | zero =>
      intro v0 v4 S0 hk_v0 H locs ls R hl hE
      rw [F_ServingEnd_memoryFor_l45] at hE
      cases hE
    | succ n ih =>
      intro v0 v4 S0 hk_v0 H locs ls R hl hE
      rw [F_ServingEnd_memoryFor_l45] at hE
      refine lv_iload hx hb d_ServingEnd_memoryFor_45 (lv_at hl 2 rfl) ?_
      refine lv_iconst (v := 1) hx hb d_ServingEnd_memoryFor_47 (by decide) ?_
      refine lv_iadd hx hb d_ServingEnd_memoryFor_48 ?_
      refine lv_aload_n hx hb d_ServingEnd_memoryFor_49 rfl (lv_at hl 0 rfl) ?_
      refine fw_get (v := .int (fw_g S0 v0 2)) C R ft_field_4_26 hk_v0 rfl d_ServingEnd_memoryFor_50 ?_
      refine lv_icmp_ge (tgt := 90) hx hb d_ServingEnd_memoryFor_53 (by decide) (fun hc => ?_) (fun hc => ?_)
      · replace hE := fw_if_t hc hE
        exact h_j90 _ _ hk_v0 _ _ _ R (lv_sub hl [0, 1] rfl) hE
      · replace hE := fw_if_f hc hE
        refine lv_iload hx hb d_ServingEnd_memoryFor_56 (lv_at hl 2 rfl) ?_
        refine lv_iconst (v := 1) hx hb d_ServingEnd_memoryFor_58 (by decide) ?_
        refine lv_iadd hx hb d_ServingEnd_memoryFor_59 ?_
        refine lv_aload_n hx hb d_ServingEnd_memoryFor_60 rfl (lv_at hl 0 rfl) ?_
        refine fw_getr C R ft_field_4_22 hk_v0 rfl rfl d_ServingEnd_memoryFor_61 (fun hq => ?_) (fun b11 hq hk_b11 => ?_)
        · replace hE := fw_om_none hq hE
          cases hE
        · replace hE := fw_om_some hq hE
          refine fw_alen (K := 201) (ty := .object "FederationWire$Memory") C R (by decide) (by decide) hk_b11 d_ServingEnd_memoryFor_64 ?_
          refine lv_icmp_ge (tgt := 90) hx hb d_ServingEnd_memoryFor_65 (by decide) (fun hc => ?_) (fun hc => ?_)
          · replace hE := fw_if_t hc hE
            exact h_j90 _ _ hk_v0 _ _ _ R (lv_sub hl [0, 1] rfl) hE
          · replace hE := fw_if_f hc hE
            refine lv_aload_n hx hb d_ServingEnd_memoryFor_68 rfl (lv_at hl 0 rfl) ?_
            refine fw_getr C R ft_field_4_22 hk_v0 rfl rfl d_ServingEnd_memoryFor_69 (fun hq => ?_) (fun b12 hq hk_b12 => ?_)
            · replace hE := fw_om_none hq hE
              refine lv_iload hx hb d_ServingEnd_memoryFor_72 (lv_at hl 2 rfl) ?_
              refine lv_aload_n hx hb d_ServingEnd_memoryFor_74 rfl (lv_at hl 0 rfl) ?_
              refine fw_getr C R ft_field_4_22 hk_v0 rfl rfl d_ServingEnd_memoryFor_75 (fun hq => ?_) (fun b13 hq hk_b13 => ?_)
              · replace hE := fw_om_none hq hE
                refine lv_iload hx hb d_ServingEnd_memoryFor_78 (lv_at hl 2 rfl) ?_
                refine lv_iconst (v := 1) hx hb d_ServingEnd_memoryFor_80 (by decide) ?_
                refine lv_iadd hx hb d_ServingEnd_memoryFor_81 ?_
                cases hE
              · replace hE := fw_om_some hq hE
                refine lv_iload hx hb d_ServingEnd_memoryFor_78 (lv_at hl 2 rfl) ?_
                refine lv_iconst (v := 1) hx hb d_ServingEnd_memoryFor_80 (by decide) ?_
                refine lv_iadd hx hb d_ServingEnd_memoryFor_81 ?_
                obtain ⟨hi14, hE⟩ := fw_ifn hE
                refine fw_aaldr (K := 1) (ty := .object "FederationWire$Memory") C R (by decide) rfl hk_b13 hi14 d_ServingEnd_memoryFor_82 (fun hq => ?_) (fun b15 hq hk_b15 => ?_)
                · replace hE := fw_om_none hq hE
                  cases hE
                · replace hE := fw_om_some hq hE
                  cases hE
            · replace hE := fw_om_some hq hE
              refine lv_iload hx hb d_ServingEnd_memoryFor_72 (lv_at hl 2 rfl) ?_
              refine lv_aload_n hx hb d_ServingEnd_memoryFor_74 rfl (lv_at hl 0 rfl) ?_
              refine fw_getr C R ft_field_4_22 hk_v0 rfl rfl d_ServingEnd_memoryFor_75 (fun hq => ?_) (fun b16 hq hk_b16 => ?_)
              · replace hE := fw_om_none hq hE
                refine lv_iload hx hb d_ServingEnd_memoryFor_78 (lv_at hl 2 rfl) ?_
                refine lv_iconst (v := 1) hx hb d_ServingEnd_memoryFor_80 (by decide) ?_
                refine lv_iadd hx hb d_ServingEnd_memoryFor_81 ?_
                cases hE
              · replace hE := fw_om_some hq hE
                refine lv_iload hx hb d_ServingEnd_memoryFor_78 (lv_at hl 2 rfl) ?_
                refine lv_iconst (v := 1) hx hb d_ServingEnd_memoryFor_80 (by decide) ?_
                refine lv_iadd hx hb d_ServingEnd_memoryFor_81 ?_
                obtain ⟨hi17, hE⟩ := fw_ifn hE
                refine fw_aaldr (K := 1) (ty := .object "FederationWire$Memory") C R (by decide) rfl hk_b16 hi17 d_ServingEnd_memoryFor_82 (fun hq => ?_) (fun b18 hq hk_b18 => ?_)
                · replace hE := fw_om_none hq hE
                  obtain ⟨hi19, hE⟩ := fw_ifn hE
                  refine fw_aastN (K := 1) (Cn := "FederationWire$Memory") C R (by decide) hk_b12 hi19 d_ServingEnd_memoryFor_83 (fun H locs R => ?_)
                  obtain ⟨S20, eS20, hE⟩ := fw_let_ex hE
                  rw [← eS20] at R
                  clear eS20
                  refine lv_iinc (v := (v4 + (1 : Int32))) (lv' := [(4, .int (v4 + (1 : Int32))), (0, .ref v0), (3, .null)]) hx hb d_ServingEnd_memoryFor_84 hl (k := 2) rfl rfl (by decide) rfl (fun ls hl => ?_)
                  refine lv_goto (tgt := 45) hx hb d_ServingEnd_memoryFor_87 (by decide) ?_
                  exact ih _ _ _ hk_v0 _ _ _ R (lv_sub hl [1, 2, 0] rfl) hE
                · replace hE := fw_om_some hq hE
                  obtain ⟨hi21, hE⟩ := fw_ifn hE
                  refine fw_aast (K := 1) C R rfl (by decide) (by decide) hk_b12 hk_b18 hi21 d_ServingEnd_memoryFor_83 (fun H locs R => ?_)
                  obtain ⟨S22, eS22, hE⟩ := fw_let_ex hE
                  rw [← eS22] at R
                  clear eS22
                  refine lv_iinc (v := (v4 + (1 : Int32))) (lv' := [(4, .int (v4 + (1 : Int32))), (0, .ref v0), (3, .null)]) hx hb d_ServingEnd_memoryFor_84 hl (k := 2) rfl rfl (by decide) rfl (fun ls hl => ?_)
                  refine lv_goto (tgt := 45) hx hb d_ServingEnd_memoryFor_87 (by decide) ?_
                  exact ih _ _ _ hk_v0 _ _ _ R (lv_sub hl [1, 2, 0] rfl) hE
  have h_j90x : ∀ v0 : Nat, ∀ v3 : Nat, ∀ S0 : fw_S, kd0 v0 = some 4 → kd0 v3 = some 1 → ∀ (H : Heap) (locs : List Loc) (ls : Array Slot), fw_R G kd0 S0 H locs → lv_has ls 5 [(0, .ref v0), (3, .ref v3)] → F_ServingEnd_memoryFor_j90x v0 v3 S0 = some (r0, S') → W p l e { frames := 2, cells := 0, slots := 0, locals := 44 } s m ([.ref a0, .int p1] : List Value).toArray below meth c H locs 0 0 (MQ below (fw_Q G kd0 (some (va_rf r0)) S' (fun k => k = kd0 ∧ ∀ b, r0 = some b → k b = some 1)) ([.ref a0, .int p1] : List Value).toArray s 0 0 (fw_A G)) (F0 m 90 ls []) := by
    intro v0 v3 S0 hk_v0 hk_v3 H locs ls R hl hE
    unfold F_ServingEnd_memoryFor_j90x at hE
    refine lv_aload_n hx hb d_ServingEnd_memoryFor_90 rfl (lv_at hl 0 rfl) ?_
    refine fw_get (v := .int (fw_g S0 v0 2)) C R ft_field_4_26 hk_v0 rfl d_ServingEnd_memoryFor_91 ?_
    refine lv_iconst (v := 1) hx hb d_ServingEnd_memoryFor_94 (by decide) ?_
    refine lv_isub hx hb d_ServingEnd_memoryFor_95 ?_
    refine lv_topi (fun x23 ex23 => ?_)
    replace hE := fw_let_use ex23 hE
    clear ex23
    refine lv_istore (lv' := [(4, .int x23), (0, .ref v0), (3, .ref v3)]) hx hb d_ServingEnd_memoryFor_96 hl (by decide) rfl (fun ls hl => ?_)
    refine lv_iload hx hb d_ServingEnd_memoryFor_98 (lv_at hl 0 rfl) ?_
    refine lv_if_lt (tgt := 121) hx hb d_ServingEnd_memoryFor_100 (by decide) (fun hc => ?_) (fun hc => ?_)
    · replace hE := fw_if_t hc hE
      refine lv_aload_n hx hb d_ServingEnd_memoryFor_121 rfl (lv_at hl 2 rfl) ?_
      cases hE
      exact fw_aret (o := (some v3)) C fw_X.rf ⟨rfl, (fun _ h => by cases h; exact hk_v3)⟩ R d_ServingEnd_memoryFor_122
    · replace hE := fw_if_f hc hE
      refine lv_iload hx hb d_ServingEnd_memoryFor_103 (lv_at hl 0 rfl) ?_
      refine lv_aload_n hx hb d_ServingEnd_memoryFor_105 rfl (lv_at hl 1 rfl) ?_
      refine fw_getr C R ft_field_4_22 hk_v0 rfl rfl d_ServingEnd_memoryFor_106 (fun hq => ?_) (fun b24 hq hk_b24 => ?_)
      · replace hE := fw_om_none hq hE
        cases hE
      · replace hE := fw_om_some hq hE
        refine fw_alen (K := 201) (ty := .object "FederationWire$Memory") C R (by decide) (by decide) hk_b24 d_ServingEnd_memoryFor_109 ?_
        refine lv_icmp_ge (tgt := 121) hx hb d_ServingEnd_memoryFor_110 (by decide) (fun hc => ?_) (fun hc => ?_)
        · replace hE := fw_if_t hc hE
          refine lv_aload_n hx hb d_ServingEnd_memoryFor_121 rfl (lv_at hl 2 rfl) ?_
          cases hE
          exact fw_aret (o := (some v3)) C fw_X.rf ⟨rfl, (fun _ h => by cases h; exact hk_v3)⟩ R d_ServingEnd_memoryFor_122
        · replace hE := fw_if_f hc hE
          refine lv_aload_n hx hb d_ServingEnd_memoryFor_113 rfl (lv_at hl 1 rfl) ?_
          refine fw_getr C R ft_field_4_22 hk_v0 rfl rfl d_ServingEnd_memoryFor_114 (fun hq => ?_) (fun b25 hq hk_b25 => ?_)
          · replace hE := fw_om_none hq hE
            refine lv_iload hx hb d_ServingEnd_memoryFor_117 (lv_at hl 0 rfl) ?_
            refine lv_aload_n hx hb d_ServingEnd_memoryFor_119 rfl (lv_at hl 2 rfl) ?_
            cases hE
          · replace hE := fw_om_some hq hE
            refine lv_iload hx hb d_ServingEnd_memoryFor_117 (lv_at hl 0 rfl) ?_
            refine lv_aload_n hx hb d_ServingEnd_memoryFor_119 rfl (lv_at hl 2 rfl) ?_
            obtain ⟨hi26, hE⟩ := fw_ifn hE
            refine fw_aast (K := 1) C R rfl (by decide) (by decide) hk_b25 hk_v3 hi26 d_ServingEnd_memoryFor_120 (fun H locs R => ?_)
            obtain ⟨S27, eS27, hE⟩ := fw_let_ex hE
            rw [← eS27] at R
            clear eS27
            refine lv_aload_n hx hb d_ServingEnd_memoryFor_121 rfl (lv_at hl 2 rfl) ?_
            cases hE
            exact fw_aret (o := (some v3)) C fw_X.rf ⟨rfl, (fun _ h => by cases h; exact hk_v3)⟩ R d_ServingEnd_memoryFor_122
  have h_l45x : ∀ (n : Nat), ∀ v0 : Nat, ∀ v3 : Nat, ∀ v4 : Int32, ∀ S0 : fw_S, kd0 v0 = some 4 → kd0 v3 = some 1 → ∀ (H : Heap) (locs : List Loc) (ls : Array Slot), fw_R G kd0 S0 H locs → lv_has ls 5 [(0, .ref v0), (3, .ref v3), (4, .int v4)] → F_ServingEnd_memoryFor_l45x n v0 v3 v4 S0 = some (r0, S') → W p l e { frames := 2, cells := 0, slots := 0, locals := 44 } s m ([.ref a0, .int p1] : List Value).toArray below meth c H locs 0 0 (MQ below (fw_Q G kd0 (some (va_rf r0)) S' (fun k => k = kd0 ∧ ∀ b, r0 = some b → k b = some 1)) ([.ref a0, .int p1] : List Value).toArray s 0 0 (fw_A G)) (F0 m 45 ls []) := by
    intro n
    induction n with
    | zero =>
      intro v0 v3 v4 S0 hk_v0 hk_v3 H locs ls R hl hE
      rw [F_ServingEnd_memoryFor_l45x] at hE
      cases hE
    | succ n ih =>
      intro v0 v3 v4 S0 hk_v0 hk_v3 H locs ls R hl hE
      rw [F_ServingEnd_memoryFor_l45x] at hE
      refine lv_iload hx hb d_ServingEnd_memoryFor_45 (lv_at hl 2 rfl) ?_
      refine lv_iconst (v := 1) hx hb d_ServingEnd_memoryFor_47 (by decide) ?_
      refine lv_iadd hx hb d_ServingEnd_memoryFor_48 ?_
      refine lv_aload_n hx hb d_ServingEnd_memoryFor_49 rfl (lv_at hl 0 rfl) ?_
      refine fw_get (v := .int (fw_g S0 v0 2)) C R ft_field_4_26 hk_v0 rfl d_ServingEnd_memoryFor_50 ?_
      refine lv_icmp_ge (tgt := 90) hx hb d_ServingEnd_memoryFor_53 (by decide) (fun hc => ?_) (fun hc => ?_)
      · replace hE := fw_if_t hc hE
        exact h_j90x _ _ _ hk_v0 hk_v3 _ _ _ R (lv_sub hl [0, 1] rfl) hE
      · replace hE := fw_if_f hc hE
        refine lv_iload hx hb d_ServingEnd_memoryFor_56 (lv_at hl 2 rfl) ?_
        refine lv_iconst (v := 1) hx hb d_ServingEnd_memoryFor_58 (by decide) ?_
        refine lv_iadd hx hb d_ServingEnd_memoryFor_59 ?_
        refine lv_aload_n hx hb d_ServingEnd_memoryFor_60 rfl (lv_at hl 0 rfl) ?_
        refine fw_getr C R ft_field_4_22 hk_v0 rfl rfl d_ServingEnd_memoryFor_61 (fun hq => ?_) (fun b28 hq hk_b28 => ?_)
        · replace hE := fw_om_none hq hE
          cases hE
        · replace hE := fw_om_some hq hE
          refine fw_alen (K := 201) (ty := .object "FederationWire$Memory") C R (by decide) (by decide) hk_b28 d_ServingEnd_memoryFor_64 ?_
          refine lv_icmp_ge (tgt := 90) hx hb d_ServingEnd_memoryFor_65 (by decide) (fun hc => ?_) (fun hc => ?_)
          · replace hE := fw_if_t hc hE
            exact h_j90x _ _ _ hk_v0 hk_v3 _ _ _ R (lv_sub hl [0, 1] rfl) hE
          · replace hE := fw_if_f hc hE
            refine lv_aload_n hx hb d_ServingEnd_memoryFor_68 rfl (lv_at hl 0 rfl) ?_
            refine fw_getr C R ft_field_4_22 hk_v0 rfl rfl d_ServingEnd_memoryFor_69 (fun hq => ?_) (fun b29 hq hk_b29 => ?_)
            · replace hE := fw_om_none hq hE
              refine lv_iload hx hb d_ServingEnd_memoryFor_72 (lv_at hl 2 rfl) ?_
              refine lv_aload_n hx hb d_ServingEnd_memoryFor_74 rfl (lv_at hl 0 rfl) ?_
              refine fw_getr C R ft_field_4_22 hk_v0 rfl rfl d_ServingEnd_memoryFor_75 (fun hq => ?_) (fun b30 hq hk_b30 => ?_)
              · replace hE := fw_om_none hq hE
                refine lv_iload hx hb d_ServingEnd_memoryFor_78 (lv_at hl 2 rfl) ?_
                refine lv_iconst (v := 1) hx hb d_ServingEnd_memoryFor_80 (by decide) ?_
                refine lv_iadd hx hb d_ServingEnd_memoryFor_81 ?_
                cases hE
              · replace hE := fw_om_some hq hE
                refine lv_iload hx hb d_ServingEnd_memoryFor_78 (lv_at hl 2 rfl) ?_
                refine lv_iconst (v := 1) hx hb d_ServingEnd_memoryFor_80 (by decide) ?_
                refine lv_iadd hx hb d_ServingEnd_memoryFor_81 ?_
                obtain ⟨hi31, hE⟩ := fw_ifn hE
                refine fw_aaldr (K := 1) (ty := .object "FederationWire$Memory") C R (by decide) rfl hk_b30 hi31 d_ServingEnd_memoryFor_82 (fun hq => ?_) (fun b32 hq hk_b32 => ?_)
                · replace hE := fw_om_none hq hE
                  cases hE
                · replace hE := fw_om_some hq hE
                  cases hE
            · replace hE := fw_om_some hq hE
              refine lv_iload hx hb d_ServingEnd_memoryFor_72 (lv_at hl 2 rfl) ?_
              refine lv_aload_n hx hb d_ServingEnd_memoryFor_74 rfl (lv_at hl 0 rfl) ?_
              refine fw_getr C R ft_field_4_22 hk_v0 rfl rfl d_ServingEnd_memoryFor_75 (fun hq => ?_) (fun b33 hq hk_b33 => ?_)
              · replace hE := fw_om_none hq hE
                refine lv_iload hx hb d_ServingEnd_memoryFor_78 (lv_at hl 2 rfl) ?_
                refine lv_iconst (v := 1) hx hb d_ServingEnd_memoryFor_80 (by decide) ?_
                refine lv_iadd hx hb d_ServingEnd_memoryFor_81 ?_
                cases hE
              · replace hE := fw_om_some hq hE
                refine lv_iload hx hb d_ServingEnd_memoryFor_78 (lv_at hl 2 rfl) ?_
                refine lv_iconst (v := 1) hx hb d_ServingEnd_memoryFor_80 (by decide) ?_
                refine lv_iadd hx hb d_ServingEnd_memoryFor_81 ?_
                obtain ⟨hi34, hE⟩ := fw_ifn hE
                refine fw_aaldr (K := 1) (ty := .object "FederationWire$Memory") C R (by decide) rfl hk_b33 hi34 d_ServingEnd_memoryFor_82 (fun hq => ?_) (fun b35 hq hk_b35 => ?_)
                · replace hE := fw_om_none hq hE
                  obtain ⟨hi36, hE⟩ := fw_ifn hE
                  refine fw_aastN (K := 1) (Cn := "FederationWire$Memory") C R (by decide) hk_b29 hi36 d_ServingEnd_memoryFor_83 (fun H locs R => ?_)
                  obtain ⟨S37, eS37, hE⟩ := fw_let_ex hE
                  rw [← eS37] at R
                  clear eS37
                  refine lv_iinc (v := (v4 + (1 : Int32))) (lv' := [(4, .int (v4 + (1 : Int32))), (0, .ref v0), (3, .ref v3)]) hx hb d_ServingEnd_memoryFor_84 hl (k := 2) rfl rfl (by decide) rfl (fun ls hl => ?_)
                  refine lv_goto (tgt := 45) hx hb d_ServingEnd_memoryFor_87 (by decide) ?_
                  exact ih _ _ _ _ hk_v0 hk_v3 _ _ _ R (lv_sub hl [1, 2, 0] rfl) hE
                · replace hE := fw_om_some hq hE
                  obtain ⟨hi38, hE⟩ := fw_ifn hE
                  refine fw_aast (K := 1) C R rfl (by decide) (by decide) hk_b29 hk_b35 hi38 d_ServingEnd_memoryFor_83 (fun H locs R => ?_)
                  obtain ⟨S39, eS39, hE⟩ := fw_let_ex hE
                  rw [← eS39] at R
                  clear eS39
                  refine lv_iinc (v := (v4 + (1 : Int32))) (lv' := [(4, .int (v4 + (1 : Int32))), (0, .ref v0), (3, .ref v3)]) hx hb d_ServingEnd_memoryFor_84 hl (k := 2) rfl rfl (by decide) rfl (fun ls hl => ?_)
                  refine lv_goto (tgt := 45) hx hb d_ServingEnd_memoryFor_87 (by decide) ?_
                  exact ih _ _ _ _ hk_v0 hk_v3 _ _ _ R (lv_sub hl [1, 2, 0] rfl) hE
  unfold F_ServingEnd_memoryFor at hE
  refine lv_aload_n hx hb d_ServingEnd_memoryFor_0 rfl (lv_at hl 0 rfl) ?_
  refine lv_iload_n hx hb d_ServingEnd_memoryFor_1 rfl (lv_at hl 1 rfl) ?_
  obtain ⟨x1, hF, hE⟩ := fw_bind hE
  refine fw_callV (As := [.int p1]) (rest := []) C R ft_callV_4_44 yi_ServingEnd_placeOf ys_ServingEnd_placeOf (ct_ServingEnd_placeOf l G kd0 S0 _ _ _ hk_a0 hF) hk_a0 (by decide) rfl rfl hl.1 rfl (lv_room (Nat.le_of_ble_eq_true rfl)) ⟨Nat.le_of_ble_eq_true rfl, Nat.le_of_ble_eq_true rfl⟩ ⟨Nat.le_of_ble_eq_true rfl, Nat.le_of_ble_eq_true rfl⟩ d_ServingEnd_memoryFor_2 (fun H locs kd2 hxkd2 hP R => ?_)
  rw [hP] at R; clear hP hxkd2
  refine lv_istore_n (lv' := [(2, .int x1), (0, .ref a0), (1, .int p1)]) hx hb d_ServingEnd_memoryFor_5 rfl hl (by decide) rfl (fun ls hl => ?_)
  refine lv_iload_n hx hb d_ServingEnd_memoryFor_6 rfl (lv_at hl 0 rfl) ?_
  refine lv_if_ge (tgt := 36) hx hb d_ServingEnd_memoryFor_7 (by decide) (fun hc => ?_) (fun hc => ?_)
  · replace hE := fw_if_t hc hE
    refine lv_aload_n hx hb d_ServingEnd_memoryFor_36 rfl (lv_at hl 1 rfl) ?_
    refine lv_iload_n hx hb d_ServingEnd_memoryFor_37 rfl (lv_at hl 0 rfl) ?_
    obtain ⟨o3, hF, hE⟩ := fw_bind hE
    refine fw_callV (As := [.int x1]) (rest := []) C R ft_callV_4_48 yi_ServingEnd_memoryAt ys_ServingEnd_memoryAt (ct_ServingEnd_memoryAt l G kd0 S0 _ _ _ hk_a0 hF) hk_a0 (by decide) rfl rfl hl.1 rfl (lv_room (Nat.le_of_ble_eq_true rfl)) ⟨Nat.le_of_ble_eq_true rfl, Nat.le_of_ble_eq_true rfl⟩ ⟨Nat.le_of_ble_eq_true rfl, Nat.le_of_ble_eq_true rfl⟩ d_ServingEnd_memoryFor_38 (fun H locs kd4 hxkd4 hP R => ?_)
    obtain ⟨hP0, hP⟩ := hP
    rw [hP0] at hP R; clear hP0 hxkd4
    cases o3 with
    | none =>
      replace hE := fw_om_none rfl hE
      refine lv_astore_nN (lv' := [(3, .null), (2, .int x1), (0, .ref a0), (1, .int p1)]) hx hb d_ServingEnd_memoryFor_41 rfl hl (by decide) rfl (fun ls hl => ?_)
      refine lv_iload_n hx hb d_ServingEnd_memoryFor_42 rfl (lv_at hl 1 rfl) ?_
      refine lv_istore (lv' := [(4, .int x1), (3, .null), (2, .int x1), (0, .ref a0), (1, .int p1)]) hx hb d_ServingEnd_memoryFor_43 hl (by decide) rfl (fun ls hl => ?_)
      exact h_l45 _ _ _ _ hk_a0 _ _ _ R (lv_sub hl [3, 1, 0] rfl) hE
    | some b5 =>
      replace hE := fw_om_some rfl hE
      have hk_b5 := hP _ rfl
      clear hP
      refine lv_astore_n (lv' := [(3, .ref b5), (2, .int x1), (0, .ref a0), (1, .int p1)]) hx hb d_ServingEnd_memoryFor_41 rfl hl (by decide) rfl (fun ls hl => ?_)
      refine lv_iload_n hx hb d_ServingEnd_memoryFor_42 rfl (lv_at hl 1 rfl) ?_
      refine lv_istore (lv' := [(4, .int x1), (3, .ref b5), (2, .int x1), (0, .ref a0), (1, .int p1)]) hx hb d_ServingEnd_memoryFor_43 hl (by decide) rfl (fun ls hl => ?_)
      exact h_l45x _ _ _ _ _ hk_a0 hk_b5 _ _ _ R (lv_sub hl [3, 1, 0] rfl) hE
  · replace hE := fw_if_f hc hE
    refine lv_iconst (v := 0) hx hb d_ServingEnd_memoryFor_10 (by decide) ?_
    refine lv_istore_n (lv' := [(2, .int (0 : Int32)), (0, .ref a0), (1, .int p1)]) hx hb d_ServingEnd_memoryFor_11 rfl hl (by decide) rfl (fun ls hl => ?_)
    refine lv_aload_n hx hb d_ServingEnd_memoryFor_12 rfl (lv_at hl 1 rfl) ?_
    refine fw_get (v := .int (fw_g S0 a0 2)) C R ft_field_4_26 hk_a0 rfl d_ServingEnd_memoryFor_13 ?_
    refine lv_bipush (v := 8) hx hb d_ServingEnd_memoryFor_16 (by decide) ?_
    refine lv_icmp_ge (tgt := 36) hx hb d_ServingEnd_memoryFor_18 (by decide) (fun hc => ?_) (fun hc => ?_)
    · replace hE := fw_if_t hc hE
      refine lv_aload_n hx hb d_ServingEnd_memoryFor_36 rfl (lv_at hl 1 rfl) ?_
      refine lv_iload_n hx hb d_ServingEnd_memoryFor_37 rfl (lv_at hl 0 rfl) ?_
      obtain ⟨o40, hF, hE⟩ := fw_bind hE
      refine fw_callV (As := [.int (0 : Int32)]) (rest := []) C R ft_callV_4_48 yi_ServingEnd_memoryAt ys_ServingEnd_memoryAt (ct_ServingEnd_memoryAt l G kd0 S0 _ _ _ hk_a0 hF) hk_a0 (by decide) rfl rfl hl.1 rfl (lv_room (Nat.le_of_ble_eq_true rfl)) ⟨Nat.le_of_ble_eq_true rfl, Nat.le_of_ble_eq_true rfl⟩ ⟨Nat.le_of_ble_eq_true rfl, Nat.le_of_ble_eq_true rfl⟩ d_ServingEnd_memoryFor_38 (fun H locs kd41 hxkd41 hP R => ?_)
      obtain ⟨hP0, hP⟩ := hP
      rw [hP0] at hP R; clear hP0 hxkd41
      cases o40 with
      | none =>
        replace hE := fw_om_none rfl hE
        refine lv_astore_nN (lv' := [(3, .null), (2, .int (0 : Int32)), (0, .ref a0), (1, .int p1)]) hx hb d_ServingEnd_memoryFor_41 rfl hl (by decide) rfl (fun ls hl => ?_)
        refine lv_iload_n hx hb d_ServingEnd_memoryFor_42 rfl (lv_at hl 1 rfl) ?_
        refine lv_istore (lv' := [(4, .int (0 : Int32)), (3, .null), (2, .int (0 : Int32)), (0, .ref a0), (1, .int p1)]) hx hb d_ServingEnd_memoryFor_43 hl (by decide) rfl (fun ls hl => ?_)
        exact h_l45 _ _ _ _ hk_a0 _ _ _ R (lv_sub hl [3, 1, 0] rfl) hE
      | some b42 =>
        replace hE := fw_om_some rfl hE
        have hk_b42 := hP _ rfl
        clear hP
        refine lv_astore_n (lv' := [(3, .ref b42), (2, .int (0 : Int32)), (0, .ref a0), (1, .int p1)]) hx hb d_ServingEnd_memoryFor_41 rfl hl (by decide) rfl (fun ls hl => ?_)
        refine lv_iload_n hx hb d_ServingEnd_memoryFor_42 rfl (lv_at hl 1 rfl) ?_
        refine lv_istore (lv' := [(4, .int (0 : Int32)), (3, .ref b42), (2, .int (0 : Int32)), (0, .ref a0), (1, .int p1)]) hx hb d_ServingEnd_memoryFor_43 hl (by decide) rfl (fun ls hl => ?_)
        exact h_l45x _ _ _ _ _ hk_a0 hk_b42 _ _ _ R (lv_sub hl [3, 1, 0] rfl) hE
    · replace hE := fw_if_f hc hE
      refine lv_aload_n hx hb d_ServingEnd_memoryFor_21 rfl (lv_at hl 1 rfl) ?_
      refine fw_get (v := .int (fw_g S0 a0 2)) C R ft_field_4_26 hk_a0 rfl d_ServingEnd_memoryFor_22 ?_
      refine lv_topi (fun x43 ex43 => ?_)
      replace hE := fw_let_use ex43 hE
      clear ex43
      refine lv_istore_n (lv' := [(2, .int x43), (0, .ref a0), (1, .int p1)]) hx hb d_ServingEnd_memoryFor_25 rfl hl (by decide) rfl (fun ls hl => ?_)
      refine lv_aload_n hx hb d_ServingEnd_memoryFor_26 rfl (lv_at hl 1 rfl) ?_
      refine lv_dup hx hb d_ServingEnd_memoryFor_27 rfl ?_
      refine fw_get (v := .int (fw_g S0 a0 2)) C R ft_field_4_26 hk_a0 rfl d_ServingEnd_memoryFor_28 ?_
      refine lv_iconst (v := 1) hx hb d_ServingEnd_memoryFor_31 (by decide) ?_
      refine lv_iadd hx hb d_ServingEnd_memoryFor_32 ?_
      refine fw_puti C R ft_field_4_26 rfl hk_a0 d_ServingEnd_memoryFor_33 (fun H locs R => ?_)
      obtain ⟨S44, eS44, hE⟩ := fw_let_ex hE
      rw [← eS44] at R
      clear eS44
      refine lv_aload_n hx hb d_ServingEnd_memoryFor_36 rfl (lv_at hl 1 rfl) ?_
      refine lv_iload_n hx hb d_ServingEnd_memoryFor_37 rfl (lv_at hl 0 rfl) ?_
      obtain ⟨o45, hF, hE⟩ := fw_bind hE
      refine fw_callV (As := [.int x43]) (rest := []) C R ft_callV_4_48 yi_ServingEnd_memoryAt ys_ServingEnd_memoryAt (ct_ServingEnd_memoryAt l G kd0 S44 _ _ _ hk_a0 hF) hk_a0 (by decide) rfl rfl hl.1 rfl (lv_room (Nat.le_of_ble_eq_true rfl)) ⟨Nat.le_of_ble_eq_true rfl, Nat.le_of_ble_eq_true rfl⟩ ⟨Nat.le_of_ble_eq_true rfl, Nat.le_of_ble_eq_true rfl⟩ d_ServingEnd_memoryFor_38 (fun H locs kd46 hxkd46 hP R => ?_)
      obtain ⟨hP0, hP⟩ := hP
      rw [hP0] at hP R; clear hP0 hxkd46
      cases o45 with
      | none =>
        replace hE := fw_om_none rfl hE
        refine lv_astore_nN (lv' := [(3, .null), (2, .int x43), (0, .ref a0), (1, .int p1)]) hx hb d_ServingEnd_memoryFor_41 rfl hl (by decide) rfl (fun ls hl => ?_)
        refine lv_iload_n hx hb d_ServingEnd_memoryFor_42 rfl (lv_at hl 1 rfl) ?_
        refine lv_istore (lv' := [(4, .int x43), (3, .null), (2, .int x43), (0, .ref a0), (1, .int p1)]) hx hb d_ServingEnd_memoryFor_43 hl (by decide) rfl (fun ls hl => ?_)
        exact h_l45 _ _ _ _ hk_a0 _ _ _ R (lv_sub hl [3, 1, 0] rfl) hE
      | some b47 =>
        replace hE := fw_om_some rfl hE
        have hk_b47 := hP _ rfl
        clear hP
        refine lv_astore_n (lv' := [(3, .ref b47), (2, .int x43), (0, .ref a0), (1, .int p1)]) hx hb d_ServingEnd_memoryFor_41 rfl hl (by decide) rfl (fun ls hl => ?_)
        refine lv_iload_n hx hb d_ServingEnd_memoryFor_42 rfl (lv_at hl 1 rfl) ?_
        refine lv_istore (lv' := [(4, .int x43), (3, .ref b47), (2, .int x43), (0, .ref a0), (1, .int p1)]) hx hb d_ServingEnd_memoryFor_43 hl (by decide) rfl (fun ls hl => ?_)
        exact h_l45x _ _ _ _ _ hk_a0 hk_b47 _ _ _ R (lv_sub hl [3, 1, 0] rfl) hE
set_option maxHeartbeats 4000000 in
set_option maxRecDepth 100000 in
theorem ct_ServingEnd_remember (l : Launch) (G : fw_G) (kd0 : Nat → Option Nat) (S0 : fw_S) (a0 : Nat) (p1 : Nat) (p2 : Nat) (S' : fw_S) (hk_a0 : kd0 a0 = some 4) (hk_p1 : kd0 p1 = some 1) (hk_p2 : kd0 p2 = some 0) (hE : F_ServingEnd_remember a0 p1 p2 S0 = some S') : fw_M l G y_ServingEnd_remember prog_6_method_7_code 5 none 1 22 0 0 kd0 S0 ([.ref a0, .ref p1, .ref p2] : List Value) none S' (fun k => k = kd0) := by
  refine fw_start (by decide) (Nat.le_of_ble_eq_true rfl) ?_
  intro p e s m below meth c ls C hnm R hl
  clear hnm
  have hx := C.1
  have hb := C.2.1
  have hl : lv_has ls 5 [(0, .ref a0), (1, .ref p1), (2, .ref p2)] := hl
  have h_l50 : ∀ (k39 : Nat → Nat → Nat → Int32 → fw_S → Option (fw_S)), (∀ v0 : Nat, ∀ v1 : Nat, ∀ v2 : Nat, ∀ v3 : Int32, ∀ S0 : fw_S, kd0 v0 = some 4 → kd0 v1 = some 1 → kd0 v2 = some 0 → ∀ (H : Heap) (locs : List Loc) (ls : Array Slot), fw_R G kd0 S0 H locs → lv_has ls 5 [(0, .ref v0), (1, .ref v1), (2, .ref v2), (3, .int v3)] → k39 v0 v1 v2 v3 S0 = some S' → W p l e { frames := 1, cells := 0, slots := 0, locals := 22 } s m ([.ref a0, .ref p1, .ref p2] : List Value).toArray below meth c H locs 0 0 (MQ below (fw_Q G kd0 none S' (fun k => k = kd0)) ([.ref a0, .ref p1, .ref p2] : List Value).toArray s 0 0 (fw_A G)) (F0 m 39 ls [])) → ∀ (n : Nat), ∀ v0 : Nat, ∀ v1 : Nat, ∀ v2 : Nat, ∀ v3 : Int32, ∀ v4 : Int32, ∀ S0 : fw_S, kd0 v0 = some 4 → kd0 v1 = some 1 → kd0 v2 = some 0 → ∀ (H : Heap) (locs : List Loc) (ls : Array Slot), fw_R G kd0 S0 H locs → lv_has ls 5 [(0, .ref v0), (1, .ref v1), (2, .ref v2), (3, .int v3), (4, .int v4)] → F_ServingEnd_remember_l50 k39 n v0 v1 v2 v3 v4 S0 = some S' → W p l e { frames := 1, cells := 0, slots := 0, locals := 22 } s m ([.ref a0, .ref p1, .ref p2] : List Value).toArray below meth c H locs 0 0 (MQ below (fw_Q G kd0 none S' (fun k => k = kd0)) ([.ref a0, .ref p1, .ref p2] : List Value).toArray s 0 0 (fw_A G)) (F0 m 50 ls []) := by
    intro k39 hk39 n
    induction n with
    | zero =>
      intro v0 v1 v2 v3 v4 S0 hk_v0 hk_v1 hk_v2 H locs ls R hl hE
      rw [F_ServingEnd_remember_l50] at hE
      cases hE
    | succ n ih =>
      intro v0 v1 v2 v3 v4 S0 hk_v0 hk_v1 hk_v2 H locs ls R hl hE
      rw [F_ServingEnd_remember_l50] at hE
      refine lv_iload hx hb d_ServingEnd_remember_50 (lv_at hl 4 rfl) ?_
      refine lv_aload_n hx hb d_ServingEnd_remember_52 rfl (lv_at hl 0 rfl) ?_
      refine fw_getr C R ft_field_4_14 hk_v0 rfl rfl d_ServingEnd_remember_53 (fun hq => ?_) (fun b9 hq hk_b9 => ?_)
      · replace hE := fw_om_none hq hE
        cases hE
      · replace hE := fw_om_some hq hE
        refine fw_get (v := .int (fw_g S0 b9 2)) C R ft_field_4_72 hk_b9 rfl d_ServingEnd_remember_56 ?_
        refine lv_icmp_ge (tgt := 111) hx hb d_ServingEnd_remember_59 (by decide) (fun hc => ?_) (fun hc => ?_)
        · replace hE := fw_if_t hc hE
          refine lv_iinc (v := (v3 + (1 : Int32))) (lv' := [(3, .int (v3 + (1 : Int32))), (0, .ref v0), (1, .ref v1), (2, .ref v2), (4, .int v4)]) hx hb d_ServingEnd_remember_111 hl (k := 3) rfl rfl (by decide) rfl (fun ls hl => ?_)
          refine lv_goto (tgt := 39) hx hb d_ServingEnd_remember_114 (by decide) ?_
          exact hk39 _ _ _ _ _ hk_v0 hk_v1 hk_v2 _ _ _ R (lv_sub hl [1, 2, 3, 0] rfl) hE
        · replace hE := fw_if_f hc hE
          refine lv_aload_n hx hb d_ServingEnd_remember_62 rfl (lv_at hl 0 rfl) ?_
          refine fw_getr C R ft_field_4_14 hk_v0 rfl rfl d_ServingEnd_remember_63 (fun hq => ?_) (fun b10 hq hk_b10 => ?_)
          · replace hE := fw_om_none hq hE
            refine lv_iload hx hb d_ServingEnd_remember_66 (lv_at hl 4 rfl) ?_
            cases hE
          · replace hE := fw_om_some hq hE
            refine lv_iload hx hb d_ServingEnd_remember_66 (lv_at hl 4 rfl) ?_
            obtain ⟨x11, hF, hE⟩ := fw_bind hE
            refine fw_callV (As := [.int v4]) (rest := []) C R ft_callV_4_92 yi_Pairs_keyAt ys_Pairs_keyAt (ct_Pairs_keyAt l G kd0 S0 _ _ _ hk_b10 hF) hk_b10 (by decide) rfl rfl hl.1 rfl (lv_room (Nat.le_of_ble_eq_true rfl)) ⟨Nat.le_of_ble_eq_true rfl, Nat.le_of_ble_eq_true rfl⟩ ⟨Nat.le_of_ble_eq_true rfl, Nat.le_of_ble_eq_true rfl⟩ d_ServingEnd_remember_68 (fun H locs kd12 hxkd12 hP R => ?_)
            rw [hP] at R; clear hP hxkd12
            refine lv_aload_n hx hb d_ServingEnd_remember_71 rfl (lv_at hl 2 rfl) ?_
            refine lv_iload_n hx hb d_ServingEnd_remember_72 rfl (lv_at hl 3 rfl) ?_
            obtain ⟨x13, hF, hE⟩ := fw_bind hE
            refine fw_callV (As := [.int v3]) (rest := [.int x11]) C R ft_callV_4_55 yi_Frame_byteAt ys_Frame_byteAt (ct_Frame_byteAt l G kd0 S0 _ _ _ hk_v2 hF) hk_v2 (by decide) rfl rfl hl.1 rfl (lv_room (Nat.le_of_ble_eq_true rfl)) ⟨Nat.le_of_ble_eq_true rfl, Nat.le_of_ble_eq_true rfl⟩ ⟨Nat.le_of_ble_eq_true rfl, Nat.le_of_ble_eq_true rfl⟩ d_ServingEnd_remember_73 (fun H locs kd14 hxkd14 hP R => ?_)
            rw [hP] at R; clear hP hxkd14
            refine lv_icmp_ne (tgt := 105) hx hb d_ServingEnd_remember_76 (by decide) (fun hc => ?_) (fun hc => ?_)
            · replace hE := fw_if_f hc hE
              refine lv_iinc (v := (v4 + (1 : Int32))) (lv' := [(4, .int (v4 + (1 : Int32))), (0, .ref v0), (1, .ref v1), (2, .ref v2), (3, .int v3)]) hx hb d_ServingEnd_remember_105 hl (k := 4) rfl rfl (by decide) rfl (fun ls hl => ?_)
              refine lv_goto (tgt := 50) hx hb d_ServingEnd_remember_108 (by decide) ?_
              exact ih _ _ _ _ _ _ hk_v0 hk_v1 hk_v2 _ _ _ R (lv_sub hl [1, 2, 3, 4, 0] rfl) hE
            · replace hE := fw_if_t hc hE
              refine lv_aload_n hx hb d_ServingEnd_remember_79 rfl (lv_at hl 1 rfl) ?_
              refine fw_getr C R ft_field_4_69 hk_v1 rfl rfl d_ServingEnd_remember_80 (fun hq => ?_) (fun b15 hq hk_b15 => ?_)
              · replace hE := fw_om_none hq hE
                refine lv_aload_n hx hb d_ServingEnd_remember_83 rfl (lv_at hl 0 rfl) ?_
                refine fw_getr C R ft_field_4_14 hk_v0 rfl rfl d_ServingEnd_remember_84 (fun hq => ?_) (fun b16 hq hk_b16 => ?_)
                · replace hE := fw_om_none hq hE
                  refine lv_iload hx hb d_ServingEnd_remember_87 (lv_at hl 4 rfl) ?_
                  cases hE
                · replace hE := fw_om_some hq hE
                  refine lv_iload hx hb d_ServingEnd_remember_87 (lv_at hl 4 rfl) ?_
                  obtain ⟨x17, hF, hE⟩ := fw_bind hE
                  refine fw_callV (As := [.int v4]) (rest := [.null]) C R ft_callV_4_92 yi_Pairs_keyAt ys_Pairs_keyAt (ct_Pairs_keyAt l G kd0 S0 _ _ _ hk_b16 hF) hk_b16 (by decide) rfl rfl hl.1 rfl (lv_room (Nat.le_of_ble_eq_true rfl)) ⟨Nat.le_of_ble_eq_true rfl, Nat.le_of_ble_eq_true rfl⟩ ⟨Nat.le_of_ble_eq_true rfl, Nat.le_of_ble_eq_true rfl⟩ d_ServingEnd_remember_89 (fun H locs kd18 hxkd18 hP R => ?_)
                  rw [hP] at R; clear hP hxkd18
                  refine lv_aload_n hx hb d_ServingEnd_remember_92 rfl (lv_at hl 0 rfl) ?_
                  refine fw_getr C R ft_field_4_14 hk_v0 rfl rfl d_ServingEnd_remember_93 (fun hq => ?_) (fun b19 hq hk_b19 => ?_)
                  · replace hE := fw_om_none hq hE
                    refine lv_iload hx hb d_ServingEnd_remember_96 (lv_at hl 4 rfl) ?_
                    cases hE
                  · replace hE := fw_om_some hq hE
                    refine lv_iload hx hb d_ServingEnd_remember_96 (lv_at hl 4 rfl) ?_
                    obtain ⟨x20, hF, hE⟩ := fw_bind hE
                    refine fw_callV (As := [.int v4]) (rest := [.int x17, .null]) C R ft_callV_4_95 yi_Pairs_valueAt ys_Pairs_valueAt (ct_Pairs_valueAt l G kd0 S0 _ _ _ hk_b19 hF) hk_b19 (by decide) rfl rfl hl.1 rfl (lv_room (Nat.le_of_ble_eq_true rfl)) ⟨Nat.le_of_ble_eq_true rfl, Nat.le_of_ble_eq_true rfl⟩ ⟨Nat.le_of_ble_eq_true rfl, Nat.le_of_ble_eq_true rfl⟩ d_ServingEnd_remember_98 (fun H locs kd21 hxkd21 hP R => ?_)
                    rw [hP] at R; clear hP hxkd21
                    cases hE
              · replace hE := fw_om_some hq hE
                refine lv_aload_n hx hb d_ServingEnd_remember_83 rfl (lv_at hl 0 rfl) ?_
                refine fw_getr C R ft_field_4_14 hk_v0 rfl rfl d_ServingEnd_remember_84 (fun hq => ?_) (fun b22 hq hk_b22 => ?_)
                · replace hE := fw_om_none hq hE
                  refine lv_iload hx hb d_ServingEnd_remember_87 (lv_at hl 4 rfl) ?_
                  cases hE
                · replace hE := fw_om_some hq hE
                  refine lv_iload hx hb d_ServingEnd_remember_87 (lv_at hl 4 rfl) ?_
                  obtain ⟨x23, hF, hE⟩ := fw_bind hE
                  refine fw_callV (As := [.int v4]) (rest := [.ref b15]) C R ft_callV_4_92 yi_Pairs_keyAt ys_Pairs_keyAt (ct_Pairs_keyAt l G kd0 S0 _ _ _ hk_b22 hF) hk_b22 (by decide) rfl rfl hl.1 rfl (lv_room (Nat.le_of_ble_eq_true rfl)) ⟨Nat.le_of_ble_eq_true rfl, Nat.le_of_ble_eq_true rfl⟩ ⟨Nat.le_of_ble_eq_true rfl, Nat.le_of_ble_eq_true rfl⟩ d_ServingEnd_remember_89 (fun H locs kd24 hxkd24 hP R => ?_)
                  rw [hP] at R; clear hP hxkd24
                  refine lv_aload_n hx hb d_ServingEnd_remember_92 rfl (lv_at hl 0 rfl) ?_
                  refine fw_getr C R ft_field_4_14 hk_v0 rfl rfl d_ServingEnd_remember_93 (fun hq => ?_) (fun b25 hq hk_b25 => ?_)
                  · replace hE := fw_om_none hq hE
                    refine lv_iload hx hb d_ServingEnd_remember_96 (lv_at hl 4 rfl) ?_
                    cases hE
                  · replace hE := fw_om_some hq hE
                    refine lv_iload hx hb d_ServingEnd_remember_96 (lv_at hl 4 rfl) ?_
                    obtain ⟨x26, hF, hE⟩ := fw_bind hE
                    refine fw_callV (As := [.int v4]) (rest := [.int x23, .ref b15]) C R ft_callV_4_95 yi_Pairs_valueAt ys_Pairs_valueAt (ct_Pairs_valueAt l G kd0 S0 _ _ _ hk_b25 hF) hk_b25 (by decide) rfl rfl hl.1 rfl (lv_room (Nat.le_of_ble_eq_true rfl)) ⟨Nat.le_of_ble_eq_true rfl, Nat.le_of_ble_eq_true rfl⟩ ⟨Nat.le_of_ble_eq_true rfl, Nat.le_of_ble_eq_true rfl⟩ d_ServingEnd_remember_98 (fun H locs kd27 hxkd27 hP R => ?_)
                    rw [hP] at R; clear hP hxkd27
                    obtain ⟨x29, S28, hF, hE⟩ := fw_b2_ex hE
                    refine fw_callV (As := [.int x23, .int x26]) (rest := []) C R ft_callV_4_98 yi_Pairs_add ys_Pairs_add (ct_Pairs_add l G kd0 S0 _ _ _ _ _ hk_b15 hF) hk_b15 (by decide) rfl rfl hl.1 rfl (lv_room (Nat.le_of_ble_eq_true rfl)) ⟨Nat.le_of_ble_eq_true rfl, Nat.le_of_ble_eq_true rfl⟩ ⟨Nat.le_of_ble_eq_true rfl, Nat.le_of_ble_eq_true rfl⟩ d_ServingEnd_remember_101 (fun H locs kd30 hxkd30 hP R => ?_)
                    rw [hP] at R; clear hP hxkd30
                    refine lv_pop hx hb d_ServingEnd_remember_104 rfl ?_
                    refine lv_iinc (v := (v4 + (1 : Int32))) (lv' := [(4, .int (v4 + (1 : Int32))), (0, .ref v0), (1, .ref v1), (2, .ref v2), (3, .int v3)]) hx hb d_ServingEnd_remember_105 hl (k := 4) rfl rfl (by decide) rfl (fun ls hl => ?_)
                    refine lv_goto (tgt := 50) hx hb d_ServingEnd_remember_108 (by decide) ?_
                    exact ih _ _ _ _ _ _ hk_v0 hk_v1 hk_v2 _ _ _ R (lv_sub hl [1, 2, 3, 4, 0] rfl) hE
  have h_l39 : ∀ (n : Nat), ∀ v0 : Nat, ∀ v1 : Nat, ∀ v2 : Nat, ∀ v3 : Int32, ∀ S0 : fw_S, kd0 v0 = some 4 → kd0 v1 = some 1 → kd0 v2 = some 0 → ∀ (H : Heap) (locs : List Loc) (ls : Array Slot), fw_R G kd0 S0 H locs → lv_has ls 5 [(0, .ref v0), (1, .ref v1), (2, .ref v2), (3, .int v3)] → F_ServingEnd_remember_l39 n v0 v1 v2 v3 S0 = some S' → W p l e { frames := 1, cells := 0, slots := 0, locals := 22 } s m ([.ref a0, .ref p1, .ref p2] : List Value).toArray below meth c H locs 0 0 (MQ below (fw_Q G kd0 none S' (fun k => k = kd0)) ([.ref a0, .ref p1, .ref p2] : List Value).toArray s 0 0 (fw_A G)) (F0 m 39 ls []) := by
    intro n
    induction n with
    | zero =>
      intro v0 v1 v2 v3 S0 hk_v0 hk_v1 hk_v2 H locs ls R hl hE
      rw [F_ServingEnd_remember_l39] at hE
      cases hE
    | succ n ih =>
      intro v0 v1 v2 v3 S0 hk_v0 hk_v1 hk_v2 H locs ls R hl hE
      rw [F_ServingEnd_remember_l39] at hE
      refine lv_iload_n hx hb d_ServingEnd_remember_39 rfl (lv_at hl 3 rfl) ?_
      refine lv_aload_n hx hb d_ServingEnd_remember_40 rfl (lv_at hl 2 rfl) ?_
      refine fw_get (v := .int (fw_g S0 v2 2)) C R ft_field_4_89 hk_v2 rfl d_ServingEnd_remember_41 ?_
      refine lv_icmp_ge (tgt := 117) hx hb d_ServingEnd_remember_44 (by decide) (fun hc => ?_) (fun hc => ?_)
      · replace hE := fw_if_t hc hE
        cases hE
        exact fw_vret C fw_X.rf rfl R d_ServingEnd_remember_117
      · replace hE := fw_if_f hc hE
        refine lv_iconst (v := 0) hx hb d_ServingEnd_remember_47 (by decide) ?_
        refine lv_istore (lv' := [(4, .int (0 : Int32)), (0, .ref v0), (1, .ref v1), (2, .ref v2), (3, .int v3)]) hx hb d_ServingEnd_remember_48 hl (by decide) rfl (fun ls hl => ?_)
        exact h_l50 _ ih _ _ _ _ _ _ _ hk_v0 hk_v1 hk_v2 _ _ _ R (lv_sub hl [1, 2, 3, 4, 0] rfl) hE
  unfold F_ServingEnd_remember at hE
  refine lv_aload_n hx hb d_ServingEnd_remember_0 rfl (lv_at hl 1 rfl) ?_
  refine lv_ifnonnull (tgt := 5) hx hb d_ServingEnd_remember_1 (by decide) ?_
  refine lv_aload_n hx hb d_ServingEnd_remember_5 rfl (lv_at hl 1 rfl) ?_
  refine lv_aload_n hx hb d_ServingEnd_remember_6 rfl (lv_at hl 2 rfl) ?_
  refine fw_get (v := .int (fw_g S0 p2 1)) C R ft_field_4_41 hk_p2 rfl d_ServingEnd_remember_7 ?_
  refine fw_puti C R ft_field_4_85 rfl hk_p1 d_ServingEnd_remember_10 (fun H locs R => ?_)
  obtain ⟨S1, eS1, hE⟩ := fw_let_ex hE
  rw [← eS1] at R
  clear eS1
  refine lv_aload_n hx hb d_ServingEnd_remember_13 rfl (lv_at hl 1 rfl) ?_
  refine lv_aload_n hx hb d_ServingEnd_remember_14 rfl (lv_at hl 2 rfl) ?_
  refine lv_iconst (v := 0) hx hb d_ServingEnd_remember_15 (by decide) ?_
  obtain ⟨x2, hF, hE⟩ := fw_bind hE
  refine fw_callV (As := [.int (0 : Int32)]) (rest := [.ref p1]) C R ft_callV_4_55 yi_Frame_byteAt ys_Frame_byteAt (ct_Frame_byteAt l G kd0 S1 _ _ _ hk_p2 hF) hk_p2 (by decide) rfl rfl hl.1 rfl (lv_room (Nat.le_of_ble_eq_true rfl)) ⟨Nat.le_of_ble_eq_true rfl, Nat.le_of_ble_eq_true rfl⟩ ⟨Nat.le_of_ble_eq_true rfl, Nat.le_of_ble_eq_true rfl⟩ d_ServingEnd_remember_16 (fun H locs kd3 hxkd3 hP R => ?_)
  rw [hP] at R; clear hP hxkd3
  refine fw_puti C R ft_field_4_52 rfl hk_p1 d_ServingEnd_remember_19 (fun H locs R => ?_)
  obtain ⟨S4, eS4, hE⟩ := fw_let_ex hE
  rw [← eS4] at R
  clear eS4
  refine lv_aload_n hx hb d_ServingEnd_remember_22 rfl (lv_at hl 1 rfl) ?_
  refine lv_aload_n hx hb d_ServingEnd_remember_23 rfl (lv_at hl 1 rfl) ?_
  refine fw_get (v := .int (fw_g S4 p1 1)) C R ft_field_4_52 hk_p1 rfl d_ServingEnd_remember_24 ?_
  refine fw_puti C R ft_field_4_75 rfl hk_p1 d_ServingEnd_remember_27 (fun H locs R => ?_)
  obtain ⟨S5, eS5, hE⟩ := fw_let_ex hE
  rw [← eS5] at R
  clear eS5
  refine lv_aload_n hx hb d_ServingEnd_remember_30 rfl (lv_at hl 1 rfl) ?_
  refine fw_getr C R ft_field_4_69 hk_p1 rfl rfl d_ServingEnd_remember_31 (fun hq => ?_) (fun b6 hq hk_b6 => ?_)
  · replace hE := fw_om_none hq hE
    cases hE
  · replace hE := fw_om_some hq hE
    obtain ⟨S7, hF, hE⟩ := fw_bind hE
    refine fw_callV (As := []) (rest := []) C R ft_callV_4_86 yi_Pairs_clear ys_Pairs_clear (ct_Pairs_clear l G kd0 S5 _ _ hk_b6 hF) hk_b6 (by decide) rfl rfl hl.1 rfl (lv_room (Nat.le_of_ble_eq_true rfl)) ⟨Nat.le_of_ble_eq_true rfl, Nat.le_of_ble_eq_true rfl⟩ ⟨Nat.le_of_ble_eq_true rfl, Nat.le_of_ble_eq_true rfl⟩ d_ServingEnd_remember_34 (fun H locs kd8 hxkd8 hP R => ?_)
    rw [hP] at R; clear hP hxkd8
    refine lv_iconst (v := 1) hx hb d_ServingEnd_remember_37 (by decide) ?_
    refine lv_istore_n (lv' := [(3, .int (1 : Int32)), (0, .ref a0), (1, .ref p1), (2, .ref p2)]) hx hb d_ServingEnd_remember_38 rfl hl (by decide) rfl (fun ls hl => ?_)
    exact h_l39 _ _ _ _ _ _ hk_a0 hk_p1 hk_p2 _ _ _ R (lv_sub hl [1, 2, 3, 0] rfl) hE
set_option maxHeartbeats 4000000 in
set_option maxRecDepth 100000 in
theorem ct_ServingEnd_writeRows (l : Launch) (G : fw_G) (kd0 : Nat → Option Nat) (S0 : fw_S) (a0 : Nat) (p1 : Nat) (p2 : Int32) (p3 : Int32) (S' : fw_S) (hk_a0 : kd0 a0 = some 4) (hk_p1 : kd0 p1 = some 1) (hE : F_ServingEnd_writeRows a0 p1 p2 p3 S0 = some S') : fw_M l G y_ServingEnd_writeRows prog_6_method_8_code 6 none 1 22 0 0 kd0 S0 ([.ref a0, .ref p1, .int p2, .int p3] : List Value) none S' (fun k => k = kd0) := by
  refine fw_start (by decide) (Nat.le_of_ble_eq_true rfl) ?_
  intro p e s m below meth c ls C hnm R hl
  clear hnm
  have hx := C.1
  have hb := C.2.1
  have hl : lv_has ls 6 [(0, .ref a0), (1, .ref p1), (2, .int p2), (3, .int p3)] := hl
  have h_l68 : ∀ (n : Nat), ∀ v0 : Nat, ∀ v1 : Nat, ∀ v4 : Int32, ∀ v5 : Int32, ∀ S0 : fw_S, kd0 v0 = some 4 → kd0 v1 = some 1 → ∀ (H : Heap) (locs : List Loc) (ls : Array Slot), fw_R G kd0 S0 H locs → lv_has ls 6 [(0, .ref v0), (1, .ref v1), (4, .int v4), (5, .int v5)] → F_ServingEnd_writeRows_l68 n v0 v1 v4 v5 S0 = some S' → W p l e { frames := 1, cells := 0, slots := 0, locals := 22 } s m ([.ref a0, .ref p1, .int p2, .int p3] : List Value).toArray below meth c H locs 0 0 (MQ below (fw_Q G kd0 none S' (fun k => k = kd0)) ([.ref a0, .ref p1, .int p2, .int p3] : List Value).toArray s 0 0 (fw_A G)) (F0 m 68 ls []) := by
    intro n
    induction n with
    | zero =>
      intro v0 v1 v4 v5 S0 hk_v0 hk_v1 H locs ls R hl hE
      rw [F_ServingEnd_writeRows_l68] at hE
      cases hE
    | succ n ih =>
      intro v0 v1 v4 v5 S0 hk_v0 hk_v1 H locs ls R hl hE
      rw [F_ServingEnd_writeRows_l68] at hE
      refine lv_iload hx hb d_ServingEnd_writeRows_68 (lv_at hl 3 rfl) ?_
      refine lv_iload hx hb d_ServingEnd_writeRows_70 (lv_at hl 2 rfl) ?_
      refine lv_icmp_ge (tgt := 113) hx hb d_ServingEnd_writeRows_72 (by decide) (fun hc => ?_) (fun hc => ?_)
      · replace hE := fw_if_t hc hE
        cases hE
        exact fw_vret C fw_X.rf rfl R d_ServingEnd_writeRows_113
      · replace hE := fw_if_f hc hE
        refine lv_aload_n hx hb d_ServingEnd_writeRows_75 rfl (lv_at hl 0 rfl) ?_
        refine fw_getr C R ft_field_4_36 hk_v0 rfl rfl d_ServingEnd_writeRows_76 (fun hq => ?_) (fun b14 hq hk_b14 => ?_)
        · replace hE := fw_om_none hq hE
          refine lv_aload_n hx hb d_ServingEnd_writeRows_79 rfl (lv_at hl 1 rfl) ?_
          refine fw_getr C R ft_field_4_69 hk_v1 rfl rfl d_ServingEnd_writeRows_80 (fun hq => ?_) (fun b15 hq hk_b15 => ?_)
          · replace hE := fw_om_none hq hE
            refine lv_iload hx hb d_ServingEnd_writeRows_83 (lv_at hl 3 rfl) ?_
            cases hE
          · replace hE := fw_om_some hq hE
            refine lv_iload hx hb d_ServingEnd_writeRows_83 (lv_at hl 3 rfl) ?_
            obtain ⟨x16, hF, hE⟩ := fw_bind hE
            refine fw_callV (As := [.int v5]) (rest := [.null]) C R ft_callV_4_92 yi_Pairs_keyAt ys_Pairs_keyAt (ct_Pairs_keyAt l G kd0 S0 _ _ _ hk_b15 hF) hk_b15 (by decide) rfl rfl hl.1 rfl (lv_room (Nat.le_of_ble_eq_true rfl)) ⟨Nat.le_of_ble_eq_true rfl, Nat.le_of_ble_eq_true rfl⟩ ⟨Nat.le_of_ble_eq_true rfl, Nat.le_of_ble_eq_true rfl⟩ d_ServingEnd_writeRows_85 (fun H locs kd17 hxkd17 hP R => ?_)
            rw [hP] at R; clear hP hxkd17
            cases hE
        · replace hE := fw_om_some hq hE
          refine lv_aload_n hx hb d_ServingEnd_writeRows_79 rfl (lv_at hl 1 rfl) ?_
          refine fw_getr C R ft_field_4_69 hk_v1 rfl rfl d_ServingEnd_writeRows_80 (fun hq => ?_) (fun b18 hq hk_b18 => ?_)
          · replace hE := fw_om_none hq hE
            refine lv_iload hx hb d_ServingEnd_writeRows_83 (lv_at hl 3 rfl) ?_
            cases hE
          · replace hE := fw_om_some hq hE
            refine lv_iload hx hb d_ServingEnd_writeRows_83 (lv_at hl 3 rfl) ?_
            obtain ⟨x19, hF, hE⟩ := fw_bind hE
            refine fw_callV (As := [.int v5]) (rest := [.ref b14]) C R ft_callV_4_92 yi_Pairs_keyAt ys_Pairs_keyAt (ct_Pairs_keyAt l G kd0 S0 _ _ _ hk_b18 hF) hk_b18 (by decide) rfl rfl hl.1 rfl (lv_room (Nat.le_of_ble_eq_true rfl)) ⟨Nat.le_of_ble_eq_true rfl, Nat.le_of_ble_eq_true rfl⟩ ⟨Nat.le_of_ble_eq_true rfl, Nat.le_of_ble_eq_true rfl⟩ d_ServingEnd_writeRows_85 (fun H locs kd20 hxkd20 hP R => ?_)
            rw [hP] at R; clear hP hxkd20
            obtain ⟨S21, hF, hE⟩ := fw_bind hE
            refine fw_callV (As := [.int x19]) (rest := []) C R ft_callV_4_82 yi_Frame_put ys_Frame_put (ct_Frame_put l G kd0 S0 _ _ _ hk_b14 hF) hk_b14 (by decide) rfl rfl hl.1 rfl (lv_room (Nat.le_of_ble_eq_true rfl)) ⟨Nat.le_of_ble_eq_true rfl, Nat.le_of_ble_eq_true rfl⟩ ⟨Nat.le_of_ble_eq_true rfl, Nat.le_of_ble_eq_true rfl⟩ d_ServingEnd_writeRows_88 (fun H locs kd22 hxkd22 hP R => ?_)
            rw [hP] at R; clear hP hxkd22
            refine lv_aload_n hx hb d_ServingEnd_writeRows_91 rfl (lv_at hl 0 rfl) ?_
            refine fw_getr C R ft_field_4_36 hk_v0 rfl rfl d_ServingEnd_writeRows_92 (fun hq => ?_) (fun b23 hq hk_b23 => ?_)
            · replace hE := fw_om_none hq hE
              refine lv_aload_n hx hb d_ServingEnd_writeRows_95 rfl (lv_at hl 1 rfl) ?_
              refine fw_getr C R ft_field_4_69 hk_v1 rfl rfl d_ServingEnd_writeRows_96 (fun hq => ?_) (fun b24 hq hk_b24 => ?_)
              · replace hE := fw_om_none hq hE
                refine lv_iload hx hb d_ServingEnd_writeRows_99 (lv_at hl 3 rfl) ?_
                cases hE
              · replace hE := fw_om_some hq hE
                refine lv_iload hx hb d_ServingEnd_writeRows_99 (lv_at hl 3 rfl) ?_
                obtain ⟨x25, hF, hE⟩ := fw_bind hE
                refine fw_callV (As := [.int v5]) (rest := [.null]) C R ft_callV_4_95 yi_Pairs_valueAt ys_Pairs_valueAt (ct_Pairs_valueAt l G kd0 S21 _ _ _ hk_b24 hF) hk_b24 (by decide) rfl rfl hl.1 rfl (lv_room (Nat.le_of_ble_eq_true rfl)) ⟨Nat.le_of_ble_eq_true rfl, Nat.le_of_ble_eq_true rfl⟩ ⟨Nat.le_of_ble_eq_true rfl, Nat.le_of_ble_eq_true rfl⟩ d_ServingEnd_writeRows_101 (fun H locs kd26 hxkd26 hP R => ?_)
                rw [hP] at R; clear hP hxkd26
                cases hE
            · replace hE := fw_om_some hq hE
              refine lv_aload_n hx hb d_ServingEnd_writeRows_95 rfl (lv_at hl 1 rfl) ?_
              refine fw_getr C R ft_field_4_69 hk_v1 rfl rfl d_ServingEnd_writeRows_96 (fun hq => ?_) (fun b27 hq hk_b27 => ?_)
              · replace hE := fw_om_none hq hE
                refine lv_iload hx hb d_ServingEnd_writeRows_99 (lv_at hl 3 rfl) ?_
                cases hE
              · replace hE := fw_om_some hq hE
                refine lv_iload hx hb d_ServingEnd_writeRows_99 (lv_at hl 3 rfl) ?_
                obtain ⟨x28, hF, hE⟩ := fw_bind hE
                refine fw_callV (As := [.int v5]) (rest := [.ref b23]) C R ft_callV_4_95 yi_Pairs_valueAt ys_Pairs_valueAt (ct_Pairs_valueAt l G kd0 S21 _ _ _ hk_b27 hF) hk_b27 (by decide) rfl rfl hl.1 rfl (lv_room (Nat.le_of_ble_eq_true rfl)) ⟨Nat.le_of_ble_eq_true rfl, Nat.le_of_ble_eq_true rfl⟩ ⟨Nat.le_of_ble_eq_true rfl, Nat.le_of_ble_eq_true rfl⟩ d_ServingEnd_writeRows_101 (fun H locs kd29 hxkd29 hP R => ?_)
                rw [hP] at R; clear hP hxkd29
                obtain ⟨S30, hF, hE⟩ := fw_bind hE
                refine fw_callV (As := [.int x28]) (rest := []) C R ft_callV_4_82 yi_Frame_put ys_Frame_put (ct_Frame_put l G kd0 S21 _ _ _ hk_b23 hF) hk_b23 (by decide) rfl rfl hl.1 rfl (lv_room (Nat.le_of_ble_eq_true rfl)) ⟨Nat.le_of_ble_eq_true rfl, Nat.le_of_ble_eq_true rfl⟩ ⟨Nat.le_of_ble_eq_true rfl, Nat.le_of_ble_eq_true rfl⟩ d_ServingEnd_writeRows_104 (fun H locs kd31 hxkd31 hP R => ?_)
                rw [hP] at R; clear hP hxkd31
                refine lv_iinc (v := (v5 + (1 : Int32))) (lv' := [(5, .int (v5 + (1 : Int32))), (0, .ref v0), (1, .ref v1), (4, .int v4)]) hx hb d_ServingEnd_writeRows_107 hl (k := 3) rfl rfl (by decide) rfl (fun ls hl => ?_)
                refine lv_goto (tgt := 68) hx hb d_ServingEnd_writeRows_110 (by decide) ?_
                exact ih _ _ _ _ _ hk_v0 hk_v1 _ _ _ R (lv_sub hl [1, 2, 3, 0] rfl) hE
  unfold F_ServingEnd_writeRows at hE
  refine lv_aload_n hx hb d_ServingEnd_writeRows_0 rfl (lv_at hl 1 rfl) ?_
  refine lv_ifnonnull (tgt := 5) hx hb d_ServingEnd_writeRows_1 (by decide) ?_
  refine lv_iload_n hx hb d_ServingEnd_writeRows_5 rfl (lv_at hl 3 rfl) ?_
  refine lv_bipush (v := 8) hx hb d_ServingEnd_writeRows_6 (by decide) ?_
  refine lv_iadd hx hb d_ServingEnd_writeRows_8 ?_
  refine lv_aload_n hx hb d_ServingEnd_writeRows_9 rfl (lv_at hl 1 rfl) ?_
  refine fw_getr C R ft_field_4_69 hk_p1 rfl rfl d_ServingEnd_writeRows_10 (fun hq => ?_) (fun b1 hq hk_b1 => ?_)
  · replace hE := fw_om_none hq hE
    cases hE
  · replace hE := fw_om_some hq hE
    refine fw_get (v := .int (fw_g S0 b1 2)) C R ft_field_4_72 hk_b1 rfl d_ServingEnd_writeRows_13 ?_
    refine fw_min C ft_min_4_102 mmin_1 mmin_2 mmin_3 hl.1 (Nat.le_of_ble_eq_true rfl) (Nat.le_of_ble_eq_true rfl) (Nat.le_of_ble_eq_true rfl) (Nat.le_of_ble_eq_true rfl) d_ServingEnd_writeRows_16 ?_
    refine lv_topi (fun x2 ex2 => ?_)
    replace hE := fw_let_use ex2 hE
    clear ex2
    refine lv_istore (lv' := [(4, .int x2), (0, .ref a0), (1, .ref p1), (2, .int p2), (3, .int p3)]) hx hb d_ServingEnd_writeRows_19 hl (by decide) rfl (fun ls hl => ?_)
    refine lv_aload_n hx hb d_ServingEnd_writeRows_21 rfl (lv_at hl 1 rfl) ?_
    refine fw_getr C R ft_field_4_36 hk_a0 rfl rfl d_ServingEnd_writeRows_22 (fun hq => ?_) (fun b3 hq hk_b3 => ?_)
    · replace hE := fw_om_none hq hE
      refine lv_iconst (v := 2) hx hb d_ServingEnd_writeRows_25 (by decide) ?_
      refine lv_aload_n hx hb d_ServingEnd_writeRows_26 rfl (lv_at hl 2 rfl) ?_
      refine fw_get (v := .int (fw_g S0 p1 0)) C R ft_field_4_85 hk_p1 rfl d_ServingEnd_writeRows_27 ?_
      cases hE
    · replace hE := fw_om_some hq hE
      refine lv_iconst (v := 2) hx hb d_ServingEnd_writeRows_25 (by decide) ?_
      refine lv_aload_n hx hb d_ServingEnd_writeRows_26 rfl (lv_at hl 2 rfl) ?_
      refine fw_get (v := .int (fw_g S0 p1 0)) C R ft_field_4_85 hk_p1 rfl d_ServingEnd_writeRows_27 ?_
      obtain ⟨S4, hF, hE⟩ := fw_bind hE
      refine fw_callV (As := [.int (2 : Int32), .int (fw_g S0 p1 0)]) (rest := []) C R ft_callV_4_78 yi_Frame_begin ys_Frame_begin (ct_Frame_begin l G kd0 S0 _ _ _ _ hk_b3 hF) hk_b3 (by decide) rfl rfl hl.1 rfl (lv_room (Nat.le_of_ble_eq_true rfl)) ⟨Nat.le_of_ble_eq_true rfl, Nat.le_of_ble_eq_true rfl⟩ ⟨Nat.le_of_ble_eq_true rfl, Nat.le_of_ble_eq_true rfl⟩ d_ServingEnd_writeRows_30 (fun H locs kd5 hxkd5 hP R => ?_)
      rw [hP] at R; clear hP hxkd5
      refine lv_aload_n hx hb d_ServingEnd_writeRows_33 rfl (lv_at hl 1 rfl) ?_
      refine fw_getr C R ft_field_4_36 hk_a0 rfl rfl d_ServingEnd_writeRows_34 (fun hq => ?_) (fun b6 hq hk_b6 => ?_)
      · replace hE := fw_om_none hq hE
        refine lv_iload_n hx hb d_ServingEnd_writeRows_37 rfl (lv_at hl 3 rfl) ?_
        cases hE
      · replace hE := fw_om_some hq hE
        refine lv_iload_n hx hb d_ServingEnd_writeRows_37 rfl (lv_at hl 3 rfl) ?_
        obtain ⟨S7, hF, hE⟩ := fw_bind hE
        refine fw_callV (As := [.int p2]) (rest := []) C R ft_callV_4_82 yi_Frame_put ys_Frame_put (ct_Frame_put l G kd0 S4 _ _ _ hk_b6 hF) hk_b6 (by decide) rfl rfl hl.1 rfl (lv_room (Nat.le_of_ble_eq_true rfl)) ⟨Nat.le_of_ble_eq_true rfl, Nat.le_of_ble_eq_true rfl⟩ ⟨Nat.le_of_ble_eq_true rfl, Nat.le_of_ble_eq_true rfl⟩ d_ServingEnd_writeRows_38 (fun H locs kd8 hxkd8 hP R => ?_)
        rw [hP] at R; clear hP hxkd8
        refine lv_aload_n hx hb d_ServingEnd_writeRows_41 rfl (lv_at hl 1 rfl) ?_
        refine fw_getr C R ft_field_4_36 hk_a0 rfl rfl d_ServingEnd_writeRows_42 (fun hq => ?_) (fun b9 hq hk_b9 => ?_)
        · replace hE := fw_om_none hq hE
          refine lv_iload hx hb d_ServingEnd_writeRows_45 (lv_at hl 0 rfl) ?_
          refine lv_aload_n hx hb d_ServingEnd_writeRows_47 rfl (lv_at hl 2 rfl) ?_
          refine fw_getr C R ft_field_4_69 hk_p1 rfl rfl d_ServingEnd_writeRows_48 (fun hq => ?_) (fun b10 hq hk_b10 => ?_)
          · replace hE := fw_om_none hq hE
            cases hE
          · replace hE := fw_om_some hq hE
            refine fw_get (v := .int (fw_g S7 b10 2)) C R ft_field_4_72 hk_b10 rfl d_ServingEnd_writeRows_51 ?_
            refine lv_icmp_ge (tgt := 61) hx hb d_ServingEnd_writeRows_54 (by decide) (fun hc => ?_) (fun hc => ?_)
            · replace hE := fw_if_t hc hE
              refine lv_iconst (v := 0) hx hb d_ServingEnd_writeRows_61 (by decide) ?_
              cases hE
            · replace hE := fw_if_f hc hE
              refine lv_iconst (v := 1) hx hb d_ServingEnd_writeRows_57 (by decide) ?_
              refine lv_goto (tgt := 62) hx hb d_ServingEnd_writeRows_58 (by decide) ?_
              cases hE
        · replace hE := fw_om_some hq hE
          refine lv_iload hx hb d_ServingEnd_writeRows_45 (lv_at hl 0 rfl) ?_
          refine lv_aload_n hx hb d_ServingEnd_writeRows_47 rfl (lv_at hl 2 rfl) ?_
          refine fw_getr C R ft_field_4_69 hk_p1 rfl rfl d_ServingEnd_writeRows_48 (fun hq => ?_) (fun b11 hq hk_b11 => ?_)
          · replace hE := fw_om_none hq hE
            cases hE
          · replace hE := fw_om_some hq hE
            refine fw_get (v := .int (fw_g S7 b11 2)) C R ft_field_4_72 hk_b11 rfl d_ServingEnd_writeRows_51 ?_
            refine lv_icmp_ge (tgt := 61) hx hb d_ServingEnd_writeRows_54 (by decide) (fun hc => ?_) (fun hc => ?_)
            · replace hE := fw_if_t hc hE
              refine lv_iconst (v := 0) hx hb d_ServingEnd_writeRows_61 (by decide) ?_
              obtain ⟨S12, hF, hE⟩ := fw_bind hE
              refine fw_callV (As := [.int (0 : Int32)]) (rest := []) C R ft_callV_4_82 yi_Frame_put ys_Frame_put (ct_Frame_put l G kd0 S7 _ _ _ hk_b9 hF) hk_b9 (by decide) rfl rfl hl.1 rfl (lv_room (Nat.le_of_ble_eq_true rfl)) ⟨Nat.le_of_ble_eq_true rfl, Nat.le_of_ble_eq_true rfl⟩ ⟨Nat.le_of_ble_eq_true rfl, Nat.le_of_ble_eq_true rfl⟩ d_ServingEnd_writeRows_62 (fun H locs kd13 hxkd13 hP R => ?_)
              rw [hP] at R; clear hP hxkd13
              refine lv_iload_n hx hb d_ServingEnd_writeRows_65 rfl (lv_at hl 4 rfl) ?_
              refine lv_istore (lv' := [(5, .int p3), (4, .int x2), (0, .ref a0), (1, .ref p1), (2, .int p2), (3, .int p3)]) hx hb d_ServingEnd_writeRows_66 hl (by decide) rfl (fun ls hl => ?_)
              exact h_l68 _ _ _ _ _ _ hk_a0 hk_p1 _ _ _ R (lv_sub hl [2, 3, 1, 0] rfl) hE
            · replace hE := fw_if_f hc hE
              refine lv_iconst (v := 1) hx hb d_ServingEnd_writeRows_57 (by decide) ?_
              refine lv_goto (tgt := 62) hx hb d_ServingEnd_writeRows_58 (by decide) ?_
              obtain ⟨S32, hF, hE⟩ := fw_bind hE
              refine fw_callV (As := [.int (1 : Int32)]) (rest := []) C R ft_callV_4_82 yi_Frame_put ys_Frame_put (ct_Frame_put l G kd0 S7 _ _ _ hk_b9 hF) hk_b9 (by decide) rfl rfl hl.1 rfl (lv_room (Nat.le_of_ble_eq_true rfl)) ⟨Nat.le_of_ble_eq_true rfl, Nat.le_of_ble_eq_true rfl⟩ ⟨Nat.le_of_ble_eq_true rfl, Nat.le_of_ble_eq_true rfl⟩ d_ServingEnd_writeRows_62 (fun H locs kd33 hxkd33 hP R => ?_)
              rw [hP] at R; clear hP hxkd33
              refine lv_iload_n hx hb d_ServingEnd_writeRows_65 rfl (lv_at hl 4 rfl) ?_
              refine lv_istore (lv' := [(5, .int p3), (4, .int x2), (0, .ref a0), (1, .ref p1), (2, .int p2), (3, .int p3)]) hx hb d_ServingEnd_writeRows_66 hl (by decide) rfl (fun ls hl => ?_)
              exact h_l68 _ _ _ _ _ _ hk_a0 hk_p1 _ _ _ R (lv_sub hl [2, 3, 1, 0] rfl) hE
