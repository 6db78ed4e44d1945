set_option maxHeartbeats 4000000 in
set_option maxRecDepth 100000 in
theorem ct_ServingEnd_answerAsk (l : Launch) (G : fw_G) (kd0 : Nat → Option Nat) (S0 : fw_S) (a0 : Nat) (p1 : Nat) (S' : fw_S) (hk_a0 : kd0 a0 = some 4) (hk_p1 : kd0 p1 = some 0) (hE : F_ServingEnd_answerAsk a0 p1 S0 = some S') : fw_M l G y_ServingEnd_answerAsk prog_6_method_2_code 3 none 3 68 0 0 kd0 S0 ([.ref a0, .ref p1] : List Value) none S' (fun k => k = kd0) := by
  refine fw_start (by decide) (Nat.le_of_ble_eq_true rfl) ?_
  intro p e s m below meth c ls C hnm R hl
  clear hnm
  have hx := C.1
  have hb := C.2.1
  have hl : lv_has ls 3 [(0, .ref a0), (1, .ref p1)] := hl
  have h_j42 : ∀ v0 : Nat, ∀ v1 : Nat, ∀ S0 : fw_S, kd0 v0 = some 4 → kd0 v1 = some 0 → ∀ (H : Heap) (locs : List Loc) (ls : Array Slot), fw_R G kd0 S0 H locs → lv_has ls 3 [(0, .ref v0), (1, .ref v1)] → F_ServingEnd_answerAsk_j42 v0 v1 S0 = some S' → W p l e { frames := 3, cells := 0, slots := 0, locals := 68 } s m ([.ref a0, .ref p1] : List Value).toArray below meth c H locs 0 0 (MQ below (fw_Q G kd0 none S' (fun k => k = kd0)) ([.ref a0, .ref p1] : List Value).toArray s 0 0 (fw_A G)) (F0 m 42 ls []) := by
    intro v0 v1 S0 hk_v0 hk_v1 H locs ls R hl hE
    unfold F_ServingEnd_answerAsk_j42 at hE
    refine lv_aload_n hx hb d_ServingEnd_answerAsk_42 rfl (lv_at hl 0 rfl) ?_
    refine lv_aload_n hx hb d_ServingEnd_answerAsk_43 rfl (lv_at hl 1 rfl) ?_
    refine fw_get (v := .int (fw_g S0 v1 1)) C R ft_field_4_41 hk_v1 rfl d_ServingEnd_answerAsk_44 ?_
    obtain ⟨o7, S6, hF, hE⟩ := fw_b2_ex hE
    refine fw_callV (As := [.int (fw_g S0 v1 1)]) (rest := []) C R ft_callV_4_58 yi_ServingEnd_memoryFor ys_ServingEnd_memoryFor (ct_ServingEnd_memoryFor l G kd0 S0 _ _ _ _ hk_v0 hF) hk_v0 (by decide) rfl rfl hl.1 rfl (lv_room (Nat.le_of_ble_eq_true rfl)) ⟨Nat.le_of_ble_eq_true rfl, Nat.le_of_ble_eq_true rfl⟩ ⟨Nat.le_of_ble_eq_true rfl, Nat.le_of_ble_eq_true rfl⟩ d_ServingEnd_answerAsk_47 (fun H locs kd8 hxkd8 hP R => ?_)
    obtain ⟨hP0, hP⟩ := hP
    rw [hP0] at hP R; clear hP0 hxkd8
    cases o7 with
    | none =>
      replace hE := fw_om_none rfl hE
      refine lv_astore_nN (lv' := [(2, .null), (0, .ref v0), (1, .ref v1)]) hx hb d_ServingEnd_answerAsk_50 rfl hl (by decide) rfl (fun ls hl => ?_)
      refine lv_aload_n hx hb d_ServingEnd_answerAsk_51 rfl (lv_at hl 1 rfl) ?_
      refine lv_aload_nN hx hb d_ServingEnd_answerAsk_52 rfl (lv_at hl 0 rfl) ?_
      refine lv_aload_n hx hb d_ServingEnd_answerAsk_53 rfl (lv_at hl 2 rfl) ?_
      cases hE
    | some b9 =>
      replace hE := fw_om_some rfl hE
      have hk_b9 := hP _ rfl
      clear hP
      refine lv_astore_n (lv' := [(2, .ref b9), (0, .ref v0), (1, .ref v1)]) hx hb d_ServingEnd_answerAsk_50 rfl hl (by decide) rfl (fun ls hl => ?_)
      refine lv_aload_n hx hb d_ServingEnd_answerAsk_51 rfl (lv_at hl 1 rfl) ?_
      refine lv_aload_n hx hb d_ServingEnd_answerAsk_52 rfl (lv_at hl 0 rfl) ?_
      refine lv_aload_n hx hb d_ServingEnd_answerAsk_53 rfl (lv_at hl 2 rfl) ?_
      obtain ⟨S10, hF, hE⟩ := fw_bind hE
      refine fw_callV (As := [.ref b9, .ref v1]) (rest := []) C R ft_callV_4_61 yi_ServingEnd_remember ys_ServingEnd_remember (ct_ServingEnd_remember l G kd0 S6 _ _ _ _ hk_v0 hk_b9 hk_v1 hF) hk_v0 (by decide) rfl rfl hl.1 rfl (lv_room (Nat.le_of_ble_eq_true rfl)) ⟨Nat.le_of_ble_eq_true rfl, Nat.le_of_ble_eq_true rfl⟩ ⟨Nat.le_of_ble_eq_true rfl, Nat.le_of_ble_eq_true rfl⟩ d_ServingEnd_answerAsk_54 (fun H locs kd11 hxkd11 hP R => ?_)
      rw [hP] at R; clear hP hxkd11
      refine lv_aload_n hx hb d_ServingEnd_answerAsk_57 rfl (lv_at hl 1 rfl) ?_
      refine lv_aload_n hx hb d_ServingEnd_answerAsk_58 rfl (lv_at hl 0 rfl) ?_
      refine lv_aload_n hx hb d_ServingEnd_answerAsk_59 rfl (lv_at hl 2 rfl) ?_
      refine lv_iconst (v := 0) hx hb d_ServingEnd_answerAsk_60 (by decide) ?_
      obtain ⟨x12, hF, hE⟩ := fw_bind hE
      refine fw_callV (As := [.int (0 : Int32)]) (rest := [.ref b9, .ref v0]) C R ft_callV_4_55 yi_Frame_byteAt ys_Frame_byteAt (ct_Frame_byteAt l G kd0 S10 _ _ _ hk_v1 hF) hk_v1 (by decide) rfl rfl hl.1 rfl (lv_room (Nat.le_of_ble_eq_true rfl)) ⟨Nat.le_of_ble_eq_true rfl, Nat.le_of_ble_eq_true rfl⟩ ⟨Nat.le_of_ble_eq_true rfl, Nat.le_of_ble_eq_true rfl⟩ d_ServingEnd_answerAsk_61 (fun H locs kd13 hxkd13 hP R => ?_)
      rw [hP] at R; clear hP hxkd13
      refine lv_iconst (v := 0) hx hb d_ServingEnd_answerAsk_64 (by decide) ?_
      obtain ⟨S14, hF, hE⟩ := fw_bind hE
      refine fw_callV (As := [.ref b9, .int x12, .int (0 : Int32)]) (rest := []) C R ft_callV_4_65 yi_ServingEnd_writeRows ys_ServingEnd_writeRows (ct_ServingEnd_writeRows l G kd0 S10 _ _ _ _ _ hk_v0 hk_b9 hF) hk_v0 (by decide) rfl rfl hl.1 rfl (lv_room (Nat.le_of_ble_eq_true rfl)) ⟨Nat.le_of_ble_eq_true rfl, Nat.le_of_ble_eq_true rfl⟩ ⟨Nat.le_of_ble_eq_true rfl, Nat.le_of_ble_eq_true rfl⟩ d_ServingEnd_answerAsk_65 (fun H locs kd15 hxkd15 hP R => ?_)
      rw [hP] at R; clear hP hxkd15
      cases hE
      exact fw_vret C fw_X.rf rfl R d_ServingEnd_answerAsk_68
  unfold F_ServingEnd_answerAsk at hE
  refine lv_aload_n hx hb d_ServingEnd_answerAsk_0 rfl (lv_at hl 0 rfl) ?_
  refine lv_aload_n hx hb d_ServingEnd_answerAsk_1 rfl (lv_at hl 0 rfl) ?_
  refine lv_aload_n hx hb d_ServingEnd_answerAsk_2 rfl (lv_at hl 1 rfl) ?_
  refine fw_get (v := .int (fw_g S0 p1 1)) C R ft_field_4_41 hk_p1 rfl d_ServingEnd_answerAsk_3 ?_
  obtain ⟨x1, hF, hE⟩ := fw_bind hE
  refine fw_callV (As := [.int (fw_g S0 p1 1)]) (rest := [.ref a0]) C R ft_callV_4_44 yi_ServingEnd_placeOf ys_ServingEnd_placeOf (ct_ServingEnd_placeOf l G kd0 S0 _ _ _ hk_a0 hF) hk_a0 (by decide) rfl rfl hl.1 rfl (lv_room (Nat.le_of_ble_eq_true rfl)) ⟨Nat.le_of_ble_eq_true rfl, Nat.le_of_ble_eq_true rfl⟩ ⟨Nat.le_of_ble_eq_true rfl, Nat.le_of_ble_eq_true rfl⟩ d_ServingEnd_answerAsk_6 (fun H locs kd2 hxkd2 hP R => ?_)
  rw [hP] at R; clear hP hxkd2
  obtain ⟨o3, hF, hE⟩ := fw_bind hE
  refine fw_callV (As := [.int x1]) (rest := []) C R ft_callV_4_48 yi_ServingEnd_memoryAt ys_ServingEnd_memoryAt (ct_ServingEnd_memoryAt l G kd0 S0 _ _ _ hk_a0 hF) hk_a0 (by decide) rfl rfl hl.1 rfl (lv_room (Nat.le_of_ble_eq_true rfl)) ⟨Nat.le_of_ble_eq_true rfl, Nat.le_of_ble_eq_true rfl⟩ ⟨Nat.le_of_ble_eq_true rfl, Nat.le_of_ble_eq_true rfl⟩ d_ServingEnd_answerAsk_9 (fun H locs kd4 hxkd4 hP R => ?_)
  obtain ⟨hP0, hP⟩ := hP
  rw [hP0] at hP R; clear hP0 hxkd4
  cases o3 with
  | none =>
    replace hE := fw_om_none rfl hE
    refine lv_astore_nN (lv' := [(2, .null), (0, .ref a0), (1, .ref p1)]) hx hb d_ServingEnd_answerAsk_12 rfl hl (by decide) rfl (fun ls hl => ?_)
    refine lv_aload_nN hx hb d_ServingEnd_answerAsk_13 rfl (lv_at hl 0 rfl) ?_
    refine lv_ifnullN (tgt := 42) hx hb d_ServingEnd_answerAsk_14 (by decide) ?_
    exact h_j42 _ _ _ hk_a0 hk_p1 _ _ _ R (lv_sub hl [1, 2] rfl) hE
  | some b5 =>
    replace hE := fw_om_some rfl hE
    have hk_b5 := hP _ rfl
    clear hP
    refine lv_astore_n (lv' := [(2, .ref b5), (0, .ref a0), (1, .ref p1)]) hx hb d_ServingEnd_answerAsk_12 rfl hl (by decide) rfl (fun ls hl => ?_)
    refine lv_aload_n hx hb d_ServingEnd_answerAsk_13 rfl (lv_at hl 0 rfl) ?_
    refine lv_ifnull hx hb d_ServingEnd_answerAsk_14 ?_
    refine lv_aload_n hx hb d_ServingEnd_answerAsk_17 rfl (lv_at hl 0 rfl) ?_
    refine fw_get (v := .int (fw_g S0 b5 1)) C R ft_field_4_52 hk_b5 rfl d_ServingEnd_answerAsk_18 ?_
    refine lv_aload_n hx hb d_ServingEnd_answerAsk_21 rfl (lv_at hl 2 rfl) ?_
    refine lv_iconst (v := 0) hx hb d_ServingEnd_answerAsk_22 (by decide) ?_
    obtain ⟨x16, hF, hE⟩ := fw_bind hE
    refine fw_callV (As := [.int (0 : Int32)]) (rest := [.int (fw_g S0 b5 1)]) C R ft_callV_4_55 yi_Frame_byteAt ys_Frame_byteAt (ct_Frame_byteAt l G kd0 S0 _ _ _ hk_p1 hF) hk_p1 (by decide) rfl rfl hl.1 rfl (lv_room (Nat.le_of_ble_eq_true rfl)) ⟨Nat.le_of_ble_eq_true rfl, Nat.le_of_ble_eq_true rfl⟩ ⟨Nat.le_of_ble_eq_true rfl, Nat.le_of_ble_eq_true rfl⟩ d_ServingEnd_answerAsk_23 (fun H locs kd17 hxkd17 hP R => ?_)
    rw [hP] at R; clear hP hxkd17
    refine lv_icmp_ne (tgt := 42) hx hb d_ServingEnd_answerAsk_26 (by decide) (fun hc => ?_) (fun hc => ?_)
    · replace hE := fw_if_f hc hE
      exact h_j42 _ _ _ hk_a0 hk_p1 _ _ _ R (lv_sub hl [1, 2] rfl) hE
    · replace hE := fw_if_t hc hE
      refine lv_aload_n hx hb d_ServingEnd_answerAsk_29 rfl (lv_at hl 1 rfl) ?_
      refine lv_dup hx hb d_ServingEnd_answerAsk_30 rfl ?_
      refine fw_get (v := .int (fw_g S0 a0 3)) C R ft_field_4_30 hk_a0 rfl d_ServingEnd_answerAsk_31 ?_
      refine lv_iconst (v := 1) hx hb d_ServingEnd_answerAsk_34 (by decide) ?_
      refine lv_iadd hx hb d_ServingEnd_answerAsk_35 ?_
      refine fw_puti C R ft_field_4_30 rfl hk_a0 d_ServingEnd_answerAsk_36 (fun H locs R => ?_)
      obtain ⟨S18, eS18, hE⟩ := fw_let_ex hE
      rw [← eS18] at R
      clear eS18
      refine lv_goto (tgt := 57) hx hb d_ServingEnd_answerAsk_39 (by decide) ?_
      refine lv_aload_n hx hb d_ServingEnd_answerAsk_57 rfl (lv_at hl 1 rfl) ?_
      refine lv_aload_n hx hb d_ServingEnd_answerAsk_58 rfl (lv_at hl 0 rfl) ?_
      refine lv_aload_n hx hb d_ServingEnd_answerAsk_59 rfl (lv_at hl 2 rfl) ?_
      refine lv_iconst (v := 0) hx hb d_ServingEnd_answerAsk_60 (by decide) ?_
      obtain ⟨x19, hF, hE⟩ := fw_bind hE
      refine fw_callV (As := [.int (0 : Int32)]) (rest := [.ref b5, .ref a0]) C R ft_callV_4_55 yi_Frame_byteAt ys_Frame_byteAt (ct_Frame_byteAt l G kd0 S18 _ _ _ hk_p1 hF) hk_p1 (by decide) rfl rfl hl.1 rfl (lv_room (Nat.le_of_ble_eq_true rfl)) ⟨Nat.le_of_ble_eq_true rfl, Nat.le_of_ble_eq_true rfl⟩ ⟨Nat.le_of_ble_eq_true rfl, Nat.le_of_ble_eq_true rfl⟩ d_ServingEnd_answerAsk_61 (fun H locs kd20 hxkd20 hP R => ?_)
      rw [hP] at R; clear hP hxkd20
      refine lv_iconst (v := 0) hx hb d_ServingEnd_answerAsk_64 (by decide) ?_
      obtain ⟨S21, hF, hE⟩ := fw_bind hE
      refine fw_callV (As := [.ref b5, .int x19, .int (0 : Int32)]) (rest := []) C R ft_callV_4_65 yi_ServingEnd_writeRows ys_ServingEnd_writeRows (ct_ServingEnd_writeRows l G kd0 S18 _ _ _ _ _ hk_a0 hk_b5 hF) hk_a0 (by decide) rfl rfl hl.1 rfl (lv_room (Nat.le_of_ble_eq_true rfl)) ⟨Nat.le_of_ble_eq_true rfl, Nat.le_of_ble_eq_true rfl⟩ ⟨Nat.le_of_ble_eq_true rfl, Nat.le_of_ble_eq_true rfl⟩ d_ServingEnd_answerAsk_65 (fun H locs kd22 hxkd22 hP R => ?_)
      rw [hP] at R; clear hP hxkd22
      cases hE
      exact fw_vret C fw_X.rf rfl R d_ServingEnd_answerAsk_68
set_option maxHeartbeats 4000000 in
set_option maxRecDepth 100000 in
theorem ct_ServingEnd_answerMore (l : Launch) (G : fw_G) (kd0 : Nat → Option Nat) (S0 : fw_S) (a0 : Nat) (p1 : Nat) (S' : fw_S) (hk_a0 : kd0 a0 = some 4) (hk_p1 : kd0 p1 = some 0) (hE : F_ServingEnd_answerMore a0 p1 S0 = some S') : fw_M l G y_ServingEnd_answerMore prog_6_method_3_code 5 none 2 47 0 0 kd0 S0 ([.ref a0, .ref p1] : List Value) none S' (fun k => k = kd0) := by
  refine fw_start (by decide) (Nat.le_of_ble_eq_true rfl) ?_
  intro p e s m below meth c ls C hnm R hl
  clear hnm
  have hx := C.1
  have hb := C.2.1
  have hl : lv_has ls 5 [(0, .ref a0), (1, .ref p1)] := hl
  have h_j64 : ∀ v0 : Nat, ∀ v1 : Nat, ∀ v3 : Int32, ∀ S0 : fw_S, kd0 v0 = some 4 → kd0 v1 = some 0 → ∀ (H : Heap) (locs : List Loc) (ls : Array Slot), fw_R G kd0 S0 H locs → lv_has ls 5 [(0, .ref v0), (1, .ref v1), (3, .int v3)] → F_ServingEnd_answerMore_j64 v0 v1 v3 S0 = some S' → W p l e { frames := 2, cells := 0, slots := 0, locals := 47 } s m ([.ref a0, .ref p1] : List Value).toArray below meth c H locs 0 0 (MQ below (fw_Q G kd0 none S' (fun k => k = kd0)) ([.ref a0, .ref p1] : List Value).toArray s 0 0 (fw_A G)) (F0 m 64 ls []) := by
    intro v0 v1 v3 S0 hk_v0 hk_v1 H locs ls R hl hE
    unfold F_ServingEnd_answerMore_j64 at hE
    refine lv_aload_n hx hb d_ServingEnd_answerMore_64 rfl (lv_at hl 0 rfl) ?_
    refine fw_getr C R ft_field_4_36 hk_v0 rfl rfl d_ServingEnd_answerMore_65 (fun hq => ?_) (fun b10 hq hk_b10 => ?_)
    · replace hE := fw_om_none hq hE
      refine lv_iconst (v := 4) hx hb d_ServingEnd_answerMore_68 (by decide) ?_
      refine lv_aload_n hx hb d_ServingEnd_answerMore_69 rfl (lv_at hl 1 rfl) ?_
      refine fw_get (v := .int (fw_g S0 v1 1)) C R ft_field_4_41 hk_v1 rfl d_ServingEnd_answerMore_70 ?_
      cases hE
    · replace hE := fw_om_some hq hE
      refine lv_iconst (v := 4) hx hb d_ServingEnd_answerMore_68 (by decide) ?_
      refine lv_aload_n hx hb d_ServingEnd_answerMore_69 rfl (lv_at hl 1 rfl) ?_
      refine fw_get (v := .int (fw_g S0 v1 1)) C R ft_field_4_41 hk_v1 rfl d_ServingEnd_answerMore_70 ?_
      obtain ⟨S11, hF, hE⟩ := fw_bind hE
      refine fw_callV (As := [.int (4 : Int32), .int (fw_g S0 v1 1)]) (rest := []) C R ft_callV_4_78 yi_Frame_begin ys_Frame_begin (ct_Frame_begin l G kd0 S0 _ _ _ _ hk_b10 hF) hk_b10 (by decide) rfl rfl hl.1 rfl (lv_room (Nat.le_of_ble_eq_true rfl)) ⟨Nat.le_of_ble_eq_true rfl, Nat.le_of_ble_eq_true rfl⟩ ⟨Nat.le_of_ble_eq_true rfl, Nat.le_of_ble_eq_true rfl⟩ d_ServingEnd_answerMore_73 (fun H locs kd12 hxkd12 hP R => ?_)
      rw [hP] at R; clear hP hxkd12
      refine lv_aload_n hx hb d_ServingEnd_answerMore_76 rfl (lv_at hl 0 rfl) ?_
      refine fw_getr C R ft_field_4_36 hk_v0 rfl rfl d_ServingEnd_answerMore_77 (fun hq => ?_) (fun b13 hq hk_b13 => ?_)
      · replace hE := fw_om_none hq hE
        refine lv_iload_n hx hb d_ServingEnd_answerMore_80 rfl (lv_at hl 2 rfl) ?_
        cases hE
      · replace hE := fw_om_some hq hE
        refine lv_iload_n hx hb d_ServingEnd_answerMore_80 rfl (lv_at hl 2 rfl) ?_
        obtain ⟨S14, hF, hE⟩ := fw_bind hE
        refine fw_callV (As := [.int v3]) (rest := []) C R ft_callV_4_82 yi_Frame_put ys_Frame_put (ct_Frame_put l G kd0 S11 _ _ _ hk_b13 hF) hk_b13 (by decide) rfl rfl hl.1 rfl (lv_room (Nat.le_of_ble_eq_true rfl)) ⟨Nat.le_of_ble_eq_true rfl, Nat.le_of_ble_eq_true rfl⟩ ⟨Nat.le_of_ble_eq_true rfl, Nat.le_of_ble_eq_true rfl⟩ d_ServingEnd_answerMore_81 (fun H locs kd15 hxkd15 hP R => ?_)
        rw [hP] at R; clear hP hxkd15
        cases hE
        exact fw_vret C fw_X.rf rfl R d_ServingEnd_answerMore_84
  unfold F_ServingEnd_answerMore at hE
  refine lv_aload_n hx hb d_ServingEnd_answerMore_0 rfl (lv_at hl 0 rfl) ?_
  refine lv_aload_n hx hb d_ServingEnd_answerMore_1 rfl (lv_at hl 0 rfl) ?_
  refine lv_aload_n hx hb d_ServingEnd_answerMore_2 rfl (lv_at hl 1 rfl) ?_
  refine fw_get (v := .int (fw_g S0 p1 1)) C R ft_field_4_41 hk_p1 rfl d_ServingEnd_answerMore_3 ?_
  obtain ⟨x1, hF, hE⟩ := fw_bind hE
  refine fw_callV (As := [.int (fw_g S0 p1 1)]) (rest := [.ref a0]) C R ft_callV_4_44 yi_ServingEnd_placeOf ys_ServingEnd_placeOf (ct_ServingEnd_placeOf l G kd0 S0 _ _ _ hk_a0 hF) hk_a0 (by decide) rfl rfl hl.1 rfl (lv_room (Nat.le_of_ble_eq_true rfl)) ⟨Nat.le_of_ble_eq_true rfl, Nat.le_of_ble_eq_true rfl⟩ ⟨Nat.le_of_ble_eq_true rfl, Nat.le_of_ble_eq_true rfl⟩ d_ServingEnd_answerMore_6 (fun H locs kd2 hxkd2 hP R => ?_)
  rw [hP] at R; clear hP hxkd2
  obtain ⟨o3, hF, hE⟩ := fw_bind hE
  refine fw_callV (As := [.int x1]) (rest := []) C R ft_callV_4_48 yi_ServingEnd_memoryAt ys_ServingEnd_memoryAt (ct_ServingEnd_memoryAt l G kd0 S0 _ _ _ hk_a0 hF) hk_a0 (by decide) rfl rfl hl.1 rfl (lv_room (Nat.le_of_ble_eq_true rfl)) ⟨Nat.le_of_ble_eq_true rfl, Nat.le_of_ble_eq_true rfl⟩ ⟨Nat.le_of_ble_eq_true rfl, Nat.le_of_ble_eq_true rfl⟩ d_ServingEnd_answerMore_9 (fun H locs kd4 hxkd4 hP R => ?_)
  obtain ⟨hP0, hP⟩ := hP
  rw [hP0] at hP R; clear hP0 hxkd4
  cases o3 with
  | none =>
    replace hE := fw_om_none rfl hE
    refine lv_astore_nN (lv' := [(2, .null), (0, .ref a0), (1, .ref p1)]) hx hb d_ServingEnd_answerMore_12 rfl hl (by decide) rfl (fun ls hl => ?_)
    refine lv_aload_n hx hb d_ServingEnd_answerMore_13 rfl (lv_at hl 2 rfl) ?_
    refine lv_iconst (v := 0) hx hb d_ServingEnd_answerMore_14 (by decide) ?_
    obtain ⟨x6, hF, hE⟩ := fw_bind hE
    refine fw_callV (As := [.int (0 : Int32)]) (rest := []) C R ft_callV_4_55 yi_Frame_byteAt ys_Frame_byteAt (ct_Frame_byteAt l G kd0 S0 _ _ _ hk_p1 hF) hk_p1 (by decide) rfl rfl hl.1 rfl (lv_room (Nat.le_of_ble_eq_true rfl)) ⟨Nat.le_of_ble_eq_true rfl, Nat.le_of_ble_eq_true rfl⟩ ⟨Nat.le_of_ble_eq_true rfl, Nat.le_of_ble_eq_true rfl⟩ d_ServingEnd_answerMore_15 (fun H locs kd7 hxkd7 hP R => ?_)
    rw [hP] at R; clear hP hxkd7
    refine lv_istore_n (lv' := [(3, .int x6), (2, .null), (0, .ref a0), (1, .ref p1)]) hx hb d_ServingEnd_answerMore_18 rfl hl (by decide) rfl (fun ls hl => ?_)
    refine lv_aload_n hx hb d_ServingEnd_answerMore_19 rfl (lv_at hl 3 rfl) ?_
    refine lv_iconst (v := 1) hx hb d_ServingEnd_answerMore_20 (by decide) ?_
    obtain ⟨x8, hF, hE⟩ := fw_bind hE
    refine fw_callV (As := [.int (1 : Int32)]) (rest := []) C R ft_callV_4_55 yi_Frame_byteAt ys_Frame_byteAt (ct_Frame_byteAt l G kd0 S0 _ _ _ hk_p1 hF) hk_p1 (by decide) rfl rfl hl.1 rfl (lv_room (Nat.le_of_ble_eq_true rfl)) ⟨Nat.le_of_ble_eq_true rfl, Nat.le_of_ble_eq_true rfl⟩ ⟨Nat.le_of_ble_eq_true rfl, Nat.le_of_ble_eq_true rfl⟩ d_ServingEnd_answerMore_21 (fun H locs kd9 hxkd9 hP R => ?_)
    rw [hP] at R; clear hP hxkd9
    refine lv_istore (lv' := [(4, .int x8), (3, .int x6), (2, .null), (0, .ref a0), (1, .ref p1)]) hx hb d_ServingEnd_answerMore_24 hl (by decide) rfl (fun ls hl => ?_)
    refine lv_aload_nN hx hb d_ServingEnd_answerMore_26 rfl (lv_at hl 2 rfl) ?_
    refine lv_ifnullN (tgt := 64) hx hb d_ServingEnd_answerMore_27 (by decide) ?_
    exact h_j64 _ _ _ _ hk_a0 hk_p1 _ _ _ R (lv_sub hl [3, 4, 1] rfl) hE
  | some b5 =>
    replace hE := fw_om_some rfl hE
    have hk_b5 := hP _ rfl
    clear hP
    refine lv_astore_n (lv' := [(2, .ref b5), (0, .ref a0), (1, .ref p1)]) hx hb d_ServingEnd_answerMore_12 rfl hl (by decide) rfl (fun ls hl => ?_)
    refine lv_aload_n hx hb d_ServingEnd_answerMore_13 rfl (lv_at hl 2 rfl) ?_
    refine lv_iconst (v := 0) hx hb d_ServingEnd_answerMore_14 (by decide) ?_
    obtain ⟨x16, hF, hE⟩ := fw_bind hE
    refine fw_callV (As := [.int (0 : Int32)]) (rest := []) C R ft_callV_4_55 yi_Frame_byteAt ys_Frame_byteAt (ct_Frame_byteAt l G kd0 S0 _ _ _ hk_p1 hF) hk_p1 (by decide) rfl rfl hl.1 rfl (lv_room (Nat.le_of_ble_eq_true rfl)) ⟨Nat.le_of_ble_eq_true rfl, Nat.le_of_ble_eq_true rfl⟩ ⟨Nat.le_of_ble_eq_true rfl, Nat.le_of_ble_eq_true rfl⟩ d_ServingEnd_answerMore_15 (fun H locs kd17 hxkd17 hP R => ?_)
    rw [hP] at R; clear hP hxkd17
    refine lv_istore_n (lv' := [(3, .int x16), (2, .ref b5), (0, .ref a0), (1, .ref p1)]) hx hb d_ServingEnd_answerMore_18 rfl hl (by decide) rfl (fun ls hl => ?_)
    refine lv_aload_n hx hb d_ServingEnd_answerMore_19 rfl (lv_at hl 3 rfl) ?_
    refine lv_iconst (v := 1) hx hb d_ServingEnd_answerMore_20 (by decide) ?_
    obtain ⟨x18, hF, hE⟩ := fw_bind hE
    refine fw_callV (As := [.int (1 : Int32)]) (rest := []) C R ft_callV_4_55 yi_Frame_byteAt ys_Frame_byteAt (ct_Frame_byteAt l G kd0 S0 _ _ _ hk_p1 hF) hk_p1 (by decide) rfl rfl hl.1 rfl (lv_room (Nat.le_of_ble_eq_true rfl)) ⟨Nat.le_of_ble_eq_true rfl, Nat.le_of_ble_eq_true rfl⟩ ⟨Nat.le_of_ble_eq_true rfl, Nat.le_of_ble_eq_true rfl⟩ d_ServingEnd_answerMore_21 (fun H locs kd19 hxkd19 hP R => ?_)
    rw [hP] at R; clear hP hxkd19
    refine lv_istore (lv' := [(4, .int x18), (3, .int x16), (2, .ref b5), (0, .ref a0), (1, .ref p1)]) hx hb d_ServingEnd_answerMore_24 hl (by decide) rfl (fun ls hl => ?_)
    refine lv_aload_n hx hb d_ServingEnd_answerMore_26 rfl (lv_at hl 2 rfl) ?_
    refine lv_ifnull hx hb d_ServingEnd_answerMore_27 ?_
    refine lv_iload hx hb d_ServingEnd_answerMore_30 (lv_at hl 0 rfl) ?_
    refine lv_aload_n hx hb d_ServingEnd_answerMore_32 rfl (lv_at hl 2 rfl) ?_
    refine fw_getr C R ft_field_4_69 hk_b5 rfl rfl d_ServingEnd_answerMore_33 (fun hq => ?_) (fun b20 hq hk_b20 => ?_)
    · replace hE := fw_om_none hq hE
      cases hE
    · replace hE := fw_om_some hq hE
      refine fw_get (v := .int (fw_g S0 b20 2)) C R ft_field_4_72 hk_b20 rfl d_ServingEnd_answerMore_36 ?_
      refine lv_icmp_gt (tgt := 64) hx hb d_ServingEnd_answerMore_39 (by decide) (fun hc => ?_) (fun hc => ?_)
      · replace hE := fw_if_t hc hE
        exact h_j64 _ _ _ _ hk_a0 hk_p1 _ _ _ R (lv_sub hl [3, 4, 1] rfl) hE
      · replace hE := fw_if_f hc hE
        refine lv_iload_n hx hb d_ServingEnd_answerMore_42 rfl (lv_at hl 1 rfl) ?_
        refine lv_aload_n hx hb d_ServingEnd_answerMore_43 rfl (lv_at hl 2 rfl) ?_
        refine fw_get (v := .int (fw_g S0 b5 2)) C R ft_field_4_75 hk_b5 rfl d_ServingEnd_answerMore_44 ?_
        refine lv_icmp_eq (tgt := 85) hx hb d_ServingEnd_answerMore_47 (by decide) (fun hc => ?_) (fun hc => ?_)
        · replace hE := fw_if_t hc hE
          refine lv_aload_n hx hb d_ServingEnd_answerMore_85 rfl (lv_at hl 2 rfl) ?_
          refine lv_iload_n hx hb d_ServingEnd_answerMore_86 rfl (lv_at hl 1 rfl) ?_
          refine fw_puti C R ft_field_4_75 rfl hk_b5 d_ServingEnd_answerMore_87 (fun H locs R => ?_)
          obtain ⟨S21, eS21, hE⟩ := fw_let_ex hE
          rw [← eS21] at R
          clear eS21
          refine lv_aload_n hx hb d_ServingEnd_answerMore_90 rfl (lv_at hl 3 rfl) ?_
          refine lv_aload_n hx hb d_ServingEnd_answerMore_91 rfl (lv_at hl 2 rfl) ?_
          refine lv_iload_n hx hb d_ServingEnd_answerMore_92 rfl (lv_at hl 1 rfl) ?_
          refine lv_iload hx hb d_ServingEnd_answerMore_93 (lv_at hl 0 rfl) ?_
          obtain ⟨S22, hF, hE⟩ := fw_bind hE
          refine fw_callV (As := [.ref b5, .int x16, .int x18]) (rest := []) C R ft_callV_4_65 yi_ServingEnd_writeRows ys_ServingEnd_writeRows (ct_ServingEnd_writeRows l G kd0 S21 _ _ _ _ _ hk_a0 hk_b5 hF) hk_a0 (by decide) rfl rfl hl.1 rfl (lv_room (Nat.le_of_ble_eq_true rfl)) ⟨Nat.le_of_ble_eq_true rfl, Nat.le_of_ble_eq_true rfl⟩ ⟨Nat.le_of_ble_eq_true rfl, Nat.le_of_ble_eq_true rfl⟩ d_ServingEnd_answerMore_95 (fun H locs kd23 hxkd23 hP R => ?_)
          rw [hP] at R; clear hP hxkd23
          cases hE
          exact fw_vret C fw_X.rf rfl R d_ServingEnd_answerMore_98
        · replace hE := fw_if_f hc hE
          refine lv_iload_n hx hb d_ServingEnd_answerMore_50 rfl (lv_at hl 1 rfl) ?_
          refine lv_aload_n hx hb d_ServingEnd_answerMore_51 rfl (lv_at hl 2 rfl) ?_
          refine fw_get (v := .int (fw_g S0 b5 2)) C R ft_field_4_75 hk_b5 rfl d_ServingEnd_answerMore_52 ?_
          refine lv_iconst (v := 1) hx hb d_ServingEnd_answerMore_55 (by decide) ?_
          refine lv_iadd hx hb d_ServingEnd_answerMore_56 ?_
          refine lv_sipush (v := 255) hx hb d_ServingEnd_answerMore_57 (by decide) ?_
          refine lv_iand hx hb d_ServingEnd_answerMore_60 ?_
          refine lv_icmp_eq (tgt := 85) hx hb d_ServingEnd_answerMore_61 (by decide) (fun hc => ?_) (fun hc => ?_)
          · replace hE := fw_if_t hc hE
            refine lv_aload_n hx hb d_ServingEnd_answerMore_85 rfl (lv_at hl 2 rfl) ?_
            refine lv_iload_n hx hb d_ServingEnd_answerMore_86 rfl (lv_at hl 1 rfl) ?_
            refine fw_puti C R ft_field_4_75 rfl hk_b5 d_ServingEnd_answerMore_87 (fun H locs R => ?_)
            obtain ⟨S24, eS24, hE⟩ := fw_let_ex hE
            rw [← eS24] at R
            clear eS24
            refine lv_aload_n hx hb d_ServingEnd_answerMore_90 rfl (lv_at hl 3 rfl) ?_
            refine lv_aload_n hx hb d_ServingEnd_answerMore_91 rfl (lv_at hl 2 rfl) ?_
            refine lv_iload_n hx hb d_ServingEnd_answerMore_92 rfl (lv_at hl 1 rfl) ?_
            refine lv_iload hx hb d_ServingEnd_answerMore_93 (lv_at hl 0 rfl) ?_
            obtain ⟨S25, hF, hE⟩ := fw_bind hE
            refine fw_callV (As := [.ref b5, .int x16, .int x18]) (rest := []) C R ft_callV_4_65 yi_ServingEnd_writeRows ys_ServingEnd_writeRows (ct_ServingEnd_writeRows l G kd0 S24 _ _ _ _ _ hk_a0 hk_b5 hF) hk_a0 (by decide) rfl rfl hl.1 rfl (lv_room (Nat.le_of_ble_eq_true rfl)) ⟨Nat.le_of_ble_eq_true rfl, Nat.le_of_ble_eq_true rfl⟩ ⟨Nat.le_of_ble_eq_true rfl, Nat.le_of_ble_eq_true rfl⟩ d_ServingEnd_answerMore_95 (fun H locs kd26 hxkd26 hP R => ?_)
            rw [hP] at R; clear hP hxkd26
            cases hE
            exact fw_vret C fw_X.rf rfl R d_ServingEnd_answerMore_98
          · replace hE := fw_if_f hc hE
            exact h_j64 _ _ _ _ hk_a0 hk_p1 _ _ _ R (lv_sub hl [3, 4, 1] rfl) hE
set_option maxHeartbeats 4000000 in
set_option maxRecDepth 100000 in
theorem ct_Wire_init (l : Launch) (G : fw_G) (kd0 : Nat → Option Nat) (S0 : fw_S) (a0 : Nat) (p1 : Int32) (S' : fw_S) (hk_a0 : kd0 a0 = some 5) (hE : F_Wire_init a0 p1 S0 = some S') : fw_M l G y_Wire_init prog_7_method_1_code 2 none 2 40 3 322 kd0 S0 ([.ref a0, .int p1] : List Value) none S' (fun _ => True) := by
  refine fw_start (by decide) (Nat.le_of_ble_eq_true rfl) ?_
  intro p e s m below meth c ls C hnm R hl
  have hx := C.1
  have hb := C.2.1
  have hl : lv_has ls 2 [(0, .ref a0), (1, .int p1)] := hl
  unfold F_Wire_init at hE
  refine lv_aload_n hx hb d_Wire_init_0 rfl (lv_at hl 0 rfl) ?_
  refine fw_obj C ft_obj_5_3 ob_1 ob_2 hl.1 d_Wire_init_1 (Nat.le_of_ble_eq_true rfl) (Nat.le_of_ble_eq_true rfl) ?_
  refine lv_aload_n hx hb d_Wire_init_4 rfl (lv_at hl 0 rfl) ?_
  refine lv_sipush (v := 300) hx hb d_Wire_init_5 (by decide) ?_
  refine fw_newai C R (by decide) (by decide) (by decide) (by decide) d_Wire_init_8 (fun H kd3 hxkd3 hk_new R => ?_)
  refine W.widen (k := 1) (n := 300) (by decide) (by decide) ?_
  obtain ⟨b2, eb2, hE⟩ := fw_let_ex hE
  obtain ⟨S1, eS1, hE⟩ := fw_let_ex hE
  rw [← eS1] at R
  rw [← eb2] at hk_new ⊢
  have hk_b2 := hk_new
  have hXkd3 := fw_X.tr fw_X.rf hxkd3
  have hk_a0 := hxkd3 _ _ hk_a0
  clear eS1 eb2 hk_new
  refine fw_putFr C hnm R ft_field_5_9 rfl ft_nonest_5_9 rfl rfl (by decide) hk_b2 hk_a0 d_Wire_init_10 (fun H locs R => ?_)
  obtain ⟨S4, eS4, hE⟩ := fw_let_ex hE
  rw [← eS4] at R
  clear eS4
  refine lv_aload_n hx hb d_Wire_init_13 rfl (lv_at hl 0 rfl) ?_
  refine lv_iconst (v := 0) hx hb d_Wire_init_14 (by decide) ?_
  refine fw_puti C R ft_field_5_15 rfl hk_a0 d_Wire_init_15 (fun H locs R => ?_)
  obtain ⟨S5, eS5, hE⟩ := fw_let_ex hE
  rw [← eS5] at R
  clear eS5
  refine lv_aload_n hx hb d_Wire_init_18 rfl (lv_at hl 0 rfl) ?_
  refine lv_iconst (v := 0) hx hb d_Wire_init_19 (by decide) ?_
  refine fw_puti C R ft_field_5_19 rfl hk_a0 d_Wire_init_20 (fun H locs R => ?_)
  obtain ⟨S6, eS6, hE⟩ := fw_let_ex hE
  rw [← eS6] at R
  clear eS6
  refine lv_aload_n hx hb d_Wire_init_23 rfl (lv_at hl 0 rfl) ?_
  refine fw_new C R cl_0 nd_0 ft_new_5_22 ni_0 nj_0 (Nat.le_of_ble_eq_true rfl) (Nat.le_of_ble_eq_true rfl) d_Wire_init_24 (fun H kd9 hxkd9 hk_new R => ?_)
  refine W.widen (k := 2) (n := 304) (by decide) (by decide) ?_
  obtain ⟨b8, eb8, hE⟩ := fw_let_ex hE
  obtain ⟨S7, eS7, hE⟩ := fw_let_ex hE
  rw [← eS7] at R
  rw [← eb8] at hk_new ⊢
  have hk_b8 := hk_new
  have hXkd9 := fw_X.tr hXkd3 hxkd9
  have hk_a0 := hxkd9 _ _ hk_a0
  have hk_b2 := hxkd9 _ _ hk_b2
  clear eS7 eb8 hk_new
  refine lv_dup hx hb d_Wire_init_27 rfl ?_
  obtain ⟨S10, hF, hE⟩ := fw_bind hE
  refine fw_callI (As := []) (rest := [.ref b8, .ref a0]) C R ft_callI_5_24 yi_Frame_init rfl (ct_Frame_init l G kd9 S7 _ _ hk_b8 hF) rfl hl.1 rfl (lv_room (Nat.le_of_ble_eq_true rfl)) ⟨Nat.le_of_ble_eq_true rfl, Nat.le_of_ble_eq_true rfl⟩ ⟨Nat.le_of_ble_eq_true rfl, Nat.le_of_ble_eq_true rfl⟩ d_Wire_init_28 (fun H locs kd11 hxkd11 hP R => ?_)
  refine W.widen (k := 3) (n := 322) (by decide) (by decide) ?_
  have hXkd11 := fw_X.tr hXkd9 hxkd11
  have hk_a0 := hxkd11 _ _ hk_a0
  have hk_b2 := hxkd11 _ _ hk_b2
  have hk_b8 := hxkd11 _ _ hk_b8
  refine fw_putFr C hnm R ft_field_5_25 rfl ft_nonest_5_25 rfl rfl (by decide) hk_b8 hk_a0 d_Wire_init_31 (fun H locs R => ?_)
  obtain ⟨S12, eS12, hE⟩ := fw_let_ex hE
  rw [← eS12] at R
  clear eS12
  refine lv_aload_n hx hb d_Wire_init_34 rfl (lv_at hl 0 rfl) ?_
  refine lv_iconst (v := 0) hx hb d_Wire_init_35 (by decide) ?_
  refine fw_puti C R ft_field_5_29 rfl hk_a0 d_Wire_init_36 (fun H locs R => ?_)
  obtain ⟨S13, eS13, hE⟩ := fw_let_ex hE
  rw [← eS13] at R
  clear eS13
  refine lv_aload_n hx hb d_Wire_init_39 rfl (lv_at hl 0 rfl) ?_
  refine lv_iconst (v := 0) hx hb d_Wire_init_40 (by decide) ?_
  refine fw_puti C R ft_field_5_32 rfl hk_a0 d_Wire_init_41 (fun H locs R => ?_)
  obtain ⟨S14, eS14, hE⟩ := fw_let_ex hE
  rw [← eS14] at R
  clear eS14
  refine lv_aload_n hx hb d_Wire_init_44 rfl (lv_at hl 0 rfl) ?_
  refine lv_iload_n hx hb d_Wire_init_45 rfl (lv_at hl 1 rfl) ?_
  obtain ⟨hz15, hE⟩ := fw_ifp hE
  refine fw_putz C R ft_field_5_35 rfl hz15 hk_a0 d_Wire_init_46 (fun H locs R => ?_)
  obtain ⟨S16, eS16, hE⟩ := fw_let_ex hE
  rw [← eS16] at R
  clear eS16
  cases hE
  refine W.widen (k := 3) (n := 322) (Nat.le_of_ble_eq_true rfl) (Nat.le_of_ble_eq_true rfl) ?_
  exact fw_vret C hXkd11 trivial R d_Wire_init_49
set_option maxHeartbeats 4000000 in
set_option maxRecDepth 100000 in
theorem ct_Wire_clearOut (l : Launch) (G : fw_G) (kd0 : Nat → Option Nat) (S0 : fw_S) (a0 : Nat) (S' : fw_S) (hk_a0 : kd0 a0 = some 5) (hE : F_Wire_clearOut a0 S0 = some S') : fw_M l G y_Wire_clearOut prog_7_method_3_code 1 none 0 0 0 0 kd0 S0 ([.ref a0] : List Value) none S' (fun k => k = kd0) := by
  refine fw_start (by decide) (Nat.le_of_ble_eq_true rfl) ?_
  intro p e s m below meth c ls C hnm R hl
  clear hnm
  have hx := C.1
  have hb := C.2.1
  have hl : lv_has ls 1 [(0, .ref a0)] := hl
  unfold F_Wire_clearOut at hE
  refine lv_aload_n hx hb d_Wire_clearOut_0 rfl (lv_at hl 0 rfl) ?_
  refine lv_iconst (v := 0) hx hb d_Wire_clearOut_1 (by decide) ?_
  refine fw_puti C R ft_field_5_15 rfl hk_a0 d_Wire_clearOut_2 (fun H locs R => ?_)
  obtain ⟨S1, eS1, hE⟩ := fw_let_ex hE
  rw [← eS1] at R
  clear eS1
  refine lv_aload_n hx hb d_Wire_clearOut_5 rfl (lv_at hl 0 rfl) ?_
  refine lv_iconst (v := 0) hx hb d_Wire_clearOut_6 (by decide) ?_
  refine fw_puti C R ft_field_5_19 rfl hk_a0 d_Wire_clearOut_7 (fun H locs R => ?_)
  obtain ⟨S2, eS2, hE⟩ := fw_let_ex hE
  rw [← eS2] at R
  clear eS2
  cases hE
  exact fw_vret C fw_X.rf rfl R d_Wire_clearOut_10
set_option maxHeartbeats 4000000 in
set_option maxRecDepth 100000 in
theorem ct_Wire_end (l : Launch) (G : fw_G) (kd0 : Nat → Option Nat) (S0 : fw_S) (a0 : Nat) (S' : fw_S) (hk_a0 : kd0 a0 = some 5) (hE : F_Wire_end a0 S0 = some S') : fw_M l G y_Wire_end prog_7_method_2_code 1 none 1 20 0 0 kd0 S0 ([.ref a0] : List Value) none S' (fun k => k = kd0) := by
  refine fw_start (by decide) (Nat.le_of_ble_eq_true rfl) ?_
  intro p e s m below meth c ls C hnm R hl
  clear hnm
  have hx := C.1
  have hb := C.2.1
  have hl : lv_has ls 1 [(0, .ref a0)] := hl
  unfold F_Wire_end at hE
  refine lv_aload_n hx hb d_Wire_end_0 rfl (lv_at hl 0 rfl) ?_
  refine lv_iconst (v := 0) hx hb d_Wire_end_1 (by decide) ?_
  refine fw_putz C R ft_field_5_35 rfl (by decide) hk_a0 d_Wire_end_2 (fun H locs R => ?_)
  obtain ⟨S1, eS1, hE⟩ := fw_let_ex hE
  rw [← eS1] at R
  clear eS1
  refine lv_aload_n hx hb d_Wire_end_5 rfl (lv_at hl 0 rfl) ?_
  refine lv_iconst (v := 0) hx hb d_Wire_end_6 (by decide) ?_
  refine fw_puti C R ft_field_5_29 rfl hk_a0 d_Wire_end_7 (fun H locs R => ?_)
  obtain ⟨S2, eS2, hE⟩ := fw_let_ex hE
  rw [← eS2] at R
  clear eS2
  refine lv_aload_n hx hb d_Wire_end_10 rfl (lv_at hl 0 rfl) ?_
  obtain ⟨S3, hF, hE⟩ := fw_bind hE
  refine fw_callV (As := []) (rest := []) C R ft_callV_5_39 yi_Wire_clearOut ys_Wire_clearOut (ct_Wire_clearOut l G kd0 S2 _ _ hk_a0 hF) hk_a0 (by decide) rfl rfl hl.1 rfl (lv_room (Nat.le_of_ble_eq_true rfl)) ⟨Nat.le_of_ble_eq_true rfl, Nat.le_of_ble_eq_true rfl⟩ ⟨Nat.le_of_ble_eq_true rfl, Nat.le_of_ble_eq_true rfl⟩ d_Wire_end_11 (fun H locs kd4 hxkd4 hP R => ?_)
  rw [hP] at R; clear hP hxkd4
  cases hE
  exact fw_vret C fw_X.rf rfl R d_Wire_end_14
set_option maxHeartbeats 4000000 in
set_option maxRecDepth 100000 in
theorem ct_Wire_push (l : Launch) (G : fw_G) (kd0 : Nat → Option Nat) (S0 : fw_S) (a0 : Nat) (p1 : Int32) (S' : fw_S) (hk_a0 : kd0 a0 = some 5) (hE : F_Wire_push a0 p1 S0 = some S') : fw_M l G y_Wire_push prog_7_method_5_code 3 none 0 0 0 0 kd0 S0 ([.ref a0, .int p1] : List Value) none S' (fun k => k = kd0) := by
  refine fw_start (by decide) (Nat.le_of_ble_eq_true rfl) ?_
  intro p e s m below meth c ls C hnm R hl
  clear hnm
  have hx := C.1
  have hb := C.2.1
  have hl : lv_has ls 3 [(0, .ref a0), (1, .int p1)] := hl
  unfold F_Wire_push at hE
  refine lv_aload_n hx hb d_Wire_push_0 rfl (lv_at hl 0 rfl) ?_
  refine fw_get (v := .int (fw_g S0 a0 2)) C R ft_field_5_15 hk_a0 rfl d_Wire_push_1 ?_
  refine lv_aload_n hx hb d_Wire_push_4 rfl (lv_at hl 0 rfl) ?_
  refine fw_get (v := .int (fw_g S0 a0 3)) C R ft_field_5_19 hk_a0 rfl d_Wire_push_5 ?_
  refine lv_iadd hx hb d_Wire_push_8 ?_
  refine lv_sipush (v := 300) hx hb d_Wire_push_9 (by decide) ?_
  refine lv_irem hx hb d_Wire_push_12 (by decide) ?_
  refine lv_topi (fun x1 ex1 => ?_)
  replace hE := fw_let_use ex1 hE
  clear ex1
  refine lv_istore_n (lv' := [(2, .int x1), (0, .ref a0), (1, .int p1)]) hx hb d_Wire_push_13 rfl hl (by decide) rfl (fun ls hl => ?_)
  refine lv_aload_n hx hb d_Wire_push_14 rfl (lv_at hl 1 rfl) ?_
  refine fw_get (v := .int (fw_g S0 a0 3)) C R ft_field_5_19 hk_a0 rfl d_Wire_push_15 ?_
  refine lv_sipush (v := 300) hx hb d_Wire_push_18 (by decide) ?_
  refine lv_icmp_ge (tgt := 54) hx hb d_Wire_push_21 (by decide) (fun hc => ?_) (fun hc => ?_)
  · replace hE := fw_if_t hc hE
    cases hE
    exact fw_vret C fw_X.rf rfl R d_Wire_push_54
  · replace hE := fw_if_f hc hE
    refine lv_iload_n hx hb d_Wire_push_24 rfl (lv_at hl 0 rfl) ?_
    refine lv_if_lt (tgt := 54) hx hb d_Wire_push_25 (by decide) (fun hc => ?_) (fun hc => ?_)
    · replace hE := fw_if_t hc hE
      cases hE
      exact fw_vret C fw_X.rf rfl R d_Wire_push_54
    · replace hE := fw_if_f hc hE
      refine lv_iload_n hx hb d_Wire_push_28 rfl (lv_at hl 0 rfl) ?_
      refine lv_aload_n hx hb d_Wire_push_29 rfl (lv_at hl 1 rfl) ?_
      refine fw_getr C R ft_field_5_9 hk_a0 rfl rfl d_Wire_push_30 (fun hq => ?_) (fun b2 hq hk_b2 => ?_)
      · replace hE := fw_om_none hq hE
        cases hE
      · replace hE := fw_om_some hq hE
        refine fw_alen (K := 100) (ty := .int) C R (by decide) (by decide) hk_b2 d_Wire_push_33 ?_
        refine lv_icmp_ge (tgt := 54) hx hb d_Wire_push_34 (by decide) (fun hc => ?_) (fun hc => ?_)
        · replace hE := fw_if_t hc hE
          cases hE
          exact fw_vret C fw_X.rf rfl R d_Wire_push_54
        · replace hE := fw_if_f hc hE
          refine lv_aload_n hx hb d_Wire_push_37 rfl (lv_at hl 1 rfl) ?_
          refine fw_getr C R ft_field_5_9 hk_a0 rfl rfl d_Wire_push_38 (fun hq => ?_) (fun b3 hq hk_b3 => ?_)
          · replace hE := fw_om_none hq hE
            refine lv_iload_n hx hb d_Wire_push_41 rfl (lv_at hl 0 rfl) ?_
            refine lv_iload_n hx hb d_Wire_push_42 rfl (lv_at hl 2 rfl) ?_
            cases hE
          · replace hE := fw_om_some hq hE
            refine lv_iload_n hx hb d_Wire_push_41 rfl (lv_at hl 0 rfl) ?_
            refine lv_iload_n hx hb d_Wire_push_42 rfl (lv_at hl 2 rfl) ?_
            obtain ⟨hi4, hE⟩ := fw_ifn hE
            refine fw_iast C R (by decide) hk_b3 hi4 d_Wire_push_43 (fun H locs R => ?_)
            obtain ⟨S5, eS5, hE⟩ := fw_let_ex hE
            rw [← eS5] at R
            clear eS5
            refine lv_aload_n hx hb d_Wire_push_44 rfl (lv_at hl 1 rfl) ?_
            refine lv_dup hx hb d_Wire_push_45 rfl ?_
            refine fw_get (v := .int (fw_g S5 a0 3)) C R ft_field_5_19 hk_a0 rfl d_Wire_push_46 ?_
            refine lv_iconst (v := 1) hx hb d_Wire_push_49 (by decide) ?_
            refine lv_iadd hx hb d_Wire_push_50 ?_
            refine fw_puti C R ft_field_5_19 rfl hk_a0 d_Wire_push_51 (fun H locs R => ?_)
            obtain ⟨S6, eS6, hE⟩ := fw_let_ex hE
            rw [← eS6] at R
            clear eS6
            cases hE
            exact fw_vret C fw_X.rf rfl R d_Wire_push_54
set_option maxHeartbeats 4000000 in
set_option maxRecDepth 100000 in
theorem ct_Wire_send (l : Launch) (G : fw_G) (kd0 : Nat → Option Nat) (S0 : fw_S) (a0 : Nat) (p1 : Nat) (r0 : Int32) (S' : fw_S) (hk_a0 : kd0 a0 = some 5) (hk_p1 : kd0 p1 = some 0) (hE : F_Wire_send a0 p1 S0 = some (r0, S')) : fw_M l G y_Wire_send prog_7_method_4_code 3 (some .boolean) 1 22 0 0 kd0 S0 ([.ref a0, .ref p1] : List Value) (some (.int r0)) S' (fun k => k = kd0) := by
  refine fw_start (by decide) (Nat.le_of_ble_eq_true rfl) ?_
  intro p e s m below meth c ls C hnm R hl
  clear hnm
  have hx := C.1
  have hb := C.2.1
  have hl : lv_has ls 3 [(0, .ref a0), (1, .ref p1)] := hl
  have h_l60 : ∀ (n : Nat), ∀ v0 : Nat, ∀ v1 : Nat, ∀ v2 : Int32, ∀ S0 : fw_S, kd0 v0 = some 5 → kd0 v1 = some 0 → ∀ (H : Heap) (locs : List Loc) (ls : Array Slot), fw_R G kd0 S0 H locs → lv_has ls 3 [(0, .ref v0), (1, .ref v1), (2, .int v2)] → F_Wire_send_l60 n v0 v1 v2 S0 = some (r0, S') → W p l e { frames := 1, cells := 0, slots := 0, locals := 22 } s m ([.ref a0, .ref p1] : List Value).toArray below meth c H locs 0 0 (MQ below (fw_Q G kd0 (some (.int r0)) S' (fun k => k = kd0)) ([.ref a0, .ref p1] : List Value).toArray s 0 0 (fw_A G)) (F0 m 60 ls []) := by
    intro n
    induction n with
    | zero =>
      intro v0 v1 v2 S0 hk_v0 hk_v1 H locs ls R hl hE
      rw [F_Wire_send_l60] at hE
      cases hE
    | succ n ih =>
      intro v0 v1 v2 S0 hk_v0 hk_v1 H locs ls R hl hE
      rw [F_Wire_send_l60] at hE
      refine lv_iload_n hx hb d_Wire_send_60 rfl (lv_at hl 2 rfl) ?_
      refine lv_aload_n hx hb d_Wire_send_61 rfl (lv_at hl 1 rfl) ?_
      refine fw_get (v := .int (fw_g S0 v1 2)) C R ft_field_5_42 hk_v1 rfl d_Wire_send_62 ?_
      refine lv_icmp_ge (tgt := 83) hx hb d_Wire_send_65 (by decide) (fun hc => ?_) (fun hc => ?_)
      · replace hE := fw_if_t hc hE
        refine lv_aload_n hx hb d_Wire_send_83 rfl (lv_at hl 0 rfl) ?_
        refine lv_aload_n hx hb d_Wire_send_84 rfl (lv_at hl 1 rfl) ?_
        obtain ⟨x9, hF, hE⟩ := fw_bind hE
        refine fw_callV (As := []) (rest := [.ref v0]) C R ft_callV_5_59 yi_Frame_sum ys_Frame_sum (ct_Frame_sum l G kd0 S0 _ _ hk_v1 hF) hk_v1 (by decide) rfl rfl hl.1 rfl (lv_room (Nat.le_of_ble_eq_true rfl)) ⟨Nat.le_of_ble_eq_true rfl, Nat.le_of_ble_eq_true rfl⟩ ⟨Nat.le_of_ble_eq_true rfl, Nat.le_of_ble_eq_true rfl⟩ d_Wire_send_85 (fun H locs kd10 hxkd10 hP R => ?_)
        rw [hP] at R; clear hP hxkd10
        obtain ⟨S11, hF, hE⟩ := fw_bind hE
        refine fw_callV (As := [.int x9]) (rest := []) C R ft_callV_5_45 yi_Wire_push ys_Wire_push (ct_Wire_push l G kd0 S0 _ _ _ hk_v0 hF) hk_v0 (by decide) rfl rfl hl.1 rfl (lv_room (Nat.le_of_ble_eq_true rfl)) ⟨Nat.le_of_ble_eq_true rfl, Nat.le_of_ble_eq_true rfl⟩ ⟨Nat.le_of_ble_eq_true rfl, Nat.le_of_ble_eq_true rfl⟩ d_Wire_send_88 (fun H locs kd12 hxkd12 hP R => ?_)
        rw [hP] at R; clear hP hxkd12
        refine lv_iconst (v := 1) hx hb d_Wire_send_91 (by decide) ?_
        cases hE
        exact fw_zret C (by decide) fw_X.rf rfl R d_Wire_send_92
      · replace hE := fw_if_f hc hE
        refine lv_aload_n hx hb d_Wire_send_68 rfl (lv_at hl 0 rfl) ?_
        refine lv_aload_n hx hb d_Wire_send_69 rfl (lv_at hl 1 rfl) ?_
        refine lv_iload_n hx hb d_Wire_send_70 rfl (lv_at hl 2 rfl) ?_
        obtain ⟨x13, hF, hE⟩ := fw_bind hE
        refine fw_callV (As := [.int v2]) (rest := [.ref v0]) C R ft_callV_5_55 yi_Frame_byteAt ys_Frame_byteAt (ct_Frame_byteAt l G kd0 S0 _ _ _ hk_v1 hF) hk_v1 (by decide) rfl rfl hl.1 rfl (lv_room (Nat.le_of_ble_eq_true rfl)) ⟨Nat.le_of_ble_eq_true rfl, Nat.le_of_ble_eq_true rfl⟩ ⟨Nat.le_of_ble_eq_true rfl, Nat.le_of_ble_eq_true rfl⟩ d_Wire_send_71 (fun H locs kd14 hxkd14 hP R => ?_)
        rw [hP] at R; clear hP hxkd14
        obtain ⟨S15, hF, hE⟩ := fw_bind hE
        refine fw_callV (As := [.int x13]) (rest := []) C R ft_callV_5_45 yi_Wire_push ys_Wire_push (ct_Wire_push l G kd0 S0 _ _ _ hk_v0 hF) hk_v0 (by decide) rfl rfl hl.1 rfl (lv_room (Nat.le_of_ble_eq_true rfl)) ⟨Nat.le_of_ble_eq_true rfl, Nat.le_of_ble_eq_true rfl⟩ ⟨Nat.le_of_ble_eq_true rfl, Nat.le_of_ble_eq_true rfl⟩ d_Wire_send_74 (fun H locs kd16 hxkd16 hP R => ?_)
        rw [hP] at R; clear hP hxkd16
        refine lv_iinc (v := (v2 + (1 : Int32))) (lv' := [(2, .int (v2 + (1 : Int32))), (0, .ref v0), (1, .ref v1)]) hx hb d_Wire_send_77 hl (k := 2) rfl rfl (by decide) rfl (fun ls hl => ?_)
        refine lv_goto (tgt := 60) hx hb d_Wire_send_80 (by decide) ?_
        exact ih _ _ _ _ hk_v0 hk_v1 _ _ _ R (lv_sub hl [1, 2, 0] rfl) hE
  unfold F_Wire_send at hE
  refine lv_aload_n hx hb d_Wire_send_0 rfl (lv_at hl 0 rfl) ?_
  refine fw_get (v := .int (fw_g S0 a0 0)) C R ft_field_5_35 hk_a0 rfl d_Wire_send_1 ?_
  refine lv_if_eq (tgt := 26) hx hb d_Wire_send_4 (by decide) (fun hc => ?_) (fun hc => ?_)
  · replace hE := fw_if_t hc hE
    refine lv_iconst (v := 0) hx hb d_Wire_send_26 (by decide) ?_
    cases hE
    exact fw_zret C (by decide) fw_X.rf rfl R d_Wire_send_27
  · replace hE := fw_if_f hc hE
    refine lv_aload_n hx hb d_Wire_send_7 rfl (lv_at hl 0 rfl) ?_
    refine fw_get (v := .int (fw_g S0 a0 3)) C R ft_field_5_19 hk_a0 rfl d_Wire_send_8 ?_
    refine lv_iconst (v := 4) hx hb d_Wire_send_11 (by decide) ?_
    refine lv_iadd hx hb d_Wire_send_12 ?_
    refine lv_aload_n hx hb d_Wire_send_13 rfl (lv_at hl 1 rfl) ?_
    refine fw_get (v := .int (fw_g S0 p1 2)) C R ft_field_5_42 hk_p1 rfl d_Wire_send_14 ?_
    refine lv_iadd hx hb d_Wire_send_17 ?_
    refine lv_iconst (v := 1) hx hb d_Wire_send_18 (by decide) ?_
    refine lv_iadd hx hb d_Wire_send_19 ?_
    refine lv_sipush (v := 300) hx hb d_Wire_send_20 (by decide) ?_
    refine lv_icmp_le (tgt := 28) hx hb d_Wire_send_23 (by decide) (fun hc => ?_) (fun hc => ?_)
    · replace hE := fw_if_t hc hE
      refine lv_aload_n hx hb d_Wire_send_28 rfl (lv_at hl 0 rfl) ?_
      refine lv_bipush (v := 126) hx hb d_Wire_send_29 (by decide) ?_
      obtain ⟨S1, hF, hE⟩ := fw_bind hE
      refine fw_callV (As := [.int (126 : Int32)]) (rest := []) C R ft_callV_5_45 yi_Wire_push ys_Wire_push (ct_Wire_push l G kd0 S0 _ _ _ hk_a0 hF) hk_a0 (by decide) rfl rfl hl.1 rfl (lv_room (Nat.le_of_ble_eq_true rfl)) ⟨Nat.le_of_ble_eq_true rfl, Nat.le_of_ble_eq_true rfl⟩ ⟨Nat.le_of_ble_eq_true rfl, Nat.le_of_ble_eq_true rfl⟩ d_Wire_send_31 (fun H locs kd2 hxkd2 hP R => ?_)
      rw [hP] at R; clear hP hxkd2
      refine lv_aload_n hx hb d_Wire_send_34 rfl (lv_at hl 0 rfl) ?_
      refine lv_aload_n hx hb d_Wire_send_35 rfl (lv_at hl 1 rfl) ?_
      refine fw_get (v := .int (fw_g S1 p1 0)) C R ft_field_5_49 hk_p1 rfl d_Wire_send_36 ?_
      obtain ⟨S3, hF, hE⟩ := fw_bind hE
      refine fw_callV (As := [.int (fw_g S1 p1 0)]) (rest := []) C R ft_callV_5_45 yi_Wire_push ys_Wire_push (ct_Wire_push l G kd0 S1 _ _ _ hk_a0 hF) hk_a0 (by decide) rfl rfl hl.1 rfl (lv_room (Nat.le_of_ble_eq_true rfl)) ⟨Nat.le_of_ble_eq_true rfl, Nat.le_of_ble_eq_true rfl⟩ ⟨Nat.le_of_ble_eq_true rfl, Nat.le_of_ble_eq_true rfl⟩ d_Wire_send_39 (fun H locs kd4 hxkd4 hP R => ?_)
      rw [hP] at R; clear hP hxkd4
      refine lv_aload_n hx hb d_Wire_send_42 rfl (lv_at hl 0 rfl) ?_
      refine lv_aload_n hx hb d_Wire_send_43 rfl (lv_at hl 1 rfl) ?_
      refine fw_get (v := .int (fw_g S3 p1 1)) C R ft_field_5_52 hk_p1 rfl d_Wire_send_44 ?_
      obtain ⟨S5, hF, hE⟩ := fw_bind hE
      refine fw_callV (As := [.int (fw_g S3 p1 1)]) (rest := []) C R ft_callV_5_45 yi_Wire_push ys_Wire_push (ct_Wire_push l G kd0 S3 _ _ _ hk_a0 hF) hk_a0 (by decide) rfl rfl hl.1 rfl (lv_room (Nat.le_of_ble_eq_true rfl)) ⟨Nat.le_of_ble_eq_true rfl, Nat.le_of_ble_eq_true rfl⟩ ⟨Nat.le_of_ble_eq_true rfl, Nat.le_of_ble_eq_true rfl⟩ d_Wire_send_47 (fun H locs kd6 hxkd6 hP R => ?_)
      rw [hP] at R; clear hP hxkd6
      refine lv_aload_n hx hb d_Wire_send_50 rfl (lv_at hl 0 rfl) ?_
      refine lv_aload_n hx hb d_Wire_send_51 rfl (lv_at hl 1 rfl) ?_
      refine fw_get (v := .int (fw_g S5 p1 2)) C R ft_field_5_42 hk_p1 rfl d_Wire_send_52 ?_
      obtain ⟨S7, hF, hE⟩ := fw_bind hE
      refine fw_callV (As := [.int (fw_g S5 p1 2)]) (rest := []) C R ft_callV_5_45 yi_Wire_push ys_Wire_push (ct_Wire_push l G kd0 S5 _ _ _ hk_a0 hF) hk_a0 (by decide) rfl rfl hl.1 rfl (lv_room (Nat.le_of_ble_eq_true rfl)) ⟨Nat.le_of_ble_eq_true rfl, Nat.le_of_ble_eq_true rfl⟩ ⟨Nat.le_of_ble_eq_true rfl, Nat.le_of_ble_eq_true rfl⟩ d_Wire_send_55 (fun H locs kd8 hxkd8 hP R => ?_)
      rw [hP] at R; clear hP hxkd8
      refine lv_iconst (v := 0) hx hb d_Wire_send_58 (by decide) ?_
      refine lv_istore_n (lv' := [(2, .int (0 : Int32)), (0, .ref a0), (1, .ref p1)]) hx hb d_Wire_send_59 rfl hl (by decide) rfl (fun ls hl => ?_)
      exact h_l60 _ _ _ _ _ hk_a0 hk_p1 _ _ _ R (lv_sub hl [1, 2, 0] rfl) hE
    · replace hE := fw_if_f hc hE
      refine lv_iconst (v := 0) hx hb d_Wire_send_26 (by decide) ?_
      cases hE
      exact fw_zret C (by decide) fw_X.rf rfl R d_Wire_send_27
set_option maxHeartbeats 4000000 in
set_option maxRecDepth 100000 in
theorem ct_Wire_takeFirst (l : Launch) (G : fw_G) (kd0 : Nat → Option Nat) (S0 : fw_S) (a0 : Nat) (r0 : Int32) (S' : fw_S) (hk_a0 : kd0 a0 = some 5) (hE : F_Wire_takeFirst a0 S0 = some (r0, S')) : fw_M l G y_Wire_takeFirst prog_7_method_6_code 2 (some .int) 0 0 0 0 kd0 S0 ([.ref a0] : List Value) (some (.int r0)) S' (fun k => k = kd0) := by
  refine fw_start (by decide) (Nat.le_of_ble_eq_true rfl) ?_
  intro p e s m below meth c ls C hnm R hl
  clear hnm
  have hx := C.1
  have hb := C.2.1
  have hl : lv_has ls 2 [(0, .ref a0)] := hl
  unfold F_Wire_takeFirst at hE
  refine lv_aload_n hx hb d_Wire_takeFirst_0 rfl (lv_at hl 0 rfl) ?_
  refine fw_get (v := .int (fw_g S0 a0 3)) C R ft_field_5_19 hk_a0 rfl d_Wire_takeFirst_1 ?_
  refine lv_if_le (tgt := 26) hx hb d_Wire_takeFirst_4 (by decide) (fun hc => ?_) (fun hc => ?_)
  · replace hE := fw_if_t hc hE
    refine lv_bipush (v := -2) hx hb d_Wire_takeFirst_26 (by decide) ?_
    cases hE
    exact fw_iret C fw_X.rf rfl R d_Wire_takeFirst_28
  · replace hE := fw_if_f hc hE
    refine lv_aload_n hx hb d_Wire_takeFirst_7 rfl (lv_at hl 0 rfl) ?_
    refine fw_get (v := .int (fw_g S0 a0 2)) C R ft_field_5_15 hk_a0 rfl d_Wire_takeFirst_8 ?_
    refine lv_if_lt (tgt := 26) hx hb d_Wire_takeFirst_11 (by decide) (fun hc => ?_) (fun hc => ?_)
    · replace hE := fw_if_t hc hE
      refine lv_bipush (v := -2) hx hb d_Wire_takeFirst_26 (by decide) ?_
      cases hE
      exact fw_iret C fw_X.rf rfl R d_Wire_takeFirst_28
    · replace hE := fw_if_f hc hE
      refine lv_aload_n hx hb d_Wire_takeFirst_14 rfl (lv_at hl 0 rfl) ?_
      refine fw_get (v := .int (fw_g S0 a0 2)) C R ft_field_5_15 hk_a0 rfl d_Wire_takeFirst_15 ?_
      refine lv_aload_n hx hb d_Wire_takeFirst_18 rfl (lv_at hl 0 rfl) ?_
      refine fw_getr C R ft_field_5_9 hk_a0 rfl rfl d_Wire_takeFirst_19 (fun hq => ?_) (fun b1 hq hk_b1 => ?_)
      · replace hE := fw_om_none hq hE
        cases hE
      · replace hE := fw_om_some hq hE
        refine fw_alen (K := 100) (ty := .int) C R (by decide) (by decide) hk_b1 d_Wire_takeFirst_22 ?_
        refine lv_icmp_lt (tgt := 29) hx hb d_Wire_takeFirst_23 (by decide) (fun hc => ?_) (fun hc => ?_)
        · replace hE := fw_if_t hc hE
          refine lv_aload_n hx hb d_Wire_takeFirst_29 rfl (lv_at hl 0 rfl) ?_
          refine fw_getr C R ft_field_5_9 hk_a0 rfl rfl d_Wire_takeFirst_30 (fun hq => ?_) (fun b2 hq hk_b2 => ?_)
          · replace hE := fw_om_none hq hE
            refine lv_aload_n hx hb d_Wire_takeFirst_33 rfl (lv_at hl 0 rfl) ?_
            refine fw_get (v := .int (fw_g S0 a0 2)) C R ft_field_5_15 hk_a0 rfl d_Wire_takeFirst_34 ?_
            cases hE
          · replace hE := fw_om_some hq hE
            refine lv_aload_n hx hb d_Wire_takeFirst_33 rfl (lv_at hl 0 rfl) ?_
            refine fw_get (v := .int (fw_g S0 a0 2)) C R ft_field_5_15 hk_a0 rfl d_Wire_takeFirst_34 ?_
            obtain ⟨hi3, hE⟩ := fw_ifn hE
            refine fw_iald C R (by decide) hk_b2 hi3 d_Wire_takeFirst_37 ?_
            refine lv_topi (fun x4 ex4 => ?_)
            replace hE := fw_let_use ex4 hE
            clear ex4
            refine lv_istore_n (lv' := [(1, .int x4), (0, .ref a0)]) hx hb d_Wire_takeFirst_38 rfl hl (by decide) rfl (fun ls hl => ?_)
            refine lv_aload_n hx hb d_Wire_takeFirst_39 rfl (lv_at hl 1 rfl) ?_
            refine lv_aload_n hx hb d_Wire_takeFirst_40 rfl (lv_at hl 1 rfl) ?_
            refine fw_get (v := .int (fw_g S0 a0 2)) C R ft_field_5_15 hk_a0 rfl d_Wire_takeFirst_41 ?_
            refine lv_iconst (v := 1) hx hb d_Wire_takeFirst_44 (by decide) ?_
            refine lv_iadd hx hb d_Wire_takeFirst_45 ?_
            refine lv_sipush (v := 300) hx hb d_Wire_takeFirst_46 (by decide) ?_
            refine lv_irem hx hb d_Wire_takeFirst_49 (by decide) ?_
            refine fw_puti C R ft_field_5_15 rfl hk_a0 d_Wire_takeFirst_50 (fun H locs R => ?_)
            obtain ⟨S5, eS5, hE⟩ := fw_let_ex hE
            rw [← eS5] at R
            clear eS5
            refine lv_aload_n hx hb d_Wire_takeFirst_53 rfl (lv_at hl 1 rfl) ?_
            refine lv_dup hx hb d_Wire_takeFirst_54 rfl ?_
            refine fw_get (v := .int (fw_g S5 a0 3)) C R ft_field_5_19 hk_a0 rfl d_Wire_takeFirst_55 ?_
            refine lv_iconst (v := 1) hx hb d_Wire_takeFirst_58 (by decide) ?_
            refine lv_isub hx hb d_Wire_takeFirst_59 ?_
            refine fw_puti C R ft_field_5_19 rfl hk_a0 d_Wire_takeFirst_60 (fun H locs R => ?_)
            obtain ⟨S6, eS6, hE⟩ := fw_let_ex hE
            rw [← eS6] at R
            clear eS6
            refine lv_iload_n hx hb d_Wire_takeFirst_63 rfl (lv_at hl 0 rfl) ?_
            cases hE
            exact fw_iret C fw_X.rf rfl R d_Wire_takeFirst_64
        · replace hE := fw_if_f hc hE
          refine lv_bipush (v := -2) hx hb d_Wire_takeFirst_26 (by decide) ?_
          cases hE
          exact fw_iret C fw_X.rf rfl R d_Wire_takeFirst_28
set_option maxHeartbeats 4000000 in
set_option maxRecDepth 100000 in
theorem ct_Wire_lengthSuits (l : Launch) (G : fw_G) (kd0 : Nat → Option Nat) (S0 : fw_S) (a0 : Nat) (p1 : Int32) (r0 : Int32) (hk_a0 : kd0 a0 = some 5) (hE : F_Wire_lengthSuits a0 p1 S0 = some r0) : fw_M l G y_Wire_lengthSuits prog_7_method_9_code 2 (some .boolean) 0 0 0 0 kd0 S0 ([.ref a0, .int p1] : List Value) (some (.int r0)) S0 (fun k => k = kd0) := by
  refine fw_start (by decide) (Nat.le_of_ble_eq_true rfl) ?_
  intro p e s m below meth c ls C hnm R hl
  clear hnm
  have hx := C.1
  have hb := C.2.1
  have hl : lv_has ls 2 [(0, .ref a0), (1, .int p1)] := hl
  unfold F_Wire_lengthSuits at hE
  refine lv_aload_n hx hb d_Wire_lengthSuits_0 rfl (lv_at hl 0 rfl) ?_
  refine fw_getr C R ft_field_5_25 hk_a0 rfl rfl d_Wire_lengthSuits_1 (fun hq => ?_) (fun b1 hq hk_b1 => ?_)
  · replace hE := fw_om_none hq hE
    cases hE
  · replace hE := fw_om_some hq hE
    refine fw_get (v := .int (fw_g S0 b1 0)) C R ft_field_5_49 hk_b1 rfl d_Wire_lengthSuits_4 ?_
    by_cases hs2 : (fw_g S0 b1 0) = (1 : Int32)
    · replace hE := fw_if_t hs2 hE
      refine lv_tableIn (off := 29) (tgt := 36) hx hb d_Wire_lengthSuits_7 (by rw [hs2]; decide) (by rw [hs2]; decide) (by rw [hs2]; rfl) (by decide) ?_
      refine lv_iload_n hx hb d_Wire_lengthSuits_36 rfl (lv_at hl 1 rfl) ?_
      refine lv_iconst (v := 2) hx hb d_Wire_lengthSuits_37 (by decide) ?_
      refine lv_icmp_lt (tgt := 51) hx hb d_Wire_lengthSuits_38 (by decide) (fun hc => ?_) (fun hc => ?_)
      · replace hE := fw_if_t hc hE
        refine lv_iconst (v := 0) hx hb d_Wire_lengthSuits_51 (by decide) ?_
        cases hE
        exact fw_zret C (by decide) fw_X.rf rfl R d_Wire_lengthSuits_52
      · replace hE := fw_if_f hc hE
        refine lv_iload_n hx hb d_Wire_lengthSuits_41 rfl (lv_at hl 1 rfl) ?_
        refine lv_bipush (v := 9) hx hb d_Wire_lengthSuits_42 (by decide) ?_
        refine lv_icmp_gt (tgt := 51) hx hb d_Wire_lengthSuits_44 (by decide) (fun hc => ?_) (fun hc => ?_)
        · replace hE := fw_if_t hc hE
          refine lv_iconst (v := 0) hx hb d_Wire_lengthSuits_51 (by decide) ?_
          cases hE
          exact fw_zret C (by decide) fw_X.rf rfl R d_Wire_lengthSuits_52
        · replace hE := fw_if_f hc hE
          refine lv_iconst (v := 1) hx hb d_Wire_lengthSuits_47 (by decide) ?_
          refine lv_goto (tgt := 52) hx hb d_Wire_lengthSuits_48 (by decide) ?_
          cases hE
          exact fw_zret C (by decide) fw_X.rf rfl R d_Wire_lengthSuits_52
    · replace hE := fw_if_f hs2 hE
      by_cases hs3 : (fw_g S0 b1 0) = (2 : Int32)
      · replace hE := fw_if_t hs3 hE
        refine lv_tableIn (off := 46) (tgt := 53) hx hb d_Wire_lengthSuits_7 (by rw [hs3]; decide) (by rw [hs3]; decide) (by rw [hs3]; rfl) (by decide) ?_
        refine lv_iload_n hx hb d_Wire_lengthSuits_53 rfl (lv_at hl 1 rfl) ?_
        refine lv_iconst (v := 2) hx hb d_Wire_lengthSuits_54 (by decide) ?_
        refine lv_icmp_lt (tgt := 74) hx hb d_Wire_lengthSuits_55 (by decide) (fun hc => ?_) (fun hc => ?_)
        · replace hE := fw_if_t hc hE
          refine lv_iconst (v := 0) hx hb d_Wire_lengthSuits_74 (by decide) ?_
          cases hE
          exact fw_zret C (by decide) fw_X.rf rfl R d_Wire_lengthSuits_75
        · replace hE := fw_if_f hc hE
          refine lv_iload_n hx hb d_Wire_lengthSuits_58 rfl (lv_at hl 1 rfl) ?_
          refine lv_bipush (v := 18) hx hb d_Wire_lengthSuits_59 (by decide) ?_
          refine lv_icmp_gt (tgt := 74) hx hb d_Wire_lengthSuits_61 (by decide) (fun hc => ?_) (fun hc => ?_)
          · replace hE := fw_if_t hc hE
            refine lv_iconst (v := 0) hx hb d_Wire_lengthSuits_74 (by decide) ?_
            cases hE
            exact fw_zret C (by decide) fw_X.rf rfl R d_Wire_lengthSuits_75
          · replace hE := fw_if_f hc hE
            refine lv_iload_n hx hb d_Wire_lengthSuits_64 rfl (lv_at hl 1 rfl) ?_
            refine lv_iconst (v := 1) hx hb d_Wire_lengthSuits_65 (by decide) ?_
            refine lv_iand hx hb d_Wire_lengthSuits_66 ?_
            refine lv_if_ne (tgt := 74) hx hb d_Wire_lengthSuits_67 (by decide) (fun hc => ?_) (fun hc => ?_)
            · replace hE := fw_if_f hc hE
              refine lv_iconst (v := 0) hx hb d_Wire_lengthSuits_74 (by decide) ?_
              cases hE
              exact fw_zret C (by decide) fw_X.rf rfl R d_Wire_lengthSuits_75
            · replace hE := fw_if_t hc hE
              refine lv_iconst (v := 1) hx hb d_Wire_lengthSuits_70 (by decide) ?_
              refine lv_goto (tgt := 75) hx hb d_Wire_lengthSuits_71 (by decide) ?_
              cases hE
              exact fw_zret C (by decide) fw_X.rf rfl R d_Wire_lengthSuits_75
      · replace hE := fw_if_f hs3 hE
        by_cases hs4 : (fw_g S0 b1 0) = (3 : Int32)
        · replace hE := fw_if_t hs4 hE
          refine lv_tableIn (off := 69) (tgt := 76) hx hb d_Wire_lengthSuits_7 (by rw [hs4]; decide) (by rw [hs4]; decide) (by rw [hs4]; rfl) (by decide) ?_
          refine lv_iload_n hx hb d_Wire_lengthSuits_76 rfl (lv_at hl 1 rfl) ?_
          refine lv_iconst (v := 2) hx hb d_Wire_lengthSuits_77 (by decide) ?_
          refine lv_icmp_ne (tgt := 85) hx hb d_Wire_lengthSuits_78 (by decide) (fun hc => ?_) (fun hc => ?_)
          · replace hE := fw_if_f hc hE
            refine lv_iconst (v := 0) hx hb d_Wire_lengthSuits_85 (by decide) ?_
            cases hE
            exact fw_zret C (by decide) fw_X.rf rfl R d_Wire_lengthSuits_86
          · replace hE := fw_if_t hc hE
            refine lv_iconst (v := 1) hx hb d_Wire_lengthSuits_81 (by decide) ?_
            refine lv_goto (tgt := 86) hx hb d_Wire_lengthSuits_82 (by decide) ?_
            cases hE
            exact fw_zret C (by decide) fw_X.rf rfl R d_Wire_lengthSuits_86
        · replace hE := fw_if_f hs4 hE
          by_cases hs5 : (fw_g S0 b1 0) = (4 : Int32)
          · replace hE := fw_if_t hs5 hE
            refine lv_tableIn (off := 80) (tgt := 87) hx hb d_Wire_lengthSuits_7 (by rw [hs5]; decide) (by rw [hs5]; decide) (by rw [hs5]; rfl) (by decide) ?_
            refine lv_iload_n hx hb d_Wire_lengthSuits_87 rfl (lv_at hl 1 rfl) ?_
            refine lv_iconst (v := 1) hx hb d_Wire_lengthSuits_88 (by decide) ?_
            refine lv_icmp_ne (tgt := 96) hx hb d_Wire_lengthSuits_89 (by decide) (fun hc => ?_) (fun hc => ?_)
            · replace hE := fw_if_f hc hE
              refine lv_iconst (v := 0) hx hb d_Wire_lengthSuits_96 (by decide) ?_
              cases hE
              exact fw_zret C (by decide) fw_X.rf rfl R d_Wire_lengthSuits_97
            · replace hE := fw_if_t hc hE
              refine lv_iconst (v := 1) hx hb d_Wire_lengthSuits_92 (by decide) ?_
              refine lv_goto (tgt := 97) hx hb d_Wire_lengthSuits_93 (by decide) ?_
              cases hE
              exact fw_zret C (by decide) fw_X.rf rfl R d_Wire_lengthSuits_97
          · replace hE := fw_if_f hs5 hE
            refine lv_tableOut (tgt := 98) hx hb d_Wire_lengthSuits_7 (fw_tout 1 4 (fun k h1 h2 hk => ?_)) (by decide) ?_
            · have h3 : k = 1 ∨ k = 2 ∨ k = 3 ∨ k = 4 := by omega
              rcases h3 with rfl | rfl | rfl | rfl
              · exact hs2 (by rw [hk]; rfl)
              · exact hs3 (by rw [hk]; rfl)
              · exact hs4 (by rw [hk]; rfl)
              · exact hs5 (by rw [hk]; rfl)
            · refine lv_iconst (v := 0) hx hb d_Wire_lengthSuits_98 (by decide) ?_
              cases hE
              exact fw_zret C (by decide) fw_X.rf rfl R d_Wire_lengthSuits_99
set_option maxHeartbeats 4000000 in
set_option maxRecDepth 100000 in
theorem ct_Wire_suits (l : Launch) (G : fw_G) (kd0 : Nat → Option Nat) (S0 : fw_S) (a0 : Nat) (p1 : Int32) (r0 : Int32) (hk_a0 : kd0 a0 = some 5) (hE : F_Wire_suits a0 p1 S0 = some r0) : fw_M l G y_Wire_suits prog_7_method_8_code 2 (some .boolean) 1 22 0 0 kd0 S0 ([.ref a0, .int p1] : List Value) (some (.int r0)) S0 (fun k => k = kd0) := by
  refine fw_start (by decide) (Nat.le_of_ble_eq_true rfl) ?_
  intro p e s m below meth c ls C hnm R hl
  clear hnm
  have hx := C.1
  have hb := C.2.1
  have hl : lv_has ls 2 [(0, .ref a0), (1, .int p1)] := hl
  unfold F_Wire_suits at hE
  refine lv_aload_n hx hb d_Wire_suits_0 rfl (lv_at hl 0 rfl) ?_
  refine fw_get (v := .int (fw_g S0 a0 5)) C R ft_field_5_29 hk_a0 rfl d_Wire_suits_1 ?_
  by_cases hs8 : (fw_g S0 a0 5) = (0 : Int32)
  · replace hE := fw_if_t hs8 hE
    refine lv_tableIn (off := 32) (tgt := 36) hx hb d_Wire_suits_4 (by rw [hs8]; decide) (by rw [hs8]; decide) (by rw [hs8]; rfl) (by decide) ?_
    refine lv_iload_n hx hb d_Wire_suits_36 rfl (lv_at hl 1 rfl) ?_
    refine lv_bipush (v := 126) hx hb d_Wire_suits_37 (by decide) ?_
    refine lv_icmp_ne (tgt := 46) hx hb d_Wire_suits_39 (by decide) (fun hc => ?_) (fun hc => ?_)
    · replace hE := fw_if_f hc hE
      refine lv_iconst (v := 0) hx hb d_Wire_suits_46 (by decide) ?_
      cases hE
      exact fw_zret C (by decide) fw_X.rf rfl R d_Wire_suits_47
    · replace hE := fw_if_t hc hE
      refine lv_iconst (v := 1) hx hb d_Wire_suits_42 (by decide) ?_
      refine lv_goto (tgt := 47) hx hb d_Wire_suits_43 (by decide) ?_
      cases hE
      exact fw_zret C (by decide) fw_X.rf rfl R d_Wire_suits_47
  · replace hE := fw_if_f hs8 hE
    by_cases hs9 : (fw_g S0 a0 5) = (1 : Int32)
    · replace hE := fw_if_t hs9 hE
      refine lv_tableIn (off := 44) (tgt := 48) hx hb d_Wire_suits_4 (by rw [hs9]; decide) (by rw [hs9]; decide) (by rw [hs9]; rfl) (by decide) ?_
      refine lv_iload_n hx hb d_Wire_suits_48 rfl (lv_at hl 1 rfl) ?_
      refine lv_iconst (v := 1) hx hb d_Wire_suits_49 (by decide) ?_
      refine lv_icmp_lt (tgt := 62) hx hb d_Wire_suits_50 (by decide) (fun hc => ?_) (fun hc => ?_)
      · replace hE := fw_if_t hc hE
        refine lv_iconst (v := 0) hx hb d_Wire_suits_62 (by decide) ?_
        cases hE
        exact fw_zret C (by decide) fw_X.rf rfl R d_Wire_suits_63
      · replace hE := fw_if_f hc hE
        refine lv_iload_n hx hb d_Wire_suits_53 rfl (lv_at hl 1 rfl) ?_
        refine lv_iconst (v := 4) hx hb d_Wire_suits_54 (by decide) ?_
        refine lv_icmp_gt (tgt := 62) hx hb d_Wire_suits_55 (by decide) (fun hc => ?_) (fun hc => ?_)
        · replace hE := fw_if_t hc hE
          refine lv_iconst (v := 0) hx hb d_Wire_suits_62 (by decide) ?_
          cases hE
          exact fw_zret C (by decide) fw_X.rf rfl R d_Wire_suits_63
        · replace hE := fw_if_f hc hE
          refine lv_iconst (v := 1) hx hb d_Wire_suits_58 (by decide) ?_
          refine lv_goto (tgt := 63) hx hb d_Wire_suits_59 (by decide) ?_
          cases hE
          exact fw_zret C (by decide) fw_X.rf rfl R d_Wire_suits_63
    · replace hE := fw_if_f hs9 hE
      by_cases hs10 : (fw_g S0 a0 5) = (2 : Int32)
      · replace hE := fw_if_t hs10 hE
        refine lv_tableIn (off := 60) (tgt := 64) hx hb d_Wire_suits_4 (by rw [hs10]; decide) (by rw [hs10]; decide) (by rw [hs10]; rfl) (by decide) ?_
        refine lv_iconst (v := 1) hx hb d_Wire_suits_64 (by decide) ?_
        cases hE
        exact fw_zret C (by decide) fw_X.rf rfl R d_Wire_suits_65
      · replace hE := fw_if_f hs10 hE
        by_cases hs11 : (fw_g S0 a0 5) = (3 : Int32)
        · replace hE := fw_if_t hs11 hE
          refine lv_tableIn (off := 62) (tgt := 66) hx hb d_Wire_suits_4 (by rw [hs11]; decide) (by rw [hs11]; decide) (by rw [hs11]; rfl) (by decide) ?_
          refine lv_aload_n hx hb d_Wire_suits_66 rfl (lv_at hl 0 rfl) ?_
          refine lv_iload_n hx hb d_Wire_suits_67 rfl (lv_at hl 1 rfl) ?_
          obtain ⟨x1, hF, hE⟩ := fw_bind hE
          refine fw_callV (As := [.int p1]) (rest := []) C R ft_callV_5_70 yi_Wire_lengthSuits ys_Wire_lengthSuits (ct_Wire_lengthSuits l G kd0 S0 _ _ _ hk_a0 hF) hk_a0 (by decide) rfl rfl hl.1 rfl (lv_room (Nat.le_of_ble_eq_true rfl)) ⟨Nat.le_of_ble_eq_true rfl, Nat.le_of_ble_eq_true rfl⟩ ⟨Nat.le_of_ble_eq_true rfl, Nat.le_of_ble_eq_true rfl⟩ d_Wire_suits_68 (fun H locs kd2 hxkd2 hP R => ?_)
          rw [hP] at R; clear hP hxkd2
          obtain ⟨hz3, hE⟩ := fw_ifp hE
          cases hE
          exact fw_zret C hz3 fw_X.rf rfl R d_Wire_suits_71
        · replace hE := fw_if_f hs11 hE
          refine lv_tableOut (tgt := 72) hx hb d_Wire_suits_4 (fw_tout 0 3 (fun k h1 h2 hk => ?_)) (by decide) ?_
          · have h3 : k = 0 ∨ k = 1 ∨ k = 2 ∨ k = 3 := by omega
            rcases h3 with rfl | rfl | rfl | rfl
            · exact hs8 (by rw [hk]; rfl)
            · exact hs9 (by rw [hk]; rfl)
            · exact hs10 (by rw [hk]; rfl)
            · exact hs11 (by rw [hk]; rfl)
          · refine lv_aload_n hx hb d_Wire_suits_72 rfl (lv_at hl 0 rfl) ?_
            refine fw_get (v := .int (fw_g S0 a0 5)) C R ft_field_5_29 hk_a0 rfl d_Wire_suits_73 ?_
            refine lv_iconst (v := 4) hx hb d_Wire_suits_76 (by decide) ?_
            refine lv_aload_n hx hb d_Wire_suits_77 rfl (lv_at hl 0 rfl) ?_
            refine fw_get (v := .int (fw_g S0 a0 6)) C R ft_field_5_32 hk_a0 rfl d_Wire_suits_78 ?_
            refine lv_iadd hx hb d_Wire_suits_81 ?_
            refine lv_icmp_ne (tgt := 102) hx hb d_Wire_suits_82 (by decide) (fun hc => ?_) (fun hc => ?_)
            · replace hE := fw_if_f hc hE
              refine lv_aload_n hx hb d_Wire_suits_102 rfl (lv_at hl 0 rfl) ?_
              refine fw_getr C R ft_field_5_25 hk_a0 rfl rfl d_Wire_suits_103 (fun hq => ?_) (fun b4 hq hk_b4 => ?_)
              · replace hE := fw_om_none hq hE
                cases hE
              · replace hE := fw_om_some hq hE
                refine fw_get (v := .int (fw_g S0 b4 0)) C R ft_field_5_49 hk_b4 rfl d_Wire_suits_106 ?_
                refine lv_iconst (v := 2) hx hb d_Wire_suits_109 (by decide) ?_
                refine lv_icmp_ne (tgt := 126) hx hb d_Wire_suits_110 (by decide) (fun hc => ?_) (fun hc => ?_)
                · replace hE := fw_if_f hc hE
                  refine lv_iconst (v := 1) hx hb d_Wire_suits_126 (by decide) ?_
                  refine lv_goto (tgt := 131) hx hb d_Wire_suits_127 (by decide) ?_
                  cases hE
                  exact fw_zret C (by decide) fw_X.rf rfl R d_Wire_suits_131
                · replace hE := fw_if_t hc hE
                  refine lv_aload_n hx hb d_Wire_suits_113 rfl (lv_at hl 0 rfl) ?_
                  refine fw_get (v := .int (fw_g S0 a0 5)) C R ft_field_5_29 hk_a0 rfl d_Wire_suits_114 ?_
                  refine lv_iconst (v := 5) hx hb d_Wire_suits_117 (by decide) ?_
                  refine lv_icmp_ne (tgt := 126) hx hb d_Wire_suits_118 (by decide) (fun hc => ?_) (fun hc => ?_)
                  · replace hE := fw_if_f hc hE
                    refine lv_iconst (v := 1) hx hb d_Wire_suits_126 (by decide) ?_
                    refine lv_goto (tgt := 131) hx hb d_Wire_suits_127 (by decide) ?_
                    cases hE
                    exact fw_zret C (by decide) fw_X.rf rfl R d_Wire_suits_131
                  · replace hE := fw_if_t hc hE
                    refine lv_iload_n hx hb d_Wire_suits_121 rfl (lv_at hl 1 rfl) ?_
                    refine lv_iconst (v := 1) hx hb d_Wire_suits_122 (by decide) ?_
                    refine lv_icmp_gt (tgt := 130) hx hb d_Wire_suits_123 (by decide) (fun hc => ?_) (fun hc => ?_)
                    · replace hE := fw_if_t hc hE
                      refine lv_iconst (v := 0) hx hb d_Wire_suits_130 (by decide) ?_
                      cases hE
                      exact fw_zret C (by decide) fw_X.rf rfl R d_Wire_suits_131
                    · replace hE := fw_if_f hc hE
                      refine lv_iconst (v := 1) hx hb d_Wire_suits_126 (by decide) ?_
                      refine lv_goto (tgt := 131) hx hb d_Wire_suits_127 (by decide) ?_
                      cases hE
                      exact fw_zret C (by decide) fw_X.rf rfl R d_Wire_suits_131
            · replace hE := fw_if_t hc hE
              refine lv_iload_n hx hb d_Wire_suits_85 rfl (lv_at hl 1 rfl) ?_
              refine lv_aload_n hx hb d_Wire_suits_86 rfl (lv_at hl 0 rfl) ?_
              refine fw_getr C R ft_field_5_25 hk_a0 rfl rfl d_Wire_suits_87 (fun hq => ?_) (fun b5 hq hk_b5 => ?_)
              · replace hE := fw_om_none hq hE
                cases hE
              · replace hE := fw_om_some hq hE
                obtain ⟨x6, hF, hE⟩ := fw_bind hE
                refine fw_callV (As := []) (rest := [.int p1]) C R ft_callV_5_59 yi_Frame_sum ys_Frame_sum (ct_Frame_sum l G kd0 S0 _ _ hk_b5 hF) hk_b5 (by decide) rfl rfl hl.1 rfl (lv_room (Nat.le_of_ble_eq_true rfl)) ⟨Nat.le_of_ble_eq_true rfl, Nat.le_of_ble_eq_true rfl⟩ ⟨Nat.le_of_ble_eq_true rfl, Nat.le_of_ble_eq_true rfl⟩ d_Wire_suits_90 (fun H locs kd7 hxkd7 hP R => ?_)
                rw [hP] at R; clear hP hxkd7
                refine lv_icmp_ne (tgt := 100) hx hb d_Wire_suits_93 (by decide) (fun hc => ?_) (fun hc => ?_)
                · replace hE := fw_if_f hc hE
                  refine lv_iconst (v := 0) hx hb d_Wire_suits_100 (by decide) ?_
                  cases hE
                  exact fw_zret C (by decide) fw_X.rf rfl R d_Wire_suits_101
                · replace hE := fw_if_t hc hE
                  refine lv_iconst (v := 1) hx hb d_Wire_suits_96 (by decide) ?_
                  refine lv_goto (tgt := 101) hx hb d_Wire_suits_97 (by decide) ?_
                  cases hE
                  exact fw_zret C (by decide) fw_X.rf rfl R d_Wire_suits_101
set_option maxHeartbeats 4000000 in
set_option maxRecDepth 100000 in
theorem ct_Wire_keep (l : Launch) (G : fw_G) (kd0 : Nat → Option Nat) (S0 : fw_S) (a0 : Nat) (p1 : Int32) (S' : fw_S) (hk_a0 : kd0 a0 = some 5) (hE : F_Wire_keep a0 p1 S0 = some S') : fw_M l G y_Wire_keep prog_7_method_10_code 2 none 1 22 0 0 kd0 S0 ([.ref a0, .int p1] : List Value) none S' (fun k => k = kd0) := by
  refine fw_start (by decide) (Nat.le_of_ble_eq_true rfl) ?_
  intro p e s m below meth c ls C hnm R hl
  clear hnm
  have hx := C.1
  have hb := C.2.1
  have hl : lv_has ls 2 [(0, .ref a0), (1, .int p1)] := hl
  unfold F_Wire_keep at hE
  refine lv_aload_n hx hb d_Wire_keep_0 rfl (lv_at hl 0 rfl) ?_
  refine fw_get (v := .int (fw_g S0 a0 5)) C R ft_field_5_29 hk_a0 rfl d_Wire_keep_1 ?_
  by_cases hs11 : (fw_g S0 a0 5) = (0 : Int32)
  · replace hE := fw_if_t hs11 hE
    refine lv_tableIn (off := 32) (tgt := 36) hx hb d_Wire_keep_4 (by rw [hs11]; decide) (by rw [hs11]; decide) (by rw [hs11]; rfl) (by decide) ?_
    refine lv_aload_n hx hb d_Wire_keep_36 rfl (lv_at hl 0 rfl) ?_
    refine lv_iconst (v := 0) hx hb d_Wire_keep_37 (by decide) ?_
    refine fw_puti C R ft_field_5_32 rfl hk_a0 d_Wire_keep_38 (fun H locs R => ?_)
    obtain ⟨S1, eS1, hE⟩ := fw_let_ex hE
    rw [← eS1] at R
    clear eS1
    refine lv_goto (tgt := 96) hx hb d_Wire_keep_41 (by decide) ?_
    cases hE
    exact fw_vret C fw_X.rf rfl R d_Wire_keep_96
  · replace hE := fw_if_f hs11 hE
    by_cases hs12 : (fw_g S0 a0 5) = (1 : Int32)
    · replace hE := fw_if_t hs12 hE
      refine lv_tableIn (off := 40) (tgt := 44) hx hb d_Wire_keep_4 (by rw [hs12]; decide) (by rw [hs12]; decide) (by rw [hs12]; rfl) (by decide) ?_
      refine lv_aload_n hx hb d_Wire_keep_44 rfl (lv_at hl 0 rfl) ?_
      refine fw_getr C R ft_field_5_25 hk_a0 rfl rfl d_Wire_keep_45 (fun hq => ?_) (fun b2 hq hk_b2 => ?_)
      · replace hE := fw_om_none hq hE
        refine lv_iload_n hx hb d_Wire_keep_48 rfl (lv_at hl 1 rfl) ?_
        refine lv_iconst (v := 0) hx hb d_Wire_keep_49 (by decide) ?_
        cases hE
      · replace hE := fw_om_some hq hE
        refine lv_iload_n hx hb d_Wire_keep_48 rfl (lv_at hl 1 rfl) ?_
        refine lv_iconst (v := 0) hx hb d_Wire_keep_49 (by decide) ?_
        obtain ⟨S3, hF, hE⟩ := fw_bind hE
        refine fw_callV (As := [.int p1, .int (0 : Int32)]) (rest := []) C R ft_callV_5_73 yi_Frame_begin ys_Frame_begin (ct_Frame_begin l G kd0 S0 _ _ _ _ hk_b2 hF) hk_b2 (by decide) rfl rfl hl.1 rfl (lv_room (Nat.le_of_ble_eq_true rfl)) ⟨Nat.le_of_ble_eq_true rfl, Nat.le_of_ble_eq_true rfl⟩ ⟨Nat.le_of_ble_eq_true rfl, Nat.le_of_ble_eq_true rfl⟩ d_Wire_keep_50 (fun H locs kd4 hxkd4 hP R => ?_)
        rw [hP] at R; clear hP hxkd4
        refine lv_goto (tgt := 96) hx hb d_Wire_keep_53 (by decide) ?_
        cases hE
        exact fw_vret C fw_X.rf rfl R d_Wire_keep_96
    · replace hE := fw_if_f hs12 hE
      by_cases hs13 : (fw_g S0 a0 5) = (2 : Int32)
      · replace hE := fw_if_t hs13 hE
        refine lv_tableIn (off := 52) (tgt := 56) hx hb d_Wire_keep_4 (by rw [hs13]; decide) (by rw [hs13]; decide) (by rw [hs13]; rfl) (by decide) ?_
        refine lv_aload_n hx hb d_Wire_keep_56 rfl (lv_at hl 0 rfl) ?_
        refine fw_getr C R ft_field_5_25 hk_a0 rfl rfl d_Wire_keep_57 (fun hq => ?_) (fun b5 hq hk_b5 => ?_)
        · replace hE := fw_om_none hq hE
          refine lv_iload_n hx hb d_Wire_keep_60 rfl (lv_at hl 1 rfl) ?_
          cases hE
        · replace hE := fw_om_some hq hE
          refine lv_iload_n hx hb d_Wire_keep_60 rfl (lv_at hl 1 rfl) ?_
          refine fw_puti C R ft_field_5_52 rfl hk_b5 d_Wire_keep_61 (fun H locs R => ?_)
          obtain ⟨S6, eS6, hE⟩ := fw_let_ex hE
          rw [← eS6] at R
          clear eS6
          refine lv_goto (tgt := 96) hx hb d_Wire_keep_64 (by decide) ?_
          cases hE
          exact fw_vret C fw_X.rf rfl R d_Wire_keep_96
      · replace hE := fw_if_f hs13 hE
        by_cases hs14 : (fw_g S0 a0 5) = (3 : Int32)
        · replace hE := fw_if_t hs14 hE
          refine lv_tableIn (off := 63) (tgt := 67) hx hb d_Wire_keep_4 (by rw [hs14]; decide) (by rw [hs14]; decide) (by rw [hs14]; rfl) (by decide) ?_
          refine lv_aload_n hx hb d_Wire_keep_67 rfl (lv_at hl 0 rfl) ?_
          refine lv_iload_n hx hb d_Wire_keep_68 rfl (lv_at hl 1 rfl) ?_
          refine fw_puti C R ft_field_5_32 rfl hk_a0 d_Wire_keep_69 (fun H locs R => ?_)
          obtain ⟨S7, eS7, hE⟩ := fw_let_ex hE
          rw [← eS7] at R
          clear eS7
          refine lv_goto (tgt := 96) hx hb d_Wire_keep_72 (by decide) ?_
          cases hE
          exact fw_vret C fw_X.rf rfl R d_Wire_keep_96
        · replace hE := fw_if_f hs14 hE
          refine lv_tableOut (tgt := 75) hx hb d_Wire_keep_4 (fw_tout 0 3 (fun k h1 h2 hk => ?_)) (by decide) ?_
          · have h3 : k = 0 ∨ k = 1 ∨ k = 2 ∨ k = 3 := by omega
            rcases h3 with rfl | rfl | rfl | rfl
            · exact hs11 (by rw [hk]; rfl)
            · exact hs12 (by rw [hk]; rfl)
            · exact hs13 (by rw [hk]; rfl)
            · exact hs14 (by rw [hk]; rfl)
          · refine lv_aload_n hx hb d_Wire_keep_75 rfl (lv_at hl 0 rfl) ?_
            refine fw_get (v := .int (fw_g S0 a0 5)) C R ft_field_5_29 hk_a0 rfl d_Wire_keep_76 ?_
            refine lv_iconst (v := 4) hx hb d_Wire_keep_79 (by decide) ?_
            refine lv_aload_n hx hb d_Wire_keep_80 rfl (lv_at hl 0 rfl) ?_
            refine fw_get (v := .int (fw_g S0 a0 6)) C R ft_field_5_32 hk_a0 rfl d_Wire_keep_81 ?_
            refine lv_iadd hx hb d_Wire_keep_84 ?_
            refine lv_icmp_ge (tgt := 96) hx hb d_Wire_keep_85 (by decide) (fun hc => ?_) (fun hc => ?_)
            · replace hE := fw_if_t hc hE
              cases hE
              exact fw_vret C fw_X.rf rfl R d_Wire_keep_96
            · replace hE := fw_if_f hc hE
              refine lv_aload_n hx hb d_Wire_keep_88 rfl (lv_at hl 0 rfl) ?_
              refine fw_getr C R ft_field_5_25 hk_a0 rfl rfl d_Wire_keep_89 (fun hq => ?_) (fun b8 hq hk_b8 => ?_)
              · replace hE := fw_om_none hq hE
                refine lv_iload_n hx hb d_Wire_keep_92 rfl (lv_at hl 1 rfl) ?_
                cases hE
              · replace hE := fw_om_some hq hE
                refine lv_iload_n hx hb d_Wire_keep_92 rfl (lv_at hl 1 rfl) ?_
                obtain ⟨S9, hF, hE⟩ := fw_bind hE
                refine fw_callV (As := [.int p1]) (rest := []) C R ft_callV_5_77 yi_Frame_put ys_Frame_put (ct_Frame_put l G kd0 S0 _ _ _ hk_b8 hF) hk_b8 (by decide) rfl rfl hl.1 rfl (lv_room (Nat.le_of_ble_eq_true rfl)) ⟨Nat.le_of_ble_eq_true rfl, Nat.le_of_ble_eq_true rfl⟩ ⟨Nat.le_of_ble_eq_true rfl, Nat.le_of_ble_eq_true rfl⟩ d_Wire_keep_93 (fun H locs kd10 hxkd10 hP R => ?_)
                rw [hP] at R; clear hP hxkd10
                cases hE
                exact fw_vret C fw_X.rf rfl R d_Wire_keep_96
set_option maxHeartbeats 4000000 in
set_option maxRecDepth 100000 in
theorem ct_Wire_accept (l : Launch) (G : fw_G) (kd0 : Nat → Option Nat) (S0 : fw_S) (a0 : Nat) (p1 : Int32) (r0 : Int32) (S' : fw_S) (hk_a0 : kd0 a0 = some 5) (hE : F_Wire_accept a0 p1 S0 = some (r0, S')) : fw_M l G y_Wire_accept prog_7_method_7_code 2 (some .int) 2 43 0 0 kd0 S0 ([.ref a0, .int p1] : List Value) (some (.int r0)) S' (fun k => k = kd0) := by
  refine fw_start (by decide) (Nat.le_of_ble_eq_true rfl) ?_
  intro p e s m below meth c ls C hnm R hl
  clear hnm
  have hx := C.1
  have hb := C.2.1
  have hl : lv_has ls 2 [(0, .ref a0), (1, .int p1)] := hl
  unfold F_Wire_accept at hE
  refine lv_aload_n hx hb d_Wire_accept_0 rfl (lv_at hl 0 rfl) ?_
  refine lv_iload_n hx hb d_Wire_accept_1 rfl (lv_at hl 1 rfl) ?_
  obtain ⟨x1, hF, hE⟩ := fw_bind hE
  refine fw_callV (As := [.int p1]) (rest := []) C R ft_callV_5_63 yi_Wire_suits ys_Wire_suits (ct_Wire_suits l G kd0 S0 _ _ _ hk_a0 hF) hk_a0 (by decide) rfl rfl hl.1 rfl (lv_room (Nat.le_of_ble_eq_true rfl)) ⟨Nat.le_of_ble_eq_true rfl, Nat.le_of_ble_eq_true rfl⟩ ⟨Nat.le_of_ble_eq_true rfl, Nat.le_of_ble_eq_true rfl⟩ d_Wire_accept_2 (fun H locs kd2 hxkd2 hP R => ?_)
  rw [hP] at R; clear hP hxkd2
  refine lv_if_ne (tgt := 11) hx hb d_Wire_accept_5 (by decide) (fun hc => ?_) (fun hc => ?_)
  · replace hE := fw_if_f hc hE
    refine lv_aload_n hx hb d_Wire_accept_11 rfl (lv_at hl 0 rfl) ?_
    refine lv_iload_n hx hb d_Wire_accept_12 rfl (lv_at hl 1 rfl) ?_
    obtain ⟨S3, hF, hE⟩ := fw_bind hE
    refine fw_callV (As := [.int p1]) (rest := []) C R ft_callV_5_67 yi_Wire_keep ys_Wire_keep (ct_Wire_keep l G kd0 S0 _ _ _ hk_a0 hF) hk_a0 (by decide) rfl rfl hl.1 rfl (lv_room (Nat.le_of_ble_eq_true rfl)) ⟨Nat.le_of_ble_eq_true rfl, Nat.le_of_ble_eq_true rfl⟩ ⟨Nat.le_of_ble_eq_true rfl, Nat.le_of_ble_eq_true rfl⟩ d_Wire_accept_13 (fun H locs kd4 hxkd4 hP R => ?_)
    rw [hP] at R; clear hP hxkd4
    refine lv_aload_n hx hb d_Wire_accept_16 rfl (lv_at hl 0 rfl) ?_
    refine lv_dup hx hb d_Wire_accept_17 rfl ?_
    refine fw_get (v := .int (fw_g S3 a0 5)) C R ft_field_5_29 hk_a0 rfl d_Wire_accept_18 ?_
    refine lv_iconst (v := 1) hx hb d_Wire_accept_21 (by decide) ?_
    refine lv_iadd hx hb d_Wire_accept_22 ?_
    refine fw_puti C R ft_field_5_29 rfl hk_a0 d_Wire_accept_23 (fun H locs R => ?_)
    obtain ⟨S5, eS5, hE⟩ := fw_let_ex hE
    rw [← eS5] at R
    clear eS5
    refine lv_aload_n hx hb d_Wire_accept_26 rfl (lv_at hl 0 rfl) ?_
    refine fw_get (v := .int (fw_g S5 a0 5)) C R ft_field_5_29 hk_a0 rfl d_Wire_accept_27 ?_
    refine lv_iconst (v := 4) hx hb d_Wire_accept_30 (by decide) ?_
    refine lv_aload_n hx hb d_Wire_accept_31 rfl (lv_at hl 0 rfl) ?_
    refine fw_get (v := .int (fw_g S5 a0 6)) C R ft_field_5_32 hk_a0 rfl d_Wire_accept_32 ?_
    refine lv_iadd hx hb d_Wire_accept_35 ?_
    refine lv_icmp_gt (tgt := 41) hx hb d_Wire_accept_36 (by decide) (fun hc => ?_) (fun hc => ?_)
    · replace hE := fw_if_t hc hE
      refine lv_aload_n hx hb d_Wire_accept_41 rfl (lv_at hl 0 rfl) ?_
      refine lv_iconst (v := 0) hx hb d_Wire_accept_42 (by decide) ?_
      refine fw_puti C R ft_field_5_29 rfl hk_a0 d_Wire_accept_43 (fun H locs R => ?_)
      obtain ⟨S6, eS6, hE⟩ := fw_let_ex hE
      rw [← eS6] at R
      clear eS6
      refine lv_iconst (v := 1) hx hb d_Wire_accept_46 (by decide) ?_
      cases hE
      exact fw_iret C fw_X.rf rfl R d_Wire_accept_47
    · replace hE := fw_if_f hc hE
      refine lv_iconst (v := 0) hx hb d_Wire_accept_39 (by decide) ?_
      cases hE
      exact fw_iret C fw_X.rf rfl R d_Wire_accept_40
  · replace hE := fw_if_t hc hE
    refine lv_bipush (v := -10) hx hb d_Wire_accept_8 (by decide) ?_
    cases hE
    exact fw_iret C fw_X.rf rfl R d_Wire_accept_10
set_option maxHeartbeats 4000000 in
set_option maxRecDepth 100000 in
theorem ct_FW_init (l : Launch) (G : fw_G) (kd0 : Nat → Option Nat) (S0 : fw_S) (a0 : Nat) (S' : fw_S) (hk_a0 : kd0 a0 = some 6) (hE : F_FW_init a0 S0 = some S') : fw_M l G y_FW_init prog_1_method_1_code 2 none 4 84 66 3059 kd0 S0 ([.ref a0] : List Value) none S' (fun _ => True) := by
  refine fw_start (by decide) (Nat.le_of_ble_eq_true rfl) ?_
  intro p e s m below meth c ls C hnm R hl
  have hx := C.1
  have hb := C.2.1
  have hl : lv_has ls 2 [(0, .ref a0)] := hl
  unfold F_FW_init at hE
  refine lv_aload_n hx hb d_FW_init_0 rfl (lv_at hl 0 rfl) ?_
  refine fw_obj C ft_obj_6_1 ob_1 ob_2 hl.1 d_FW_init_1 (Nat.le_of_ble_eq_true rfl) (Nat.le_of_ble_eq_true rfl) ?_
  refine lv_aload_n hx hb d_FW_init_4 rfl (lv_at hl 0 rfl) ?_
  refine lv_iconst (v := 5) hx hb d_FW_init_5 (by decide) ?_
  refine fw_newq (K := 5) C R ft_anew_6_9 (by decide) (by decide) (by decide) (by decide) (by decide) (by decide) d_FW_init_6 (fun H kd3 hxkd3 hk_new R => ?_)
  refine W.widen (k := 1) (n := 5) (by decide) (by decide) ?_
  obtain ⟨b2, eb2, hE⟩ := fw_let_ex hE
  obtain ⟨S1, eS1, hE⟩ := fw_let_ex hE
  rw [← eS1] at R
  rw [← eb2] at hk_new ⊢
  have hk_b2 := hk_new
  have hXkd3 := fw_X.tr fw_X.rf hxkd3
  have hk_a0 := hxkd3 _ _ hk_a0
  clear eS1 eb2 hk_new
  refine fw_putFr C hnm R ft_field_6_11 rfl ft_nonest_6_11 rfl rfl (by decide) hk_b2 hk_a0 d_FW_init_9 (fun H locs R => ?_)
  obtain ⟨S4, eS4, hE⟩ := fw_let_ex hE
  rw [← eS4] at R
  clear eS4
  refine lv_aload_n hx hb d_FW_init_12 rfl (lv_at hl 0 rfl) ?_
  refine lv_bipush (v := 24) hx hb d_FW_init_13 (by decide) ?_
  refine fw_newq (K := 3) C R ft_anew_6_15 (by decide) (by decide) (by decide) (by decide) (by decide) (by decide) d_FW_init_15 (fun H kd7 hxkd7 hk_new R => ?_)
  refine W.widen (k := 2) (n := 29) (by decide) (by decide) ?_
  obtain ⟨b6, eb6, hE⟩ := fw_let_ex hE
  obtain ⟨S5, eS5, hE⟩ := fw_let_ex hE
  rw [← eS5] at R
  rw [← eb6] at hk_new ⊢
  have hk_b6 := hk_new
  have hXkd7 := fw_X.tr hXkd3 hxkd7
  have hk_a0 := hxkd7 _ _ hk_a0
  have hk_b2 := hxkd7 _ _ hk_b2
  clear eS5 eb6 hk_new
  refine fw_putFr C hnm R ft_field_6_17 rfl ft_nonest_6_17 rfl rfl (by decide) hk_b6 hk_a0 d_FW_init_18 (fun H locs R => ?_)
  obtain ⟨S8, eS8, hE⟩ := fw_let_ex hE
  rw [← eS8] at R
  clear eS8
  refine lv_aload_n hx hb d_FW_init_21 rfl (lv_at hl 0 rfl) ?_
  refine lv_iconst (v := 0) hx hb d_FW_init_22 (by decide) ?_
  refine fw_puti C R ft_field_6_21 rfl hk_a0 d_FW_init_23 (fun H locs R => ?_)
  obtain ⟨S9, eS9, hE⟩ := fw_let_ex hE
  rw [← eS9] at R
  clear eS9
  refine lv_aload_n hx hb d_FW_init_26 rfl (lv_at hl 0 rfl) ?_
  refine fw_new C R cl_2 nd_2 ft_new_6_25 ni_2 nj_2 (Nat.le_of_ble_eq_true rfl) (Nat.le_of_ble_eq_true rfl) d_FW_init_27 (fun H kd12 hxkd12 hk_new R => ?_)
  refine W.widen (k := 3) (n := 32) (by decide) (by decide) ?_
  obtain ⟨b11, eb11, hE⟩ := fw_let_ex hE
  obtain ⟨S10, eS10, hE⟩ := fw_let_ex hE
  rw [← eS10] at R
  rw [← eb11] at hk_new ⊢
  have hk_b11 := hk_new
  have hXkd12 := fw_X.tr hXkd7 hxkd12
  have hk_a0 := hxkd12 _ _ hk_a0
  have hk_b2 := hxkd12 _ _ hk_b2
  have hk_b6 := hxkd12 _ _ hk_b6
  clear eS10 eb11 hk_new
  refine lv_dup hx hb d_FW_init_30 rfl ?_
  refine lv_bipush (v := 20) hx hb d_FW_init_31 (by decide) ?_
  obtain ⟨S13, hF, hE⟩ := fw_bind hE
  refine fw_callI (As := [.int (20 : Int32)]) (rest := [.ref b11, .ref a0]) C R ft_callI_6_27 yi_Pairs_init rfl (ct_Pairs_init l G kd12 S10 _ _ _ hk_b11 hF) rfl hl.1 rfl (lv_room (Nat.le_of_ble_eq_true rfl)) ⟨Nat.le_of_ble_eq_true rfl, Nat.le_of_ble_eq_true rfl⟩ ⟨Nat.le_of_ble_eq_true rfl, Nat.le_of_ble_eq_true rfl⟩ d_FW_init_33 (fun H locs kd14 hxkd14 hP R => ?_)
  refine W.widen (k := 5) (n := 160) (by decide) (by decide) ?_
  have hXkd14 := fw_X.tr hXkd12 hxkd14
  have hk_a0 := hxkd14 _ _ hk_a0
  have hk_b2 := hxkd14 _ _ hk_b2
  have hk_b6 := hxkd14 _ _ hk_b6
  have hk_b11 := hxkd14 _ _ hk_b11
  refine fw_putFr C hnm R ft_field_6_30 rfl ft_nonest_6_30 rfl rfl (by decide) hk_b11 hk_a0 d_FW_init_36 (fun H locs R => ?_)
  obtain ⟨S15, eS15, hE⟩ := fw_let_ex hE
  rw [← eS15] at R
  clear eS15
  refine lv_aload_n hx hb d_FW_init_39 rfl (lv_at hl 0 rfl) ?_
  refine fw_new C R cl_4 nd_4 ft_new_6_34 ni_4 nj_4 (Nat.le_of_ble_eq_true rfl) (Nat.le_of_ble_eq_true rfl) d_FW_init_40 (fun H kd18 hxkd18 hk_new R => ?_)
  refine W.widen (k := 6) (n := 165) (by decide) (by decide) ?_
  obtain ⟨b17, eb17, hE⟩ := fw_let_ex hE
  obtain ⟨S16, eS16, hE⟩ := fw_let_ex hE
  rw [← eS16] at R
  rw [← eb17] at hk_new ⊢
  have hk_b17 := hk_new
  have hXkd18 := fw_X.tr hXkd14 hxkd18
  have hk_a0 := hxkd18 _ _ hk_a0
  have hk_b2 := hxkd18 _ _ hk_b2
  have hk_b6 := hxkd18 _ _ hk_b6
  have hk_b11 := hxkd18 _ _ hk_b11
  clear eS16 eb17 hk_new
  refine lv_dup hx hb d_FW_init_43 rfl ?_
  obtain ⟨S19, hF, hE⟩ := fw_bind hE
  refine fw_callI (As := []) (rest := [.ref b17, .ref a0]) C R ft_callI_6_36 yi_ServingEnd_init rfl (ct_ServingEnd_init l G kd18 S16 _ _ hk_b17 hF) rfl hl.1 rfl (lv_room (Nat.le_of_ble_eq_true rfl)) ⟨Nat.le_of_ble_eq_true rfl, Nat.le_of_ble_eq_true rfl⟩ ⟨Nat.le_of_ble_eq_true rfl, Nat.le_of_ble_eq_true rfl⟩ d_FW_init_44 (fun H locs kd20 hxkd20 hP R => ?_)
  refine W.widen (k := 44) (n := 1406) (by decide) (by decide) ?_
  have hXkd20 := fw_X.tr hXkd18 hxkd20
  have hk_a0 := hxkd20 _ _ hk_a0
  have hk_b2 := hxkd20 _ _ hk_b2
  have hk_b6 := hxkd20 _ _ hk_b6
  have hk_b11 := hxkd20 _ _ hk_b11
  have hk_b17 := hxkd20 _ _ hk_b17
  refine fw_putFr C hnm R ft_field_6_37 rfl ft_nonest_6_37 rfl rfl (by decide) hk_b17 hk_a0 d_FW_init_47 (fun H locs R => ?_)
  obtain ⟨S21, eS21, hE⟩ := fw_let_ex hE
  rw [← eS21] at R
  clear eS21
  refine lv_aload_n hx hb d_FW_init_50 rfl (lv_at hl 0 rfl) ?_
  refine lv_iconst (v := 4) hx hb d_FW_init_51 (by decide) ?_
  refine fw_newai C R (by decide) (by decide) (by decide) (by decide) d_FW_init_52 (fun H kd24 hxkd24 hk_new R => ?_)
  refine W.widen (k := 45) (n := 1410) (by decide) (by decide) ?_
  obtain ⟨b23, eb23, hE⟩ := fw_let_ex hE
  obtain ⟨S22, eS22, hE⟩ := fw_let_ex hE
  rw [← eS22] at R
  rw [← eb23] at hk_new ⊢
  have hk_b23 := hk_new
  have hXkd24 := fw_X.tr hXkd20 hxkd24
  have hk_a0 := hxkd24 _ _ hk_a0
  have hk_b2 := hxkd24 _ _ hk_b2
  have hk_b6 := hxkd24 _ _ hk_b6
  have hk_b11 := hxkd24 _ _ hk_b11
  have hk_b17 := hxkd24 _ _ hk_b17
  clear eS22 eb23 hk_new
  refine fw_putFr C hnm R ft_field_6_41 rfl ft_nonest_6_41 rfl rfl (by decide) hk_b23 hk_a0 d_FW_init_54 (fun H locs R => ?_)
  obtain ⟨S25, eS25, hE⟩ := fw_let_ex hE
  rw [← eS25] at R
  clear eS25
  refine lv_aload_n hx hb d_FW_init_57 rfl (lv_at hl 0 rfl) ?_
  refine lv_iconst (v := 4) hx hb d_FW_init_58 (by decide) ?_
  refine fw_newaz C R (by decide) (by decide) (by decide) (by decide) d_FW_init_59 (fun H kd28 hxkd28 hk_new R => ?_)
  refine W.widen (k := 46) (n := 1414) (by decide) (by decide) ?_
  obtain ⟨b27, eb27, hE⟩ := fw_let_ex hE
  obtain ⟨S26, eS26, hE⟩ := fw_let_ex hE
  rw [← eS26] at R
  rw [← eb27] at hk_new ⊢
  have hk_b27 := hk_new
  have hXkd28 := fw_X.tr hXkd24 hxkd28
  have hk_a0 := hxkd28 _ _ hk_a0
  have hk_b2 := hxkd28 _ _ hk_b2
  have hk_b6 := hxkd28 _ _ hk_b6
  have hk_b11 := hxkd28 _ _ hk_b11
  have hk_b17 := hxkd28 _ _ hk_b17
  have hk_b23 := hxkd28 _ _ hk_b23
  clear eS26 eb27 hk_new
  refine fw_putFr C hnm R ft_field_6_45 rfl ft_nonest_6_45 rfl rfl (by decide) hk_b27 hk_a0 d_FW_init_61 (fun H locs R => ?_)
  obtain ⟨S29, eS29, hE⟩ := fw_let_ex hE
  rw [← eS29] at R
  clear eS29
  refine lv_aload_n hx hb d_FW_init_64 rfl (lv_at hl 0 rfl) ?_
  refine lv_iconst (v := 4) hx hb d_FW_init_65 (by decide) ?_
  refine fw_puti C R ft_field_6_49 rfl hk_a0 d_FW_init_66 (fun H locs R => ?_)
  obtain ⟨S30, eS30, hE⟩ := fw_let_ex hE
  rw [← eS30] at R
  clear eS30
  refine lv_aload_n hx hb d_FW_init_69 rfl (lv_at hl 0 rfl) ?_
  refine lv_bipush (v := 10) hx hb d_FW_init_70 (by decide) ?_
  refine fw_puti C R ft_field_6_52 rfl hk_a0 d_FW_init_72 (fun H locs R => ?_)
  obtain ⟨S31, eS31, hE⟩ := fw_let_ex hE
  rw [← eS31] at R
  clear eS31
  refine lv_aload_n hx hb d_FW_init_75 rfl (lv_at hl 0 rfl) ?_
  refine lv_iconst (v := 2) hx hb d_FW_init_76 (by decide) ?_
  refine fw_puti C R ft_field_6_55 rfl hk_a0 d_FW_init_77 (fun H locs R => ?_)
  obtain ⟨S32, eS32, hE⟩ := fw_let_ex hE
  rw [← eS32] at R
  clear eS32
  refine lv_aload_n hx hb d_FW_init_80 rfl (lv_at hl 0 rfl) ?_
  refine lv_iconst (v := 0) hx hb d_FW_init_81 (by decide) ?_
  refine fw_puti C R ft_field_6_58 rfl hk_a0 d_FW_init_82 (fun H locs R => ?_)
  obtain ⟨S33, eS33, hE⟩ := fw_let_ex hE
  rw [← eS33] at R
  clear eS33
  refine lv_aload_n hx hb d_FW_init_85 rfl (lv_at hl 0 rfl) ?_
  refine lv_iconst (v := 0) hx hb d_FW_init_86 (by decide) ?_
  refine fw_puti C R ft_field_6_61 rfl hk_a0 d_FW_init_87 (fun H locs R => ?_)
  obtain ⟨S34, eS34, hE⟩ := fw_let_ex hE
  rw [← eS34] at R
  clear eS34
  refine lv_aload_n hx hb d_FW_init_90 rfl (lv_at hl 0 rfl) ?_
  refine lv_iconst (v := 0) hx hb d_FW_init_91 (by decide) ?_
  refine fw_puti C R ft_field_6_64 rfl hk_a0 d_FW_init_92 (fun H locs R => ?_)
  obtain ⟨S35, eS35, hE⟩ := fw_let_ex hE
  rw [← eS35] at R
  clear eS35
  refine lv_iconst (v := 0) hx hb d_FW_init_95 (by decide) ?_
  refine lv_istore_n (lv' := [(1, .int (0 : Int32)), (0, .ref a0)]) hx hb d_FW_init_96 rfl hl (by decide) rfl (fun ls hl => ?_)
  refine lv_iload_n hx hb d_FW_init_97 rfl (lv_at hl 0 rfl) ?_
  refine lv_iconst (v := 5) hx hb d_FW_init_98 (by decide) ?_
  refine lv_icmp_ge (tgt := 131) hx hb d_FW_init_99 (by decide) (fun hc => absurd hc (by decide)) (fun _ => ?_)
  refine lv_aload_n hx hb d_FW_init_102 rfl (lv_at hl 1 rfl) ?_
  refine fw_getr C R ft_field_6_11 hk_a0 rfl rfl d_FW_init_103 (fun hq => ?_) (fun b36 hq hk_b36 => ?_)
  · replace hE := fw_om_none hq hE
    refine lv_iload_n hx hb d_FW_init_106 rfl (lv_at hl 0 rfl) ?_
    refine fw_new C R cl_5 nd_5 ft_new_6_9 ni_5 nj_5 (Nat.le_of_ble_eq_true rfl) (Nat.le_of_ble_eq_true rfl) d_FW_init_107 (fun H kd39 hxkd39 hk_new R => ?_)
    refine W.widen (k := 47) (n := 1421) (by decide) (by decide) ?_
    obtain ⟨b38, eb38, hE⟩ := fw_let_ex hE
    obtain ⟨S37, eS37, hE⟩ := fw_let_ex hE
    rw [← eS37] at R
    rw [← eb38] at hk_new ⊢
    have hk_b38 := hk_new
    have hXkd39 := fw_X.tr hXkd28 hxkd39
    have hk_a0 := hxkd39 _ _ hk_a0
    have hk_b2 := hxkd39 _ _ hk_b2
    have hk_b6 := hxkd39 _ _ hk_b6
    have hk_b11 := hxkd39 _ _ hk_b11
    have hk_b17 := hxkd39 _ _ hk_b17
    have hk_b23 := hxkd39 _ _ hk_b23
    have hk_b27 := hxkd39 _ _ hk_b27
    clear eS37 eb38 hk_new
    refine lv_dup hx hb d_FW_init_110 rfl ?_
    refine lv_iload_n hx hb d_FW_init_111 rfl (lv_at hl 0 rfl) ?_
    refine lv_iconst (v := 4) hx hb d_FW_init_112 (by decide) ?_
    refine lv_icmp_ne (tgt := 120) hx hb d_FW_init_113 (by decide) (fun _ => ?_) (fun hc => absurd hc (by decide))
    refine lv_iconst (v := 0) hx hb d_FW_init_120 (by decide) ?_
    obtain ⟨S40, hF, hE⟩ := fw_bind hE
    refine fw_callI (As := [.int (0 : Int32)]) (rest := [.ref b38, .int (0 : Int32), .null]) C R ft_callI_6_67 yi_Wire_init rfl (ct_Wire_init l G kd39 S37 _ _ _ hk_b38 hF) rfl hl.1 rfl (lv_room (Nat.le_of_ble_eq_true rfl)) ⟨Nat.le_of_ble_eq_true rfl, Nat.le_of_ble_eq_true rfl⟩ ⟨Nat.le_of_ble_eq_true rfl, Nat.le_of_ble_eq_true rfl⟩ d_FW_init_121 (fun H locs kd41 hxkd41 hP R => ?_)
    refine W.widen (k := 50) (n := 1743) (by decide) (by decide) ?_
    have hXkd41 := fw_X.tr hXkd39 hxkd41
    have hk_a0 := hxkd41 _ _ hk_a0
    have hk_b2 := hxkd41 _ _ hk_b2
    have hk_b6 := hxkd41 _ _ hk_b6
    have hk_b11 := hxkd41 _ _ hk_b11
    have hk_b17 := hxkd41 _ _ hk_b17
    have hk_b23 := hxkd41 _ _ hk_b23
    have hk_b27 := hxkd41 _ _ hk_b27
    have hk_b38 := hxkd41 _ _ hk_b38
    cases hE
  · replace hE := fw_om_some hq hE
    refine lv_iload_n hx hb d_FW_init_106 rfl (lv_at hl 0 rfl) ?_
    refine fw_new C R cl_5 nd_5 ft_new_6_9 ni_5 nj_5 (Nat.le_of_ble_eq_true rfl) (Nat.le_of_ble_eq_true rfl) d_FW_init_107 (fun H kd44 hxkd44 hk_new R => ?_)
    refine W.widen (k := 47) (n := 1421) (by decide) (by decide) ?_
    obtain ⟨b43, eb43, hE⟩ := fw_let_ex hE
    obtain ⟨S42, eS42, hE⟩ := fw_let_ex hE
    rw [← eS42] at R
    rw [← eb43] at hk_new ⊢
    have hk_b43 := hk_new
    have hXkd44 := fw_X.tr hXkd28 hxkd44
    have hk_a0 := hxkd44 _ _ hk_a0
    have hk_b2 := hxkd44 _ _ hk_b2
    have hk_b6 := hxkd44 _ _ hk_b6
    have hk_b11 := hxkd44 _ _ hk_b11
    have hk_b17 := hxkd44 _ _ hk_b17
    have hk_b23 := hxkd44 _ _ hk_b23
    have hk_b27 := hxkd44 _ _ hk_b27
    have hk_b36 := hxkd44 _ _ hk_b36
    clear eS42 eb43 hk_new
    refine lv_dup hx hb d_FW_init_110 rfl ?_
    refine lv_iload_n hx hb d_FW_init_111 rfl (lv_at hl 0 rfl) ?_
    refine lv_iconst (v := 4) hx hb d_FW_init_112 (by decide) ?_
    refine lv_icmp_ne (tgt := 120) hx hb d_FW_init_113 (by decide) (fun _ => ?_) (fun hc => absurd hc (by decide))
    refine lv_iconst (v := 0) hx hb d_FW_init_120 (by decide) ?_
    obtain ⟨S45, hF, hE⟩ := fw_bind hE
    refine fw_callI (As := [.int (0 : Int32)]) (rest := [.ref b43, .int (0 : Int32), .ref b36]) C R ft_callI_6_67 yi_Wire_init rfl (ct_Wire_init l G kd44 S42 _ _ _ hk_b43 hF) rfl hl.1 rfl (lv_room (Nat.le_of_ble_eq_true rfl)) ⟨Nat.le_of_ble_eq_true rfl, Nat.le_of_ble_eq_true rfl⟩ ⟨Nat.le_of_ble_eq_true rfl, Nat.le_of_ble_eq_true rfl⟩ d_FW_init_121 (fun H locs kd46 hxkd46 hP R => ?_)
    refine W.widen (k := 50) (n := 1743) (by decide) (by decide) ?_
    have hXkd46 := fw_X.tr hXkd44 hxkd46
    have hk_a0 := hxkd46 _ _ hk_a0
    have hk_b2 := hxkd46 _ _ hk_b2
    have hk_b6 := hxkd46 _ _ hk_b6
    have hk_b11 := hxkd46 _ _ hk_b11
    have hk_b17 := hxkd46 _ _ hk_b17
    have hk_b23 := hxkd46 _ _ hk_b23
    have hk_b27 := hxkd46 _ _ hk_b27
    have hk_b36 := hxkd46 _ _ hk_b36
    have hk_b43 := hxkd46 _ _ hk_b43
    obtain ⟨hi47, hE⟩ := fw_ifn hE
    refine fw_aast (K := 5) C R rfl (by decide) (by decide) hk_b36 hk_b43 hi47 d_FW_init_124 (fun H locs R => ?_)
    obtain ⟨S48, eS48, hE⟩ := fw_let_ex hE
    rw [← eS48] at R
    clear eS48
    refine lv_iinc (v := (1 : Int32)) (lv' := [(1, .int (1 : Int32)), (0, .ref a0)]) hx hb d_FW_init_125 hl (k := 0) rfl (by decide) (by decide) rfl (fun ls hl => ?_)
    refine lv_goto (tgt := 97) hx hb d_FW_init_128 (by decide) ?_
    refine lv_iload_n hx hb d_FW_init_97 rfl (lv_at hl 0 rfl) ?_
    refine lv_iconst (v := 5) hx hb d_FW_init_98 (by decide) ?_
    refine lv_icmp_ge (tgt := 131) hx hb d_FW_init_99 (by decide) (fun hc => absurd hc (by decide)) (fun _ => ?_)
    refine lv_aload_n hx hb d_FW_init_102 rfl (lv_at hl 1 rfl) ?_
    refine fw_getr C R ft_field_6_11 hk_a0 rfl rfl d_FW_init_103 (fun hq => ?_) (fun b49 hq hk_b49 => ?_)
    · replace hE := fw_om_none hq hE
      refine lv_iload_n hx hb d_FW_init_106 rfl (lv_at hl 0 rfl) ?_
      refine fw_new C R cl_5 nd_5 ft_new_6_9 ni_5 nj_5 (Nat.le_of_ble_eq_true rfl) (Nat.le_of_ble_eq_true rfl) d_FW_init_107 (fun H kd52 hxkd52 hk_new R => ?_)
      refine W.widen (k := 51) (n := 1750) (by decide) (by decide) ?_
      obtain ⟨b51, eb51, hE⟩ := fw_let_ex hE
      obtain ⟨S50, eS50, hE⟩ := fw_let_ex hE
      rw [← eS50] at R
      rw [← eb51] at hk_new ⊢
      have hk_b51 := hk_new
      have hXkd52 := fw_X.tr hXkd46 hxkd52
      have hk_a0 := hxkd52 _ _ hk_a0
      have hk_b2 := hxkd52 _ _ hk_b2
      have hk_b6 := hxkd52 _ _ hk_b6
      have hk_b11 := hxkd52 _ _ hk_b11
      have hk_b17 := hxkd52 _ _ hk_b17
      have hk_b23 := hxkd52 _ _ hk_b23
      have hk_b27 := hxkd52 _ _ hk_b27
      have hk_b36 := hxkd52 _ _ hk_b36
      have hk_b43 := hxkd52 _ _ hk_b43
      clear eS50 eb51 hk_new
      refine lv_dup hx hb d_FW_init_110 rfl ?_
      refine lv_iload_n hx hb d_FW_init_111 rfl (lv_at hl 0 rfl) ?_
      refine lv_iconst (v := 4) hx hb d_FW_init_112 (by decide) ?_
      refine lv_icmp_ne (tgt := 120) hx hb d_FW_init_113 (by decide) (fun _ => ?_) (fun hc => absurd hc (by decide))
      refine lv_iconst (v := 0) hx hb d_FW_init_120 (by decide) ?_
      obtain ⟨S53, hF, hE⟩ := fw_bind hE
      refine fw_callI (As := [.int (0 : Int32)]) (rest := [.ref b51, .int (1 : Int32), .null]) C R ft_callI_6_67 yi_Wire_init rfl (ct_Wire_init l G kd52 S50 _ _ _ hk_b51 hF) rfl hl.1 rfl (lv_room (Nat.le_of_ble_eq_true rfl)) ⟨Nat.le_of_ble_eq_true rfl, Nat.le_of_ble_eq_true rfl⟩ ⟨Nat.le_of_ble_eq_true rfl, Nat.le_of_ble_eq_true rfl⟩ d_FW_init_121 (fun H locs kd54 hxkd54 hP R => ?_)
      refine W.widen (k := 54) (n := 2072) (by decide) (by decide) ?_
      have hXkd54 := fw_X.tr hXkd52 hxkd54
      have hk_a0 := hxkd54 _ _ hk_a0
      have hk_b2 := hxkd54 _ _ hk_b2
      have hk_b6 := hxkd54 _ _ hk_b6
      have hk_b11 := hxkd54 _ _ hk_b11
      have hk_b17 := hxkd54 _ _ hk_b17
      have hk_b23 := hxkd54 _ _ hk_b23
      have hk_b27 := hxkd54 _ _ hk_b27
      have hk_b36 := hxkd54 _ _ hk_b36
      have hk_b43 := hxkd54 _ _ hk_b43
      have hk_b51 := hxkd54 _ _ hk_b51
      cases hE
    · replace hE := fw_om_some hq hE
      refine lv_iload_n hx hb d_FW_init_106 rfl (lv_at hl 0 rfl) ?_
      refine fw_new C R cl_5 nd_5 ft_new_6_9 ni_5 nj_5 (Nat.le_of_ble_eq_true rfl) (Nat.le_of_ble_eq_true rfl) d_FW_init_107 (fun H kd57 hxkd57 hk_new R => ?_)
      refine W.widen (k := 51) (n := 1750) (by decide) (by decide) ?_
      obtain ⟨b56, eb56, hE⟩ := fw_let_ex hE
      obtain ⟨S55, eS55, hE⟩ := fw_let_ex hE
      rw [← eS55] at R
      rw [← eb56] at hk_new ⊢
      have hk_b56 := hk_new
      have hXkd57 := fw_X.tr hXkd46 hxkd57
      have hk_a0 := hxkd57 _ _ hk_a0
      have hk_b2 := hxkd57 _ _ hk_b2
      have hk_b6 := hxkd57 _ _ hk_b6
      have hk_b11 := hxkd57 _ _ hk_b11
      have hk_b17 := hxkd57 _ _ hk_b17
      have hk_b23 := hxkd57 _ _ hk_b23
      have hk_b27 := hxkd57 _ _ hk_b27
      have hk_b36 := hxkd57 _ _ hk_b36
      have hk_b43 := hxkd57 _ _ hk_b43
      have hk_b49 := hxkd57 _ _ hk_b49
      clear eS55 eb56 hk_new
      refine lv_dup hx hb d_FW_init_110 rfl ?_
      refine lv_iload_n hx hb d_FW_init_111 rfl (lv_at hl 0 rfl) ?_
      refine lv_iconst (v := 4) hx hb d_FW_init_112 (by decide) ?_
      refine lv_icmp_ne (tgt := 120) hx hb d_FW_init_113 (by decide) (fun _ => ?_) (fun hc => absurd hc (by decide))
      refine lv_iconst (v := 0) hx hb d_FW_init_120 (by decide) ?_
      obtain ⟨S58, hF, hE⟩ := fw_bind hE
      refine fw_callI (As := [.int (0 : Int32)]) (rest := [.ref b56, .int (1 : Int32), .ref b49]) C R ft_callI_6_67 yi_Wire_init rfl (ct_Wire_init l G kd57 S55 _ _ _ hk_b56 hF) rfl hl.1 rfl (lv_room (Nat.le_of_ble_eq_true rfl)) ⟨Nat.le_of_ble_eq_true rfl, Nat.le_of_ble_eq_true rfl⟩ ⟨Nat.le_of_ble_eq_true rfl, Nat.le_of_ble_eq_true rfl⟩ d_FW_init_121 (fun H locs kd59 hxkd59 hP R => ?_)
      refine W.widen (k := 54) (n := 2072) (by decide) (by decide) ?_
      have hXkd59 := fw_X.tr hXkd57 hxkd59
      have hk_a0 := hxkd59 _ _ hk_a0
      have hk_b2 := hxkd59 _ _ hk_b2
      have hk_b6 := hxkd59 _ _ hk_b6
      have hk_b11 := hxkd59 _ _ hk_b11
      have hk_b17 := hxkd59 _ _ hk_b17
      have hk_b23 := hxkd59 _ _ hk_b23
      have hk_b27 := hxkd59 _ _ hk_b27
      have hk_b36 := hxkd59 _ _ hk_b36
      have hk_b43 := hxkd59 _ _ hk_b43
      have hk_b49 := hxkd59 _ _ hk_b49
      have hk_b56 := hxkd59 _ _ hk_b56
      obtain ⟨hi60, hE⟩ := fw_ifn hE
      refine fw_aast (K := 5) C R rfl (by decide) (by decide) hk_b49 hk_b56 hi60 d_FW_init_124 (fun H locs R => ?_)
      obtain ⟨S61, eS61, hE⟩ := fw_let_ex hE
      rw [← eS61] at R
      clear eS61
      refine lv_iinc (v := (2 : Int32)) (lv' := [(1, .int (2 : Int32)), (0, .ref a0)]) hx hb d_FW_init_125 hl (k := 0) rfl (by decide) (by decide) rfl (fun ls hl => ?_)
      refine lv_goto (tgt := 97) hx hb d_FW_init_128 (by decide) ?_
      refine lv_iload_n hx hb d_FW_init_97 rfl (lv_at hl 0 rfl) ?_
      refine lv_iconst (v := 5) hx hb d_FW_init_98 (by decide) ?_
      refine lv_icmp_ge (tgt := 131) hx hb d_FW_init_99 (by decide) (fun hc => absurd hc (by decide)) (fun _ => ?_)
      refine lv_aload_n hx hb d_FW_init_102 rfl (lv_at hl 1 rfl) ?_
      refine fw_getr C R ft_field_6_11 hk_a0 rfl rfl d_FW_init_103 (fun hq => ?_) (fun b62 hq hk_b62 => ?_)
      · replace hE := fw_om_none hq hE
        refine lv_iload_n hx hb d_FW_init_106 rfl (lv_at hl 0 rfl) ?_
        refine fw_new C R cl_5 nd_5 ft_new_6_9 ni_5 nj_5 (Nat.le_of_ble_eq_true rfl) (Nat.le_of_ble_eq_true rfl) d_FW_init_107 (fun H kd65 hxkd65 hk_new R => ?_)
        refine W.widen (k := 55) (n := 2079) (by decide) (by decide) ?_
        obtain ⟨b64, eb64, hE⟩ := fw_let_ex hE
        obtain ⟨S63, eS63, hE⟩ := fw_let_ex hE
        rw [← eS63] at R
        rw [← eb64] at hk_new ⊢
        have hk_b64 := hk_new
        have hXkd65 := fw_X.tr hXkd59 hxkd65
        have hk_a0 := hxkd65 _ _ hk_a0
        have hk_b2 := hxkd65 _ _ hk_b2
        have hk_b6 := hxkd65 _ _ hk_b6
        have hk_b11 := hxkd65 _ _ hk_b11
        have hk_b17 := hxkd65 _ _ hk_b17
        have hk_b23 := hxkd65 _ _ hk_b23
        have hk_b27 := hxkd65 _ _ hk_b27
        have hk_b36 := hxkd65 _ _ hk_b36
        have hk_b43 := hxkd65 _ _ hk_b43
        have hk_b49 := hxkd65 _ _ hk_b49
        have hk_b56 := hxkd65 _ _ hk_b56
        clear eS63 eb64 hk_new
        refine lv_dup hx hb d_FW_init_110 rfl ?_
        refine lv_iload_n hx hb d_FW_init_111 rfl (lv_at hl 0 rfl) ?_
        refine lv_iconst (v := 4) hx hb d_FW_init_112 (by decide) ?_
        refine lv_icmp_ne (tgt := 120) hx hb d_FW_init_113 (by decide) (fun _ => ?_) (fun hc => absurd hc (by decide))
        refine lv_iconst (v := 0) hx hb d_FW_init_120 (by decide) ?_
        obtain ⟨S66, hF, hE⟩ := fw_bind hE
        refine fw_callI (As := [.int (0 : Int32)]) (rest := [.ref b64, .int (2 : Int32), .null]) C R ft_callI_6_67 yi_Wire_init rfl (ct_Wire_init l G kd65 S63 _ _ _ hk_b64 hF) rfl hl.1 rfl (lv_room (Nat.le_of_ble_eq_true rfl)) ⟨Nat.le_of_ble_eq_true rfl, Nat.le_of_ble_eq_true rfl⟩ ⟨Nat.le_of_ble_eq_true rfl, Nat.le_of_ble_eq_true rfl⟩ d_FW_init_121 (fun H locs kd67 hxkd67 hP R => ?_)
        refine W.widen (k := 58) (n := 2401) (by decide) (by decide) ?_
        have hXkd67 := fw_X.tr hXkd65 hxkd67
        have hk_a0 := hxkd67 _ _ hk_a0
        have hk_b2 := hxkd67 _ _ hk_b2
        have hk_b6 := hxkd67 _ _ hk_b6
        have hk_b11 := hxkd67 _ _ hk_b11
        have hk_b17 := hxkd67 _ _ hk_b17
        have hk_b23 := hxkd67 _ _ hk_b23
        have hk_b27 := hxkd67 _ _ hk_b27
        have hk_b36 := hxkd67 _ _ hk_b36
        have hk_b43 := hxkd67 _ _ hk_b43
        have hk_b49 := hxkd67 _ _ hk_b49
        have hk_b56 := hxkd67 _ _ hk_b56
        have hk_b64 := hxkd67 _ _ hk_b64
        cases hE
      · replace hE := fw_om_some hq hE
        refine lv_iload_n hx hb d_FW_init_106 rfl (lv_at hl 0 rfl) ?_
        refine fw_new C R cl_5 nd_5 ft_new_6_9 ni_5 nj_5 (Nat.le_of_ble_eq_true rfl) (Nat.le_of_ble_eq_true rfl) d_FW_init_107 (fun H kd70 hxkd70 hk_new R => ?_)
        refine W.widen (k := 55) (n := 2079) (by decide) (by decide) ?_
        obtain ⟨b69, eb69, hE⟩ := fw_let_ex hE
        obtain ⟨S68, eS68, hE⟩ := fw_let_ex hE
        rw [← eS68] at R
        rw [← eb69] at hk_new ⊢
        have hk_b69 := hk_new
        have hXkd70 := fw_X.tr hXkd59 hxkd70
        have hk_a0 := hxkd70 _ _ hk_a0
        have hk_b2 := hxkd70 _ _ hk_b2
        have hk_b6 := hxkd70 _ _ hk_b6
        have hk_b11 := hxkd70 _ _ hk_b11
        have hk_b17 := hxkd70 _ _ hk_b17
        have hk_b23 := hxkd70 _ _ hk_b23
        have hk_b27 := hxkd70 _ _ hk_b27
        have hk_b36 := hxkd70 _ _ hk_b36
        have hk_b43 := hxkd70 _ _ hk_b43
        have hk_b49 := hxkd70 _ _ hk_b49
        have hk_b56 := hxkd70 _ _ hk_b56
        have hk_b62 := hxkd70 _ _ hk_b62
        clear eS68 eb69 hk_new
        refine lv_dup hx hb d_FW_init_110 rfl ?_
        refine lv_iload_n hx hb d_FW_init_111 rfl (lv_at hl 0 rfl) ?_
        refine lv_iconst (v := 4) hx hb d_FW_init_112 (by decide) ?_
        refine lv_icmp_ne (tgt := 120) hx hb d_FW_init_113 (by decide) (fun _ => ?_) (fun hc => absurd hc (by decide))
        refine lv_iconst (v := 0) hx hb d_FW_init_120 (by decide) ?_
        obtain ⟨S71, hF, hE⟩ := fw_bind hE
        refine fw_callI (As := [.int (0 : Int32)]) (rest := [.ref b69, .int (2 : Int32), .ref b62]) C R ft_callI_6_67 yi_Wire_init rfl (ct_Wire_init l G kd70 S68 _ _ _ hk_b69 hF) rfl hl.1 rfl (lv_room (Nat.le_of_ble_eq_true rfl)) ⟨Nat.le_of_ble_eq_true rfl, Nat.le_of_ble_eq_true rfl⟩ ⟨Nat.le_of_ble_eq_true rfl, Nat.le_of_ble_eq_true rfl⟩ d_FW_init_121 (fun H locs kd72 hxkd72 hP R => ?_)
        refine W.widen (k := 58) (n := 2401) (by decide) (by decide) ?_
        have hXkd72 := fw_X.tr hXkd70 hxkd72
        have hk_a0 := hxkd72 _ _ hk_a0
        have hk_b2 := hxkd72 _ _ hk_b2
        have hk_b6 := hxkd72 _ _ hk_b6
        have hk_b11 := hxkd72 _ _ hk_b11
        have hk_b17 := hxkd72 _ _ hk_b17
        have hk_b23 := hxkd72 _ _ hk_b23
        have hk_b27 := hxkd72 _ _ hk_b27
        have hk_b36 := hxkd72 _ _ hk_b36
        have hk_b43 := hxkd72 _ _ hk_b43
        have hk_b49 := hxkd72 _ _ hk_b49
        have hk_b56 := hxkd72 _ _ hk_b56
        have hk_b62 := hxkd72 _ _ hk_b62
        have hk_b69 := hxkd72 _ _ hk_b69
        obtain ⟨hi73, hE⟩ := fw_ifn hE
        refine fw_aast (K := 5) C R rfl (by decide) (by decide) hk_b62 hk_b69 hi73 d_FW_init_124 (fun H locs R => ?_)
        obtain ⟨S74, eS74, hE⟩ := fw_let_ex hE
        rw [← eS74] at R
        clear eS74
        refine lv_iinc (v := (3 : Int32)) (lv' := [(1, .int (3 : Int32)), (0, .ref a0)]) hx hb d_FW_init_125 hl (k := 0) rfl (by decide) (by decide) rfl (fun ls hl => ?_)
        refine lv_goto (tgt := 97) hx hb d_FW_init_128 (by decide) ?_
        refine lv_iload_n hx hb d_FW_init_97 rfl (lv_at hl 0 rfl) ?_
        refine lv_iconst (v := 5) hx hb d_FW_init_98 (by decide) ?_
        refine lv_icmp_ge (tgt := 131) hx hb d_FW_init_99 (by decide) (fun hc => absurd hc (by decide)) (fun _ => ?_)
        refine lv_aload_n hx hb d_FW_init_102 rfl (lv_at hl 1 rfl) ?_
        refine fw_getr C R ft_field_6_11 hk_a0 rfl rfl d_FW_init_103 (fun hq => ?_) (fun b75 hq hk_b75 => ?_)
        · replace hE := fw_om_none hq hE
          refine lv_iload_n hx hb d_FW_init_106 rfl (lv_at hl 0 rfl) ?_
          refine fw_new C R cl_5 nd_5 ft_new_6_9 ni_5 nj_5 (Nat.le_of_ble_eq_true rfl) (Nat.le_of_ble_eq_true rfl) d_FW_init_107 (fun H kd78 hxkd78 hk_new R => ?_)
          refine W.widen (k := 59) (n := 2408) (by decide) (by decide) ?_
          obtain ⟨b77, eb77, hE⟩ := fw_let_ex hE
          obtain ⟨S76, eS76, hE⟩ := fw_let_ex hE
          rw [← eS76] at R
          rw [← eb77] at hk_new ⊢
          have hk_b77 := hk_new
          have hXkd78 := fw_X.tr hXkd72 hxkd78
          have hk_a0 := hxkd78 _ _ hk_a0
          have hk_b2 := hxkd78 _ _ hk_b2
          have hk_b6 := hxkd78 _ _ hk_b6
          have hk_b11 := hxkd78 _ _ hk_b11
          have hk_b17 := hxkd78 _ _ hk_b17
          have hk_b23 := hxkd78 _ _ hk_b23
          have hk_b27 := hxkd78 _ _ hk_b27
          have hk_b36 := hxkd78 _ _ hk_b36
          have hk_b43 := hxkd78 _ _ hk_b43
          have hk_b49 := hxkd78 _ _ hk_b49
          have hk_b56 := hxkd78 _ _ hk_b56
          have hk_b62 := hxkd78 _ _ hk_b62
          have hk_b69 := hxkd78 _ _ hk_b69
          clear eS76 eb77 hk_new
          refine lv_dup hx hb d_FW_init_110 rfl ?_
          refine lv_iload_n hx hb d_FW_init_111 rfl (lv_at hl 0 rfl) ?_
          refine lv_iconst (v := 4) hx hb d_FW_init_112 (by decide) ?_
          refine lv_icmp_ne (tgt := 120) hx hb d_FW_init_113 (by decide) (fun _ => ?_) (fun hc => absurd hc (by decide))
          refine lv_iconst (v := 0) hx hb d_FW_init_120 (by decide) ?_
          obtain ⟨S79, hF, hE⟩ := fw_bind hE
          refine fw_callI (As := [.int (0 : Int32)]) (rest := [.ref b77, .int (3 : Int32), .null]) C R ft_callI_6_67 yi_Wire_init rfl (ct_Wire_init l G kd78 S76 _ _ _ hk_b77 hF) rfl hl.1 rfl (lv_room (Nat.le_of_ble_eq_true rfl)) ⟨Nat.le_of_ble_eq_true rfl, Nat.le_of_ble_eq_true rfl⟩ ⟨Nat.le_of_ble_eq_true rfl, Nat.le_of_ble_eq_true rfl⟩ d_FW_init_121 (fun H locs kd80 hxkd80 hP R => ?_)
          refine W.widen (k := 62) (n := 2730) (by decide) (by decide) ?_
          have hXkd80 := fw_X.tr hXkd78 hxkd80
          have hk_a0 := hxkd80 _ _ hk_a0
          have hk_b2 := hxkd80 _ _ hk_b2
          have hk_b6 := hxkd80 _ _ hk_b6
          have hk_b11 := hxkd80 _ _ hk_b11
          have hk_b17 := hxkd80 _ _ hk_b17
          have hk_b23 := hxkd80 _ _ hk_b23
          have hk_b27 := hxkd80 _ _ hk_b27
          have hk_b36 := hxkd80 _ _ hk_b36
          have hk_b43 := hxkd80 _ _ hk_b43
          have hk_b49 := hxkd80 _ _ hk_b49
          have hk_b56 := hxkd80 _ _ hk_b56
          have hk_b62 := hxkd80 _ _ hk_b62
          have hk_b69 := hxkd80 _ _ hk_b69
          have hk_b77 := hxkd80 _ _ hk_b77
          cases hE
        · replace hE := fw_om_some hq hE
          refine lv_iload_n hx hb d_FW_init_106 rfl (lv_at hl 0 rfl) ?_
          refine fw_new C R cl_5 nd_5 ft_new_6_9 ni_5 nj_5 (Nat.le_of_ble_eq_true rfl) (Nat.le_of_ble_eq_true rfl) d_FW_init_107 (fun H kd83 hxkd83 hk_new R => ?_)
          refine W.widen (k := 59) (n := 2408) (by decide) (by decide) ?_
          obtain ⟨b82, eb82, hE⟩ := fw_let_ex hE
          obtain ⟨S81, eS81, hE⟩ := fw_let_ex hE
          rw [← eS81] at R
          rw [← eb82] at hk_new ⊢
          have hk_b82 := hk_new
          have hXkd83 := fw_X.tr hXkd72 hxkd83
          have hk_a0 := hxkd83 _ _ hk_a0
          have hk_b2 := hxkd83 _ _ hk_b2
          have hk_b6 := hxkd83 _ _ hk_b6
          have hk_b11 := hxkd83 _ _ hk_b11
          have hk_b17 := hxkd83 _ _ hk_b17
          have hk_b23 := hxkd83 _ _ hk_b23
          have hk_b27 := hxkd83 _ _ hk_b27
          have hk_b36 := hxkd83 _ _ hk_b36
          have hk_b43 := hxkd83 _ _ hk_b43
          have hk_b49 := hxkd83 _ _ hk_b49
          have hk_b56 := hxkd83 _ _ hk_b56
          have hk_b62 := hxkd83 _ _ hk_b62
          have hk_b69 := hxkd83 _ _ hk_b69
          have hk_b75 := hxkd83 _ _ hk_b75
          clear eS81 eb82 hk_new
          refine lv_dup hx hb d_FW_init_110 rfl ?_
          refine lv_iload_n hx hb d_FW_init_111 rfl (lv_at hl 0 rfl) ?_
          refine lv_iconst (v := 4) hx hb d_FW_init_112 (by decide) ?_
          refine lv_icmp_ne (tgt := 120) hx hb d_FW_init_113 (by decide) (fun _ => ?_) (fun hc => absurd hc (by decide))
          refine lv_iconst (v := 0) hx hb d_FW_init_120 (by decide) ?_
          obtain ⟨S84, hF, hE⟩ := fw_bind hE
          refine fw_callI (As := [.int (0 : Int32)]) (rest := [.ref b82, .int (3 : Int32), .ref b75]) C R ft_callI_6_67 yi_Wire_init rfl (ct_Wire_init l G kd83 S81 _ _ _ hk_b82 hF) rfl hl.1 rfl (lv_room (Nat.le_of_ble_eq_true rfl)) ⟨Nat.le_of_ble_eq_true rfl, Nat.le_of_ble_eq_true rfl⟩ ⟨Nat.le_of_ble_eq_true rfl, Nat.le_of_ble_eq_true rfl⟩ d_FW_init_121 (fun H locs kd85 hxkd85 hP R => ?_)
          refine W.widen (k := 62) (n := 2730) (by decide) (by decide) ?_
          have hXkd85 := fw_X.tr hXkd83 hxkd85
          have hk_a0 := hxkd85 _ _ hk_a0
          have hk_b2 := hxkd85 _ _ hk_b2
          have hk_b6 := hxkd85 _ _ hk_b6
          have hk_b11 := hxkd85 _ _ hk_b11
          have hk_b17 := hxkd85 _ _ hk_b17
          have hk_b23 := hxkd85 _ _ hk_b23
          have hk_b27 := hxkd85 _ _ hk_b27
          have hk_b36 := hxkd85 _ _ hk_b36
          have hk_b43 := hxkd85 _ _ hk_b43
          have hk_b49 := hxkd85 _ _ hk_b49
          have hk_b56 := hxkd85 _ _ hk_b56
          have hk_b62 := hxkd85 _ _ hk_b62
          have hk_b69 := hxkd85 _ _ hk_b69
          have hk_b75 := hxkd85 _ _ hk_b75
          have hk_b82 := hxkd85 _ _ hk_b82
          obtain ⟨hi86, hE⟩ := fw_ifn hE
          refine fw_aast (K := 5) C R rfl (by decide) (by decide) hk_b75 hk_b82 hi86 d_FW_init_124 (fun H locs R => ?_)
          obtain ⟨S87, eS87, hE⟩ := fw_let_ex hE
          rw [← eS87] at R
          clear eS87
          refine lv_iinc (v := (4 : Int32)) (lv' := [(1, .int (4 : Int32)), (0, .ref a0)]) hx hb d_FW_init_125 hl (k := 0) rfl (by decide) (by decide) rfl (fun ls hl => ?_)
          refine lv_goto (tgt := 97) hx hb d_FW_init_128 (by decide) ?_
          refine lv_iload_n hx hb d_FW_init_97 rfl (lv_at hl 0 rfl) ?_
          refine lv_iconst (v := 5) hx hb d_FW_init_98 (by decide) ?_
          refine lv_icmp_ge (tgt := 131) hx hb d_FW_init_99 (by decide) (fun hc => absurd hc (by decide)) (fun _ => ?_)
          refine lv_aload_n hx hb d_FW_init_102 rfl (lv_at hl 1 rfl) ?_
          refine fw_getr C R ft_field_6_11 hk_a0 rfl rfl d_FW_init_103 (fun hq => ?_) (fun b88 hq hk_b88 => ?_)
          · replace hE := fw_om_none hq hE
            refine lv_iload_n hx hb d_FW_init_106 rfl (lv_at hl 0 rfl) ?_
            refine fw_new C R cl_5 nd_5 ft_new_6_9 ni_5 nj_5 (Nat.le_of_ble_eq_true rfl) (Nat.le_of_ble_eq_true rfl) d_FW_init_107 (fun H kd91 hxkd91 hk_new R => ?_)
            refine W.widen (k := 63) (n := 2737) (by decide) (by decide) ?_
            obtain ⟨b90, eb90, hE⟩ := fw_let_ex hE
            obtain ⟨S89, eS89, hE⟩ := fw_let_ex hE
            rw [← eS89] at R
            rw [← eb90] at hk_new ⊢
            have hk_b90 := hk_new
            have hXkd91 := fw_X.tr hXkd85 hxkd91
            have hk_a0 := hxkd91 _ _ hk_a0
            have hk_b2 := hxkd91 _ _ hk_b2
            have hk_b6 := hxkd91 _ _ hk_b6
            have hk_b11 := hxkd91 _ _ hk_b11
            have hk_b17 := hxkd91 _ _ hk_b17
            have hk_b23 := hxkd91 _ _ hk_b23
            have hk_b27 := hxkd91 _ _ hk_b27
            have hk_b36 := hxkd91 _ _ hk_b36
            have hk_b43 := hxkd91 _ _ hk_b43
            have hk_b49 := hxkd91 _ _ hk_b49
            have hk_b56 := hxkd91 _ _ hk_b56
            have hk_b62 := hxkd91 _ _ hk_b62
            have hk_b69 := hxkd91 _ _ hk_b69
            have hk_b75 := hxkd91 _ _ hk_b75
            have hk_b82 := hxkd91 _ _ hk_b82
            clear eS89 eb90 hk_new
            refine lv_dup hx hb d_FW_init_110 rfl ?_
            refine lv_iload_n hx hb d_FW_init_111 rfl (lv_at hl 0 rfl) ?_
            refine lv_iconst (v := 4) hx hb d_FW_init_112 (by decide) ?_
            refine lv_icmp_ne (tgt := 120) hx hb d_FW_init_113 (by decide) (fun hc => absurd (by decide) hc) (fun _ => ?_)
            refine lv_iconst (v := 1) hx hb d_FW_init_116 (by decide) ?_
            refine lv_goto (tgt := 121) hx hb d_FW_init_117 (by decide) ?_
            obtain ⟨S92, hF, hE⟩ := fw_bind hE
            refine fw_callI (As := [.int (1 : Int32)]) (rest := [.ref b90, .int (4 : Int32), .null]) C R ft_callI_6_67 yi_Wire_init rfl (ct_Wire_init l G kd91 S89 _ _ _ hk_b90 hF) rfl hl.1 rfl (lv_room (Nat.le_of_ble_eq_true rfl)) ⟨Nat.le_of_ble_eq_true rfl, Nat.le_of_ble_eq_true rfl⟩ ⟨Nat.le_of_ble_eq_true rfl, Nat.le_of_ble_eq_true rfl⟩ d_FW_init_121 (fun H locs kd93 hxkd93 hP R => ?_)
            refine W.widen (k := 66) (n := 3059) (by decide) (by decide) ?_
            have hXkd93 := fw_X.tr hXkd91 hxkd93
            have hk_a0 := hxkd93 _ _ hk_a0
            have hk_b2 := hxkd93 _ _ hk_b2
            have hk_b6 := hxkd93 _ _ hk_b6
            have hk_b11 := hxkd93 _ _ hk_b11
            have hk_b17 := hxkd93 _ _ hk_b17
            have hk_b23 := hxkd93 _ _ hk_b23
            have hk_b27 := hxkd93 _ _ hk_b27
            have hk_b36 := hxkd93 _ _ hk_b36
            have hk_b43 := hxkd93 _ _ hk_b43
            have hk_b49 := hxkd93 _ _ hk_b49
            have hk_b56 := hxkd93 _ _ hk_b56
            have hk_b62 := hxkd93 _ _ hk_b62
            have hk_b69 := hxkd93 _ _ hk_b69
            have hk_b75 := hxkd93 _ _ hk_b75
            have hk_b82 := hxkd93 _ _ hk_b82
            have hk_b90 := hxkd93 _ _ hk_b90
            cases hE
          · replace hE := fw_om_some hq hE
            refine lv_iload_n hx hb d_FW_init_106 rfl (lv_at hl 0 rfl) ?_
            refine fw_new C R cl_5 nd_5 ft_new_6_9 ni_5 nj_5 (Nat.le_of_ble_eq_true rfl) (Nat.le_of_ble_eq_true rfl) d_FW_init_107 (fun H kd96 hxkd96 hk_new R => ?_)
            refine W.widen (k := 63) (n := 2737) (by decide) (by decide) ?_
            obtain ⟨b95, eb95, hE⟩ := fw_let_ex hE
            obtain ⟨S94, eS94, hE⟩ := fw_let_ex hE
            rw [← eS94] at R
            rw [← eb95] at hk_new ⊢
            have hk_b95 := hk_new
            have hXkd96 := fw_X.tr hXkd85 hxkd96
            have hk_a0 := hxkd96 _ _ hk_a0
            have hk_b2 := hxkd96 _ _ hk_b2
            have hk_b6 := hxkd96 _ _ hk_b6
            have hk_b11 := hxkd96 _ _ hk_b11
            have hk_b17 := hxkd96 _ _ hk_b17
            have hk_b23 := hxkd96 _ _ hk_b23
            have hk_b27 := hxkd96 _ _ hk_b27
            have hk_b36 := hxkd96 _ _ hk_b36
            have hk_b43 := hxkd96 _ _ hk_b43
            have hk_b49 := hxkd96 _ _ hk_b49
            have hk_b56 := hxkd96 _ _ hk_b56
            have hk_b62 := hxkd96 _ _ hk_b62
            have hk_b69 := hxkd96 _ _ hk_b69
            have hk_b75 := hxkd96 _ _ hk_b75
            have hk_b82 := hxkd96 _ _ hk_b82
            have hk_b88 := hxkd96 _ _ hk_b88
            clear eS94 eb95 hk_new
            refine lv_dup hx hb d_FW_init_110 rfl ?_
            refine lv_iload_n hx hb d_FW_init_111 rfl (lv_at hl 0 rfl) ?_
            refine lv_iconst (v := 4) hx hb d_FW_init_112 (by decide) ?_
            refine lv_icmp_ne (tgt := 120) hx hb d_FW_init_113 (by decide) (fun hc => absurd (by decide) hc) (fun _ => ?_)
            refine lv_iconst (v := 1) hx hb d_FW_init_116 (by decide) ?_
            refine lv_goto (tgt := 121) hx hb d_FW_init_117 (by decide) ?_
            obtain ⟨S97, hF, hE⟩ := fw_bind hE
            refine fw_callI (As := [.int (1 : Int32)]) (rest := [.ref b95, .int (4 : Int32), .ref b88]) C R ft_callI_6_67 yi_Wire_init rfl (ct_Wire_init l G kd96 S94 _ _ _ hk_b95 hF) rfl hl.1 rfl (lv_room (Nat.le_of_ble_eq_true rfl)) ⟨Nat.le_of_ble_eq_true rfl, Nat.le_of_ble_eq_true rfl⟩ ⟨Nat.le_of_ble_eq_true rfl, Nat.le_of_ble_eq_true rfl⟩ d_FW_init_121 (fun H locs kd98 hxkd98 hP R => ?_)
            refine W.widen (k := 66) (n := 3059) (by decide) (by decide) ?_
            have hXkd98 := fw_X.tr hXkd96 hxkd98
            have hk_a0 := hxkd98 _ _ hk_a0
            have hk_b2 := hxkd98 _ _ hk_b2
            have hk_b6 := hxkd98 _ _ hk_b6
            have hk_b11 := hxkd98 _ _ hk_b11
            have hk_b17 := hxkd98 _ _ hk_b17
            have hk_b23 := hxkd98 _ _ hk_b23
            have hk_b27 := hxkd98 _ _ hk_b27
            have hk_b36 := hxkd98 _ _ hk_b36
            have hk_b43 := hxkd98 _ _ hk_b43
            have hk_b49 := hxkd98 _ _ hk_b49
            have hk_b56 := hxkd98 _ _ hk_b56
            have hk_b62 := hxkd98 _ _ hk_b62
            have hk_b69 := hxkd98 _ _ hk_b69
            have hk_b75 := hxkd98 _ _ hk_b75
            have hk_b82 := hxkd98 _ _ hk_b82
            have hk_b88 := hxkd98 _ _ hk_b88
            have hk_b95 := hxkd98 _ _ hk_b95
            obtain ⟨hi99, hE⟩ := fw_ifn hE
            refine fw_aast (K := 5) C R rfl (by decide) (by decide) hk_b88 hk_b95 hi99 d_FW_init_124 (fun H locs R => ?_)
            obtain ⟨S100, eS100, hE⟩ := fw_let_ex hE
            rw [← eS100] at R
            clear eS100
            refine lv_iinc (v := (5 : Int32)) (lv' := [(1, .int (5 : Int32)), (0, .ref a0)]) hx hb d_FW_init_125 hl (k := 0) rfl (by decide) (by decide) rfl (fun ls hl => ?_)
            refine lv_goto (tgt := 97) hx hb d_FW_init_128 (by decide) ?_
            refine lv_iload_n hx hb d_FW_init_97 rfl (lv_at hl 0 rfl) ?_
            refine lv_iconst (v := 5) hx hb d_FW_init_98 (by decide) ?_
            refine lv_icmp_ge (tgt := 131) hx hb d_FW_init_99 (by decide) (fun _ => ?_) (fun hc => absurd (by decide) hc)
            refine lv_iconst (v := 0) hx hb d_FW_init_131 (by decide) ?_
            refine lv_istore_n (lv' := [(1, .int (0 : Int32)), (0, .ref a0)]) hx hb d_FW_init_132 rfl hl (by decide) rfl (fun ls hl => ?_)
            refine lv_iload_n hx hb d_FW_init_133 rfl (lv_at hl 0 rfl) ?_
            refine lv_iconst (v := 4) hx hb d_FW_init_134 (by decide) ?_
            refine lv_icmp_ge (tgt := 153) hx hb d_FW_init_135 (by decide) (fun hc => absurd hc (by decide)) (fun _ => ?_)
            refine lv_aload_n hx hb d_FW_init_138 rfl (lv_at hl 1 rfl) ?_
            refine fw_getr C R ft_field_6_41 hk_a0 rfl rfl d_FW_init_139 (fun hq => ?_) (fun b101 hq hk_b101 => ?_)
            · replace hE := fw_om_none hq hE
              refine lv_iload_n hx hb d_FW_init_142 rfl (lv_at hl 0 rfl) ?_
              refine lv_sipush (v := 1000) hx hb d_FW_init_143 (by decide) ?_
              cases hE
            · replace hE := fw_om_some hq hE
              refine lv_iload_n hx hb d_FW_init_142 rfl (lv_at hl 0 rfl) ?_
              refine lv_sipush (v := 1000) hx hb d_FW_init_143 (by decide) ?_
              obtain ⟨hi102, hE⟩ := fw_ifn hE
              refine fw_iast C R (by decide) hk_b101 hi102 d_FW_init_146 (fun H locs R => ?_)
              obtain ⟨S103, eS103, hE⟩ := fw_let_ex hE
              rw [← eS103] at R
              clear eS103
              refine lv_iinc (v := (1 : Int32)) (lv' := [(1, .int (1 : Int32)), (0, .ref a0)]) hx hb d_FW_init_147 hl (k := 0) rfl (by decide) (by decide) rfl (fun ls hl => ?_)
              refine lv_goto (tgt := 133) hx hb d_FW_init_150 (by decide) ?_
              refine lv_iload_n hx hb d_FW_init_133 rfl (lv_at hl 0 rfl) ?_
              refine lv_iconst (v := 4) hx hb d_FW_init_134 (by decide) ?_
              refine lv_icmp_ge (tgt := 153) hx hb d_FW_init_135 (by decide) (fun hc => absurd hc (by decide)) (fun _ => ?_)
              refine lv_aload_n hx hb d_FW_init_138 rfl (lv_at hl 1 rfl) ?_
              refine fw_getr C R ft_field_6_41 hk_a0 rfl rfl d_FW_init_139 (fun hq => ?_) (fun b104 hq hk_b104 => ?_)
              · replace hE := fw_om_none hq hE
                refine lv_iload_n hx hb d_FW_init_142 rfl (lv_at hl 0 rfl) ?_
                refine lv_sipush (v := 1000) hx hb d_FW_init_143 (by decide) ?_
                cases hE
              · replace hE := fw_om_some hq hE
                refine lv_iload_n hx hb d_FW_init_142 rfl (lv_at hl 0 rfl) ?_
                refine lv_sipush (v := 1000) hx hb d_FW_init_143 (by decide) ?_
                obtain ⟨hi105, hE⟩ := fw_ifn hE
                refine fw_iast C R (by decide) hk_b104 hi105 d_FW_init_146 (fun H locs R => ?_)
                obtain ⟨S106, eS106, hE⟩ := fw_let_ex hE
                rw [← eS106] at R
                clear eS106
                refine lv_iinc (v := (2 : Int32)) (lv' := [(1, .int (2 : Int32)), (0, .ref a0)]) hx hb d_FW_init_147 hl (k := 0) rfl (by decide) (by decide) rfl (fun ls hl => ?_)
                refine lv_goto (tgt := 133) hx hb d_FW_init_150 (by decide) ?_
                refine lv_iload_n hx hb d_FW_init_133 rfl (lv_at hl 0 rfl) ?_
                refine lv_iconst (v := 4) hx hb d_FW_init_134 (by decide) ?_
                refine lv_icmp_ge (tgt := 153) hx hb d_FW_init_135 (by decide) (fun hc => absurd hc (by decide)) (fun _ => ?_)
                refine lv_aload_n hx hb d_FW_init_138 rfl (lv_at hl 1 rfl) ?_
                refine fw_getr C R ft_field_6_41 hk_a0 rfl rfl d_FW_init_139 (fun hq => ?_) (fun b107 hq hk_b107 => ?_)
                · replace hE := fw_om_none hq hE
                  refine lv_iload_n hx hb d_FW_init_142 rfl (lv_at hl 0 rfl) ?_
                  refine lv_sipush (v := 1000) hx hb d_FW_init_143 (by decide) ?_
                  cases hE
                · replace hE := fw_om_some hq hE
                  refine lv_iload_n hx hb d_FW_init_142 rfl (lv_at hl 0 rfl) ?_
                  refine lv_sipush (v := 1000) hx hb d_FW_init_143 (by decide) ?_
                  obtain ⟨hi108, hE⟩ := fw_ifn hE
                  refine fw_iast C R (by decide) hk_b107 hi108 d_FW_init_146 (fun H locs R => ?_)
                  obtain ⟨S109, eS109, hE⟩ := fw_let_ex hE
                  rw [← eS109] at R
                  clear eS109
                  refine lv_iinc (v := (3 : Int32)) (lv' := [(1, .int (3 : Int32)), (0, .ref a0)]) hx hb d_FW_init_147 hl (k := 0) rfl (by decide) (by decide) rfl (fun ls hl => ?_)
                  refine lv_goto (tgt := 133) hx hb d_FW_init_150 (by decide) ?_
                  refine lv_iload_n hx hb d_FW_init_133 rfl (lv_at hl 0 rfl) ?_
                  refine lv_iconst (v := 4) hx hb d_FW_init_134 (by decide) ?_
                  refine lv_icmp_ge (tgt := 153) hx hb d_FW_init_135 (by decide) (fun hc => absurd hc (by decide)) (fun _ => ?_)
                  refine lv_aload_n hx hb d_FW_init_138 rfl (lv_at hl 1 rfl) ?_
                  refine fw_getr C R ft_field_6_41 hk_a0 rfl rfl d_FW_init_139 (fun hq => ?_) (fun b110 hq hk_b110 => ?_)
                  · replace hE := fw_om_none hq hE
                    refine lv_iload_n hx hb d_FW_init_142 rfl (lv_at hl 0 rfl) ?_
                    refine lv_sipush (v := 1000) hx hb d_FW_init_143 (by decide) ?_
                    cases hE
                  · replace hE := fw_om_some hq hE
                    refine lv_iload_n hx hb d_FW_init_142 rfl (lv_at hl 0 rfl) ?_
                    refine lv_sipush (v := 1000) hx hb d_FW_init_143 (by decide) ?_
                    obtain ⟨hi111, hE⟩ := fw_ifn hE
                    refine fw_iast C R (by decide) hk_b110 hi111 d_FW_init_146 (fun H locs R => ?_)
                    obtain ⟨S112, eS112, hE⟩ := fw_let_ex hE
                    rw [← eS112] at R
                    clear eS112
                    refine lv_iinc (v := (4 : Int32)) (lv' := [(1, .int (4 : Int32)), (0, .ref a0)]) hx hb d_FW_init_147 hl (k := 0) rfl (by decide) (by decide) rfl (fun ls hl => ?_)
                    refine lv_goto (tgt := 133) hx hb d_FW_init_150 (by decide) ?_
                    refine lv_iload_n hx hb d_FW_init_133 rfl (lv_at hl 0 rfl) ?_
                    refine lv_iconst (v := 4) hx hb d_FW_init_134 (by decide) ?_
                    refine lv_icmp_ge (tgt := 153) hx hb d_FW_init_135 (by decide) (fun _ => ?_) (fun hc => absurd (by decide) hc)
                    cases hE
                    refine W.widen (k := 66) (n := 3059) (Nat.le_of_ble_eq_true rfl) (Nat.le_of_ble_eq_true rfl) ?_
                    exact fw_vret C hXkd98 trivial R d_FW_init_153
