set_option maxHeartbeats 4000000 in
set_option maxRecDepth 100000 in
theorem ct_FW_octet (l : Launch) (G : fw_G) (kd0 : Nat → Option Nat) (S0 : fw_S) (a0 : Nat) (p1 : Int32) (p2 : Int32) (r0 : Int32) (S' : fw_S) (hk_a0 : kd0 a0 = some 6) (hE : F_FW_octet a0 p1 p2 S0 = some (r0, S')) : fw_M l G y_FW_octet prog_1_method_7_code 4 (some .int) 6 139 0 0 kd0 S0 ([.ref a0, .int p1, .int p2] : List Value) (some (.int r0)) S' (fun k => k = kd0) := by
  refine fw_start (by decide) (Nat.le_of_ble_eq_true rfl) ?_
  intro p e s m below meth c ls C hnm R hl
  clear hnm
  have hx := C.1
  have hb := C.2.1
  have hl : lv_has ls 4 [(0, .ref a0), (1, .int p1), (2, .int p2)] := hl
  unfold F_FW_octet at hE
  refine lv_aload_n hx hb d_FW_octet_0 rfl (lv_at hl 0 rfl) ?_
  refine lv_iload_n hx hb d_FW_octet_1 rfl (lv_at hl 1 rfl) ?_
  obtain ⟨o1, hF, hE⟩ := fw_bind hE
  refine fw_callV (As := [.int p1]) (rest := []) C R ft_callV_6_119 yi_FW_wireAt ys_FW_wireAt (ct_FW_wireAt l G kd0 S0 _ _ _ hk_a0 hF) hk_a0 (by decide) rfl rfl hl.1 rfl (lv_room (Nat.le_of_ble_eq_true rfl)) ⟨Nat.le_of_ble_eq_true rfl, Nat.le_of_ble_eq_true rfl⟩ ⟨Nat.le_of_ble_eq_true rfl, Nat.le_of_ble_eq_true rfl⟩ d_FW_octet_2 (fun H locs kd2 hxkd2 hP R => ?_)
  obtain ⟨hP0, hP⟩ := hP
  rw [hP0] at hP R; clear hP0 hxkd2
  cases o1 with
  | none =>
    replace hE := fw_om_none rfl hE
    refine lv_astore_nN (lv' := [(3, .null), (0, .ref a0), (1, .int p1), (2, .int p2)]) hx hb d_FW_octet_5 rfl hl (by decide) rfl (fun ls hl => ?_)
    refine lv_aload_nN hx hb d_FW_octet_6 rfl (lv_at hl 0 rfl) ?_
    refine lv_ifnonnullN hx hb d_FW_octet_7 ?_
    refine lv_iconst (v := -1) hx hb d_FW_octet_10 (by decide) ?_
    cases hE
    exact fw_iret C fw_X.rf rfl R d_FW_octet_11
  | some b3 =>
    replace hE := fw_om_some rfl hE
    have hk_b3 := hP _ rfl
    clear hP
    refine lv_astore_n (lv' := [(3, .ref b3), (0, .ref a0), (1, .int p1), (2, .int p2)]) hx hb d_FW_octet_5 rfl hl (by decide) rfl (fun ls hl => ?_)
    refine lv_aload_n hx hb d_FW_octet_6 rfl (lv_at hl 0 rfl) ?_
    refine lv_ifnonnull (tgt := 12) hx hb d_FW_octet_7 (by decide) ?_
    refine lv_aload_n hx hb d_FW_octet_12 rfl (lv_at hl 0 rfl) ?_
    refine fw_get (v := .int (fw_g S0 b3 0)) C R ft_field_6_74 hk_b3 rfl d_FW_octet_13 ?_
    refine lv_if_ne (tgt := 22) hx hb d_FW_octet_16 (by decide) (fun hc => ?_) (fun hc => ?_)
    · replace hE := fw_if_f hc hE
      refine lv_aload_n hx hb d_FW_octet_22 rfl (lv_at hl 1 rfl) ?_
      refine lv_iload_n hx hb d_FW_octet_23 rfl (lv_at hl 2 rfl) ?_
      refine lv_aload_n hx hb d_FW_octet_24 rfl (lv_at hl 0 rfl) ?_
      refine lv_iload_n hx hb d_FW_octet_25 rfl (lv_at hl 3 rfl) ?_
      refine lv_sipush (v := 255) hx hb d_FW_octet_26 (by decide) ?_
      refine lv_iand hx hb d_FW_octet_29 ?_
      obtain ⟨x5, S4, hF, hE⟩ := fw_b2_ex hE
      refine fw_callV (As := [.int p1, .ref b3, .int (p2 &&& (255 : Int32))]) (rest := []) C R ft_callV_6_122 yi_FW_take ys_FW_take (ct_FW_take l G kd0 S0 _ _ _ _ _ _ hk_a0 hk_b3 hF) hk_a0 (by decide) rfl rfl hl.1 rfl (lv_room (Nat.le_of_ble_eq_true rfl)) ⟨Nat.le_of_ble_eq_true rfl, Nat.le_of_ble_eq_true rfl⟩ ⟨Nat.le_of_ble_eq_true rfl, Nat.le_of_ble_eq_true rfl⟩ d_FW_octet_30 (fun H locs kd6 hxkd6 hP R => ?_)
      rw [hP] at R; clear hP hxkd6
      cases hE
      exact fw_iret C fw_X.rf rfl R d_FW_octet_33
    · replace hE := fw_if_t hc hE
      refine lv_bipush (v := -2) hx hb d_FW_octet_19 (by decide) ?_
      cases hE
      exact fw_iret C fw_X.rf rfl R d_FW_octet_21
set_option maxHeartbeats 4000000 in
set_option maxRecDepth 100000 in
theorem ct_FW_out (l : Launch) (G : fw_G) (kd0 : Nat → Option Nat) (S0 : fw_S) (a0 : Nat) (p1 : Int32) (r0 : Int32) (S' : fw_S) (hk_a0 : kd0 a0 = some 6) (hE : F_FW_out a0 p1 S0 = some (r0, S')) : fw_M l G y_FW_out prog_1_method_8_code 3 (some .int) 1 21 0 0 kd0 S0 ([.ref a0, .int p1] : List Value) (some (.int r0)) S' (fun k => k = kd0) := by
  refine fw_start (by decide) (Nat.le_of_ble_eq_true rfl) ?_
  intro p e s m below meth c ls C hnm R hl
  clear hnm
  have hx := C.1
  have hb := C.2.1
  have hl : lv_has ls 3 [(0, .ref a0), (1, .int p1)] := hl
  unfold F_FW_out at hE
  refine lv_aload_n hx hb d_FW_out_0 rfl (lv_at hl 0 rfl) ?_
  refine lv_iload_n hx hb d_FW_out_1 rfl (lv_at hl 1 rfl) ?_
  obtain ⟨o1, hF, hE⟩ := fw_bind hE
  refine fw_callV (As := [.int p1]) (rest := []) C R ft_callV_6_119 yi_FW_wireAt ys_FW_wireAt (ct_FW_wireAt l G kd0 S0 _ _ _ hk_a0 hF) hk_a0 (by decide) rfl rfl hl.1 rfl (lv_room (Nat.le_of_ble_eq_true rfl)) ⟨Nat.le_of_ble_eq_true rfl, Nat.le_of_ble_eq_true rfl⟩ ⟨Nat.le_of_ble_eq_true rfl, Nat.le_of_ble_eq_true rfl⟩ d_FW_out_2 (fun H locs kd2 hxkd2 hP R => ?_)
  obtain ⟨hP0, hP⟩ := hP
  rw [hP0] at hP R; clear hP0 hxkd2
  cases o1 with
  | none =>
    replace hE := fw_om_none rfl hE
    refine lv_astore_nN (lv' := [(2, .null), (0, .ref a0), (1, .int p1)]) hx hb d_FW_out_5 rfl hl (by decide) rfl (fun ls hl => ?_)
    refine lv_aload_nN hx hb d_FW_out_6 rfl (lv_at hl 0 rfl) ?_
    refine lv_ifnonnullN hx hb d_FW_out_7 ?_
    refine lv_iconst (v := -1) hx hb d_FW_out_10 (by decide) ?_
    refine lv_goto (tgt := 18) hx hb d_FW_out_11 (by decide) ?_
    cases hE
    exact fw_iret C fw_X.rf rfl R d_FW_out_18
  | some b3 =>
    replace hE := fw_om_some rfl hE
    have hk_b3 := hP _ rfl
    clear hP
    refine lv_astore_n (lv' := [(2, .ref b3), (0, .ref a0), (1, .int p1)]) hx hb d_FW_out_5 rfl hl (by decide) rfl (fun ls hl => ?_)
    refine lv_aload_n hx hb d_FW_out_6 rfl (lv_at hl 0 rfl) ?_
    refine lv_ifnonnull (tgt := 14) hx hb d_FW_out_7 (by decide) ?_
    refine lv_aload_n hx hb d_FW_out_14 rfl (lv_at hl 0 rfl) ?_
    obtain ⟨x5, S4, hF, hE⟩ := fw_b2_ex hE
    refine fw_callV (As := []) (rest := []) C R ft_callV_6_126 yi_Wire_takeFirst ys_Wire_takeFirst (ct_Wire_takeFirst l G kd0 S0 _ _ _ hk_b3 hF) hk_b3 (by decide) rfl rfl hl.1 rfl (lv_room (Nat.le_of_ble_eq_true rfl)) ⟨Nat.le_of_ble_eq_true rfl, Nat.le_of_ble_eq_true rfl⟩ ⟨Nat.le_of_ble_eq_true rfl, Nat.le_of_ble_eq_true rfl⟩ d_FW_out_15 (fun H locs kd6 hxkd6 hP R => ?_)
    rw [hP] at R; clear hP hxkd6
    cases hE
    exact fw_iret C fw_X.rf rfl R d_FW_out_18
set_option maxHeartbeats 4000000 in
set_option maxRecDepth 100000 in
theorem ct_FW_loop (l : Launch) (G : fw_G) (kd0 : Nat → Option Nat) (S0 : fw_S) (a0 : Nat) (p1 : Int32) (p2 : Int32) (r0 : Int32) (S' : fw_S) (hk_a0 : kd0 a0 = some 6) (hE : F_FW_loop a0 p1 p2 S0 = some (r0, S')) : fw_M l G y_FW_loop prog_1_method_9_code 8 (some .int) 6 139 0 0 kd0 S0 ([.ref a0, .int p1, .int p2] : List Value) (some (.int r0)) S' (fun k => k = kd0) := by
  refine fw_start (by decide) (Nat.le_of_ble_eq_true rfl) ?_
  intro p e s m below meth c ls C hnm R hl
  clear hnm
  have hx := C.1
  have hb := C.2.1
  have hl : lv_has ls 8 [(0, .ref a0), (1, .int p1), (2, .int p2)] := hl
  have h_l86 : ∀ (n : Nat), ∀ v0 : Nat, ∀ v1 : Int32, ∀ v3 : Nat, ∀ v4 : Nat, ∀ v6 : Int32, ∀ v7 : Int32, ∀ S0 : fw_S, kd0 v0 = some 6 → kd0 v3 = some 5 → kd0 v4 = some 5 → ∀ (H : Heap) (locs : List Loc) (ls : Array Slot), fw_R G kd0 S0 H locs → lv_has ls 8 [(0, .ref v0), (1, .int v1), (3, .ref v3), (4, .ref v4), (6, .int v6), (7, .int v7)] → F_FW_loop_l86 n v0 v1 v3 v4 v6 v7 S0 = some (r0, S') → W p l e { frames := 6, cells := 0, slots := 0, locals := 139 } s m ([.ref a0, .int p1, .int p2] : List Value).toArray below meth c H locs 0 0 (MQ below (fw_Q G kd0 (some (.int r0)) S' (fun k => k = kd0)) ([.ref a0, .int p1, .int p2] : List Value).toArray s 0 0 (fw_A G)) (F0 m 86 ls []) := by
    intro n
    induction n with
    | zero =>
      intro v0 v1 v3 v4 v6 v7 S0 hk_v0 hk_v3 hk_v4 H locs ls R hl hE
      rw [F_FW_loop_l86] at hE
      cases hE
    | succ n ih =>
      intro v0 v1 v3 v4 v6 v7 S0 hk_v0 hk_v3 hk_v4 H locs ls R hl hE
      rw [F_FW_loop_l86] at hE
      refine lv_iload hx hb d_FW_loop_86 (lv_at hl 5 rfl) ?_
      refine lv_iload hx hb d_FW_loop_88 (lv_at hl 4 rfl) ?_
      refine lv_icmp_ge (tgt := 118) hx hb d_FW_loop_90 (by decide) (fun hc => ?_) (fun hc => ?_)
      · replace hE := fw_if_t hc hE
        refine lv_aload hx hb d_FW_loop_118 (lv_at hl 3 rfl) ?_
        obtain ⟨S12, hF, hE⟩ := fw_bind hE
        refine fw_callV (As := []) (rest := []) C R ft_callV_6_139 yi_Wire_clearOut ys_Wire_clearOut (ct_Wire_clearOut l G kd0 S0 _ _ hk_v4 hF) hk_v4 (by decide) rfl rfl hl.1 rfl (lv_room (Nat.le_of_ble_eq_true rfl)) ⟨Nat.le_of_ble_eq_true rfl, Nat.le_of_ble_eq_true rfl⟩ ⟨Nat.le_of_ble_eq_true rfl, Nat.le_of_ble_eq_true rfl⟩ d_FW_loop_120 (fun H locs kd13 hxkd13 hP R => ?_)
        rw [hP] at R; clear hP hxkd13
        refine lv_iload hx hb d_FW_loop_123 (lv_at hl 5 rfl) ?_
        cases hE
        exact fw_iret C fw_X.rf rfl R d_FW_loop_125
      · replace hE := fw_if_f hc hE
        refine lv_aload_n hx hb d_FW_loop_93 rfl (lv_at hl 2 rfl) ?_
        refine fw_get (v := .int (fw_g S0 v3 0)) C R ft_field_6_74 hk_v3 rfl d_FW_loop_94 ?_
        refine lv_if_eq (tgt := 118) hx hb d_FW_loop_97 (by decide) (fun hc => ?_) (fun hc => ?_)
        · replace hE := fw_if_t hc hE
          refine lv_aload hx hb d_FW_loop_118 (lv_at hl 3 rfl) ?_
          obtain ⟨S14, hF, hE⟩ := fw_bind hE
          refine fw_callV (As := []) (rest := []) C R ft_callV_6_139 yi_Wire_clearOut ys_Wire_clearOut (ct_Wire_clearOut l G kd0 S0 _ _ hk_v4 hF) hk_v4 (by decide) rfl rfl hl.1 rfl (lv_room (Nat.le_of_ble_eq_true rfl)) ⟨Nat.le_of_ble_eq_true rfl, Nat.le_of_ble_eq_true rfl⟩ ⟨Nat.le_of_ble_eq_true rfl, Nat.le_of_ble_eq_true rfl⟩ d_FW_loop_120 (fun H locs kd15 hxkd15 hP R => ?_)
          rw [hP] at R; clear hP hxkd15
          refine lv_iload hx hb d_FW_loop_123 (lv_at hl 5 rfl) ?_
          cases hE
          exact fw_iret C fw_X.rf rfl R d_FW_loop_125
        · replace hE := fw_if_f hc hE
          refine lv_aload_n hx hb d_FW_loop_100 rfl (lv_at hl 0 rfl) ?_
          refine lv_iload_n hx hb d_FW_loop_101 rfl (lv_at hl 1 rfl) ?_
          refine lv_aload_n hx hb d_FW_loop_102 rfl (lv_at hl 2 rfl) ?_
          refine lv_aload hx hb d_FW_loop_103 (lv_at hl 3 rfl) ?_
          obtain ⟨x17, S16, hF, hE⟩ := fw_b2_ex hE
          refine fw_callV (As := []) (rest := [.ref v3, .int v1, .ref v0]) C R ft_callV_6_126 yi_Wire_takeFirst ys_Wire_takeFirst (ct_Wire_takeFirst l G kd0 S0 _ _ _ hk_v4 hF) hk_v4 (by decide) rfl rfl hl.1 rfl (lv_room (Nat.le_of_ble_eq_true rfl)) ⟨Nat.le_of_ble_eq_true rfl, Nat.le_of_ble_eq_true rfl⟩ ⟨Nat.le_of_ble_eq_true rfl, Nat.le_of_ble_eq_true rfl⟩ d_FW_loop_105 (fun H locs kd18 hxkd18 hP R => ?_)
          rw [hP] at R; clear hP hxkd18
          obtain ⟨x20, S19, hF, hE⟩ := fw_b2_ex hE
          refine fw_callV (As := [.int v1, .ref v3, .int x17]) (rest := []) C R ft_callV_6_122 yi_FW_take ys_FW_take (ct_FW_take l G kd0 S16 _ _ _ _ _ _ hk_v0 hk_v3 hF) hk_v0 (by decide) rfl rfl hl.1 rfl (lv_room (Nat.le_of_ble_eq_true rfl)) ⟨Nat.le_of_ble_eq_true rfl, Nat.le_of_ble_eq_true rfl⟩ ⟨Nat.le_of_ble_eq_true rfl, Nat.le_of_ble_eq_true rfl⟩ d_FW_loop_108 (fun H locs kd21 hxkd21 hP R => ?_)
          rw [hP] at R; clear hP hxkd21
          refine lv_pop hx hb d_FW_loop_111 rfl ?_
          refine lv_iinc (v := (v7 + (1 : Int32))) (lv' := [(7, .int (v7 + (1 : Int32))), (0, .ref v0), (1, .int v1), (3, .ref v3), (4, .ref v4), (6, .int v6)]) hx hb d_FW_loop_112 hl (k := 5) rfl rfl (by decide) rfl (fun ls hl => ?_)
          refine lv_goto (tgt := 86) hx hb d_FW_loop_115 (by decide) ?_
          exact ih _ _ _ _ _ _ _ hk_v0 hk_v3 hk_v4 _ _ _ R (lv_sub hl [1, 2, 3, 4, 5, 0] rfl) hE
  have h_l51 : ∀ (n : Nat), ∀ v0 : Nat, ∀ v1 : Int32, ∀ v3 : Nat, ∀ v4 : Nat, ∀ v5 : Int32, ∀ v6 : Int32, ∀ S0 : fw_S, kd0 v0 = some 6 → kd0 v3 = some 5 → kd0 v4 = some 5 → ∀ (H : Heap) (locs : List Loc) (ls : Array Slot), fw_R G kd0 S0 H locs → lv_has ls 8 [(0, .ref v0), (1, .int v1), (3, .ref v3), (4, .ref v4), (5, .int v5), (6, .int v6)] → F_FW_loop_l51 n v0 v1 v3 v4 v5 v6 S0 = some (r0, S') → W p l e { frames := 6, cells := 0, slots := 0, locals := 139 } s m ([.ref a0, .int p1, .int p2] : List Value).toArray below meth c H locs 0 0 (MQ below (fw_Q G kd0 (some (.int r0)) S' (fun k => k = kd0)) ([.ref a0, .int p1, .int p2] : List Value).toArray s 0 0 (fw_A G)) (F0 m 51 ls []) := by
    intro n
    induction n with
    | zero =>
      intro v0 v1 v3 v4 v5 v6 S0 hk_v0 hk_v3 hk_v4 H locs ls R hl hE
      rw [F_FW_loop_l51] at hE
      cases hE
    | succ n ih =>
      intro v0 v1 v3 v4 v5 v6 S0 hk_v0 hk_v3 hk_v4 H locs ls R hl hE
      rw [F_FW_loop_l51] at hE
      refine lv_iload hx hb d_FW_loop_51 (lv_at hl 5 rfl) ?_
      refine lv_iload hx hb d_FW_loop_53 (lv_at hl 4 rfl) ?_
      refine lv_icmp_ge (tgt := 76) hx hb d_FW_loop_55 (by decide) (fun hc => ?_) (fun hc => ?_)
      · replace hE := fw_if_t hc hE
        refine lv_aload hx hb d_FW_loop_76 (lv_at hl 3 rfl) ?_
        refine fw_get (v := .int (fw_g S0 v4 3)) C R ft_field_6_130 hk_v4 rfl d_FW_loop_78 ?_
        refine lv_topi (fun x11 ex11 => ?_)
        replace hE := fw_let_use ex11 hE
        clear ex11
        refine lv_istore (lv' := [(6, .int x11), (0, .ref v0), (1, .int v1), (3, .ref v3), (4, .ref v4), (5, .int v5)]) hx hb d_FW_loop_81 hl (by decide) rfl (fun ls hl => ?_)
        refine lv_iconst (v := 0) hx hb d_FW_loop_83 (by decide) ?_
        refine lv_istore (lv' := [(7, .int (0 : Int32)), (6, .int x11), (0, .ref v0), (1, .int v1), (3, .ref v3), (4, .ref v4), (5, .int v5)]) hx hb d_FW_loop_84 hl (by decide) rfl (fun ls hl => ?_)
        exact h_l86 _ _ _ _ _ _ _ _ hk_v0 hk_v3 hk_v4 _ _ _ R (lv_sub hl [2, 3, 4, 5, 1, 0] rfl) hE
      · replace hE := fw_if_f hc hE
        refine lv_aload_n hx hb d_FW_loop_58 rfl (lv_at hl 0 rfl) ?_
        refine lv_iconst (v := 4) hx hb d_FW_loop_59 (by decide) ?_
        refine lv_aload hx hb d_FW_loop_60 (lv_at hl 3 rfl) ?_
        refine lv_aload_n hx hb d_FW_loop_62 rfl (lv_at hl 2 rfl) ?_
        obtain ⟨x23, S22, hF, hE⟩ := fw_b2_ex hE
        refine fw_callV (As := []) (rest := [.ref v4, .int (4 : Int32), .ref v0]) C R ft_callV_6_126 yi_Wire_takeFirst ys_Wire_takeFirst (ct_Wire_takeFirst l G kd0 S0 _ _ _ hk_v3 hF) hk_v3 (by decide) rfl rfl hl.1 rfl (lv_room (Nat.le_of_ble_eq_true rfl)) ⟨Nat.le_of_ble_eq_true rfl, Nat.le_of_ble_eq_true rfl⟩ ⟨Nat.le_of_ble_eq_true rfl, Nat.le_of_ble_eq_true rfl⟩ d_FW_loop_63 (fun H locs kd24 hxkd24 hP R => ?_)
        rw [hP] at R; clear hP hxkd24
        obtain ⟨x26, S25, hF, hE⟩ := fw_b2_ex hE
        refine fw_callV (As := [.int (4 : Int32), .ref v4, .int x23]) (rest := []) C R ft_callV_6_122 yi_FW_take ys_FW_take (ct_FW_take l G kd0 S22 _ _ _ _ _ _ hk_v0 hk_v4 hF) hk_v0 (by decide) rfl rfl hl.1 rfl (lv_room (Nat.le_of_ble_eq_true rfl)) ⟨Nat.le_of_ble_eq_true rfl, Nat.le_of_ble_eq_true rfl⟩ ⟨Nat.le_of_ble_eq_true rfl, Nat.le_of_ble_eq_true rfl⟩ d_FW_loop_66 (fun H locs kd27 hxkd27 hP R => ?_)
        rw [hP] at R; clear hP hxkd27
        refine lv_pop hx hb d_FW_loop_69 rfl ?_
        refine lv_iinc (v := (v6 + (1 : Int32))) (lv' := [(6, .int (v6 + (1 : Int32))), (0, .ref v0), (1, .int v1), (3, .ref v3), (4, .ref v4), (5, .int v5)]) hx hb d_FW_loop_70 hl (k := 5) rfl rfl (by decide) rfl (fun ls hl => ?_)
        refine lv_goto (tgt := 51) hx hb d_FW_loop_73 (by decide) ?_
        exact ih _ _ _ _ _ _ _ hk_v0 hk_v3 hk_v4 _ _ _ R (lv_sub hl [1, 2, 3, 4, 5, 0] rfl) hE
  unfold F_FW_loop at hE
  refine lv_aload_n hx hb d_FW_loop_0 rfl (lv_at hl 0 rfl) ?_
  refine lv_iload_n hx hb d_FW_loop_1 rfl (lv_at hl 1 rfl) ?_
  obtain ⟨o1, hF, hE⟩ := fw_bind hE
  refine fw_callV (As := [.int p1]) (rest := []) C R ft_callV_6_70 yi_FW_houseWire ys_FW_houseWire (ct_FW_houseWire l G kd0 S0 _ _ _ hk_a0 hF) hk_a0 (by decide) rfl rfl hl.1 rfl (lv_room (Nat.le_of_ble_eq_true rfl)) ⟨Nat.le_of_ble_eq_true rfl, Nat.le_of_ble_eq_true rfl⟩ ⟨Nat.le_of_ble_eq_true rfl, Nat.le_of_ble_eq_true rfl⟩ d_FW_loop_2 (fun H locs kd2 hxkd2 hP R => ?_)
  obtain ⟨hP0, hP⟩ := hP
  rw [hP0] at hP R; clear hP0 hxkd2
  cases o1 with
  | none =>
    replace hE := fw_om_none rfl hE
    refine lv_astore_nN (lv' := [(3, .null), (0, .ref a0), (1, .int p1), (2, .int p2)]) hx hb d_FW_loop_5 rfl hl (by decide) rfl (fun ls hl => ?_)
    refine lv_aload_n hx hb d_FW_loop_6 rfl (lv_at hl 1 rfl) ?_
    refine lv_iconst (v := 4) hx hb d_FW_loop_7 (by decide) ?_
    obtain ⟨o4, hF, hE⟩ := fw_bind hE
    refine fw_callV (As := [.int (4 : Int32)]) (rest := []) C R ft_callV_6_119 yi_FW_wireAt ys_FW_wireAt (ct_FW_wireAt l G kd0 S0 _ _ _ hk_a0 hF) hk_a0 (by decide) rfl rfl hl.1 rfl (lv_room (Nat.le_of_ble_eq_true rfl)) ⟨Nat.le_of_ble_eq_true rfl, Nat.le_of_ble_eq_true rfl⟩ ⟨Nat.le_of_ble_eq_true rfl, Nat.le_of_ble_eq_true rfl⟩ d_FW_loop_8 (fun H locs kd5 hxkd5 hP R => ?_)
    obtain ⟨hP0, hP⟩ := hP
    rw [hP0] at hP R; clear hP0 hxkd5
    cases o4 with
    | none =>
      replace hE := fw_om_none rfl hE
      refine lv_astoreN (lv' := [(4, .null), (3, .null), (0, .ref a0), (1, .int p1), (2, .int p2)]) hx hb d_FW_loop_11 hl (by decide) rfl (fun ls hl => ?_)
      refine lv_aload_nN hx hb d_FW_loop_13 rfl (lv_at hl 1 rfl) ?_
      refine lv_ifnullN (tgt := 26) hx hb d_FW_loop_14 (by decide) ?_
      refine lv_iconst (v := -1) hx hb d_FW_loop_26 (by decide) ?_
      cases hE
      exact fw_iret C fw_X.rf rfl R d_FW_loop_27
    | some b6 =>
      replace hE := fw_om_some rfl hE
      have hk_b6 := hP _ rfl
      clear hP
      refine lv_astore (lv' := [(4, .ref b6), (3, .null), (0, .ref a0), (1, .int p1), (2, .int p2)]) hx hb d_FW_loop_11 hl (by decide) rfl (fun ls hl => ?_)
      refine lv_aload_nN hx hb d_FW_loop_13 rfl (lv_at hl 1 rfl) ?_
      refine lv_ifnullN (tgt := 26) hx hb d_FW_loop_14 (by decide) ?_
      refine lv_iconst (v := -1) hx hb d_FW_loop_26 (by decide) ?_
      cases hE
      exact fw_iret C fw_X.rf rfl R d_FW_loop_27
  | some b3 =>
    replace hE := fw_om_some rfl hE
    have hk_b3 := hP _ rfl
    clear hP
    refine lv_astore_n (lv' := [(3, .ref b3), (0, .ref a0), (1, .int p1), (2, .int p2)]) hx hb d_FW_loop_5 rfl hl (by decide) rfl (fun ls hl => ?_)
    refine lv_aload_n hx hb d_FW_loop_6 rfl (lv_at hl 1 rfl) ?_
    refine lv_iconst (v := 4) hx hb d_FW_loop_7 (by decide) ?_
    obtain ⟨o7, hF, hE⟩ := fw_bind hE
    refine fw_callV (As := [.int (4 : Int32)]) (rest := []) C R ft_callV_6_119 yi_FW_wireAt ys_FW_wireAt (ct_FW_wireAt l G kd0 S0 _ _ _ hk_a0 hF) hk_a0 (by decide) rfl rfl hl.1 rfl (lv_room (Nat.le_of_ble_eq_true rfl)) ⟨Nat.le_of_ble_eq_true rfl, Nat.le_of_ble_eq_true rfl⟩ ⟨Nat.le_of_ble_eq_true rfl, Nat.le_of_ble_eq_true rfl⟩ d_FW_loop_8 (fun H locs kd8 hxkd8 hP R => ?_)
    obtain ⟨hP0, hP⟩ := hP
    rw [hP0] at hP R; clear hP0 hxkd8
    cases o7 with
    | none =>
      replace hE := fw_om_none rfl hE
      refine lv_astoreN (lv' := [(4, .null), (3, .ref b3), (0, .ref a0), (1, .int p1), (2, .int p2)]) hx hb d_FW_loop_11 hl (by decide) rfl (fun ls hl => ?_)
      refine lv_aload_n hx hb d_FW_loop_13 rfl (lv_at hl 1 rfl) ?_
      refine lv_ifnull hx hb d_FW_loop_14 ?_
      refine lv_aloadN hx hb d_FW_loop_17 (lv_at hl 0 rfl) ?_
      refine lv_ifnullN (tgt := 26) hx hb d_FW_loop_19 (by decide) ?_
      refine lv_iconst (v := -1) hx hb d_FW_loop_26 (by decide) ?_
      cases hE
      exact fw_iret C fw_X.rf rfl R d_FW_loop_27
    | some b9 =>
      replace hE := fw_om_some rfl hE
      have hk_b9 := hP _ rfl
      clear hP
      refine lv_astore (lv' := [(4, .ref b9), (3, .ref b3), (0, .ref a0), (1, .int p1), (2, .int p2)]) hx hb d_FW_loop_11 hl (by decide) rfl (fun ls hl => ?_)
      refine lv_aload_n hx hb d_FW_loop_13 rfl (lv_at hl 1 rfl) ?_
      refine lv_ifnull hx hb d_FW_loop_14 ?_
      refine lv_aload hx hb d_FW_loop_17 (lv_at hl 0 rfl) ?_
      refine lv_ifnull hx hb d_FW_loop_19 ?_
      refine lv_iload_n hx hb d_FW_loop_22 rfl (lv_at hl 4 rfl) ?_
      refine lv_if_ge (tgt := 28) hx hb d_FW_loop_23 (by decide) (fun hc => ?_) (fun hc => ?_)
      · replace hE := fw_if_t hc hE
        refine lv_aload_n hx hb d_FW_loop_28 rfl (lv_at hl 1 rfl) ?_
        refine fw_get (v := .int (fw_g S0 b3 0)) C R ft_field_6_74 hk_b3 rfl d_FW_loop_29 ?_
        refine lv_if_ne (tgt := 38) hx hb d_FW_loop_32 (by decide) (fun hc => ?_) (fun hc => ?_)
        · replace hE := fw_if_f hc hE
          refine lv_iload_n hx hb d_FW_loop_38 rfl (lv_at hl 4 rfl) ?_
          refine lv_aload_n hx hb d_FW_loop_39 rfl (lv_at hl 1 rfl) ?_
          refine fw_get (v := .int (fw_g S0 b3 3)) C R ft_field_6_130 hk_b3 rfl d_FW_loop_40 ?_
          refine fw_min C ft_min_6_133 mmin_1 mmin_2 mmin_3 hl.1 (Nat.le_of_ble_eq_true rfl) (Nat.le_of_ble_eq_true rfl) (Nat.le_of_ble_eq_true rfl) (Nat.le_of_ble_eq_true rfl) d_FW_loop_43 ?_
          refine lv_topi (fun x10 ex10 => ?_)
          replace hE := fw_let_use ex10 hE
          clear ex10
          refine lv_istore (lv' := [(5, .int x10), (4, .ref b9), (3, .ref b3), (0, .ref a0), (1, .int p1), (2, .int p2)]) hx hb d_FW_loop_46 hl (by decide) rfl (fun ls hl => ?_)
          refine lv_iconst (v := 0) hx hb d_FW_loop_48 (by decide) ?_
          refine lv_istore (lv' := [(6, .int (0 : Int32)), (5, .int x10), (4, .ref b9), (3, .ref b3), (0, .ref a0), (1, .int p1), (2, .int p2)]) hx hb d_FW_loop_49 hl (by decide) rfl (fun ls hl => ?_)
          exact h_l51 _ _ _ _ _ _ _ _ hk_a0 hk_b3 hk_b9 _ _ _ R (lv_sub hl [4, 5, 3, 2, 1, 0] rfl) hE
        · replace hE := fw_if_t hc hE
          refine lv_bipush (v := -2) hx hb d_FW_loop_35 (by decide) ?_
          cases hE
          exact fw_iret C fw_X.rf rfl R d_FW_loop_37
      · replace hE := fw_if_f hc hE
        refine lv_iconst (v := -1) hx hb d_FW_loop_26 (by decide) ?_
        cases hE
        exact fw_iret C fw_X.rf rfl R d_FW_loop_27
set_option maxHeartbeats 4000000 in
set_option maxRecDepth 100000 in
theorem ct_FW_earliestDue (l : Launch) (G : fw_G) (kd0 : Nat → Option Nat) (S0 : fw_S) (a0 : Nat) (r0 : Int32) (hk_a0 : kd0 a0 = some 6) (hE : F_FW_earliestDue a0 S0 = some r0) : fw_M l G y_FW_earliestDue prog_1_method_28_code 4 (some .int) 1 21 0 0 kd0 S0 ([.ref a0] : List Value) (some (.int r0)) S0 (fun k => k = kd0) := by
  refine fw_start (by decide) (Nat.le_of_ble_eq_true rfl) ?_
  intro p e s m below meth c ls C hnm R hl
  clear hnm
  have hx := C.1
  have hb := C.2.1
  have hl : lv_has ls 4 [(0, .ref a0)] := hl
  have h_l5 : ∀ (n : Nat), ∀ v0 : Nat, ∀ v1 : Int32, ∀ v2 : Int32, kd0 v0 = some 6 → ∀ (H : Heap) (locs : List Loc) (ls : Array Slot), fw_R G kd0 S0 H locs → lv_has ls 4 [(0, .ref v0), (1, .int v1), (2, .int v2)] → F_FW_earliestDue_l5 S0 n v0 v1 v2 = some r0 → W p l e { frames := 1, cells := 0, slots := 0, locals := 21 } s m ([.ref a0] : List Value).toArray below meth c H locs 0 0 (MQ below (fw_Q G kd0 (some (.int r0)) S0 (fun k => k = kd0)) ([.ref a0] : List Value).toArray s 0 0 (fw_A G)) (F0 m 5 ls []) := by
    intro n
    induction n with
    | zero =>
      intro v0 v1 v2 hk_v0 H locs ls R hl hE
      rw [F_FW_earliestDue_l5] at hE
      cases hE
    | succ n ih =>
      intro v0 v1 v2 hk_v0 H locs ls R hl hE
      rw [F_FW_earliestDue_l5] at hE
      refine lv_iload_n hx hb d_FW_earliestDue_5 rfl (lv_at hl 2 rfl) ?_
      refine lv_aload_n hx hb d_FW_earliestDue_6 rfl (lv_at hl 0 rfl) ?_
      refine fw_get (v := .int (fw_g S0 v0 2)) C R ft_field_6_21 hk_v0 rfl d_FW_earliestDue_7 ?_
      refine lv_icmp_ge (tgt := 50) hx hb d_FW_earliestDue_10 (by decide) (fun hc => ?_) (fun hc => ?_)
      · replace hE := fw_if_t hc hE
        refine lv_iload_n hx hb d_FW_earliestDue_50 rfl (lv_at hl 1 rfl) ?_
        cases hE
        exact fw_iret C fw_X.rf rfl R d_FW_earliestDue_51
      · replace hE := fw_if_f hc hE
        refine lv_aload_n hx hb d_FW_earliestDue_13 rfl (lv_at hl 0 rfl) ?_
        refine lv_iload_n hx hb d_FW_earliestDue_14 rfl (lv_at hl 2 rfl) ?_
        obtain ⟨o1, hF, hE⟩ := fw_bind hE
        refine fw_callV (As := [.int v2]) (rest := []) C R ft_callV_6_78 yi_FW_requestAt ys_FW_requestAt (ct_FW_requestAt l G kd0 S0 _ _ _ hk_v0 hF) hk_v0 (by decide) rfl rfl hl.1 rfl (lv_room (Nat.le_of_ble_eq_true rfl)) ⟨Nat.le_of_ble_eq_true rfl, Nat.le_of_ble_eq_true rfl⟩ ⟨Nat.le_of_ble_eq_true rfl, Nat.le_of_ble_eq_true rfl⟩ d_FW_earliestDue_15 (fun H locs kd2 hxkd2 hP R => ?_)
        obtain ⟨hP0, hP⟩ := hP
        rw [hP0] at hP R; clear hP0 hxkd2
        cases o1 with
        | none =>
          replace hE := fw_om_none rfl hE
          refine lv_astore_nN (lv' := [(3, .null), (0, .ref v0), (1, .int v1), (2, .int v2)]) hx hb d_FW_earliestDue_18 rfl hl (by decide) rfl (fun ls hl => ?_)
          refine lv_aload_nN hx hb d_FW_earliestDue_19 rfl (lv_at hl 0 rfl) ?_
          refine lv_ifnullN (tgt := 44) hx hb d_FW_earliestDue_20 (by decide) ?_
          refine lv_iinc (v := (v2 + (1 : Int32))) (lv' := [(2, .int (v2 + (1 : Int32))), (3, .null), (0, .ref v0), (1, .int v1)]) hx hb d_FW_earliestDue_44 hl (k := 3) rfl rfl (by decide) rfl (fun ls hl => ?_)
          refine lv_goto (tgt := 5) hx hb d_FW_earliestDue_47 (by decide) ?_
          exact ih _ _ _ hk_v0 _ _ _ R (lv_sub hl [2, 3, 0] rfl) hE
        | some b3 =>
          replace hE := fw_om_some rfl hE
          have hk_b3 := hP _ rfl
          clear hP
          refine lv_astore_n (lv' := [(3, .ref b3), (0, .ref v0), (1, .int v1), (2, .int v2)]) hx hb d_FW_earliestDue_18 rfl hl (by decide) rfl (fun ls hl => ?_)
          refine lv_aload_n hx hb d_FW_earliestDue_19 rfl (lv_at hl 0 rfl) ?_
          refine lv_ifnull hx hb d_FW_earliestDue_20 ?_
          refine lv_aload_n hx hb d_FW_earliestDue_23 rfl (lv_at hl 0 rfl) ?_
          refine fw_get (v := .int (fw_g S0 b3 14)) C R ft_field_6_85 hk_b3 rfl d_FW_earliestDue_24 ?_
          refine lv_if_ne (tgt := 44) hx hb d_FW_earliestDue_27 (by decide) (fun hc => ?_) (fun hc => ?_)
          · replace hE := fw_if_f hc hE
            refine lv_iinc (v := (v2 + (1 : Int32))) (lv' := [(2, .int (v2 + (1 : Int32))), (3, .ref b3), (0, .ref v0), (1, .int v1)]) hx hb d_FW_earliestDue_44 hl (k := 3) rfl rfl (by decide) rfl (fun ls hl => ?_)
            refine lv_goto (tgt := 5) hx hb d_FW_earliestDue_47 (by decide) ?_
            exact ih _ _ _ hk_v0 _ _ _ R (lv_sub hl [2, 3, 0] rfl) hE
          · replace hE := fw_if_t hc hE
            refine lv_iload_n hx hb d_FW_earliestDue_30 rfl (lv_at hl 2 rfl) ?_
            refine lv_aload_n hx hb d_FW_earliestDue_31 rfl (lv_at hl 0 rfl) ?_
            refine fw_get (v := .int (fw_g S0 b3 12)) C R ft_field_6_191 hk_b3 rfl d_FW_earliestDue_32 ?_
            refine lv_aload_n hx hb d_FW_earliestDue_35 rfl (lv_at hl 1 rfl) ?_
            refine fw_get (v := .int (fw_g S0 v0 8)) C R ft_field_6_52 hk_v0 rfl d_FW_earliestDue_36 ?_
            refine lv_iadd hx hb d_FW_earliestDue_39 ?_
            refine fw_min C ft_min_6_133 mmin_1 mmin_2 mmin_3 hl.1 (Nat.le_of_ble_eq_true rfl) (Nat.le_of_ble_eq_true rfl) (Nat.le_of_ble_eq_true rfl) (Nat.le_of_ble_eq_true rfl) d_FW_earliestDue_40 ?_
            refine lv_topi (fun x4 ex4 => ?_)
            replace hE := fw_let_use ex4 hE
            clear ex4
            refine lv_istore_n (lv' := [(1, .int x4), (3, .ref b3), (0, .ref v0), (2, .int v2)]) hx hb d_FW_earliestDue_43 rfl hl (by decide) rfl (fun ls hl => ?_)
            refine lv_iinc (v := (v2 + (1 : Int32))) (lv' := [(2, .int (v2 + (1 : Int32))), (1, .int x4), (3, .ref b3), (0, .ref v0)]) hx hb d_FW_earliestDue_44 hl (k := 3) rfl rfl (by decide) rfl (fun ls hl => ?_)
            refine lv_goto (tgt := 5) hx hb d_FW_earliestDue_47 (by decide) ?_
            exact ih _ _ _ hk_v0 _ _ _ R (lv_sub hl [3, 1, 0] rfl) hE
  unfold F_FW_earliestDue at hE
  refine lv_ldc (v := 2147483647) hx hb C.2.2.2.1 (C.2.2.2.2.1 _ ft_ldc_6_254) d_FW_earliestDue_0 ?_
  refine lv_istore_n (lv' := [(1, .int (2147483647 : Int32)), (0, .ref a0)]) hx hb d_FW_earliestDue_2 rfl hl (by decide) rfl (fun ls hl => ?_)
  refine lv_iconst (v := 0) hx hb d_FW_earliestDue_3 (by decide) ?_
  refine lv_istore_n (lv' := [(2, .int (0 : Int32)), (1, .int (2147483647 : Int32)), (0, .ref a0)]) hx hb d_FW_earliestDue_4 rfl hl (by decide) rfl (fun ls hl => ?_)
  exact h_l5 _ _ _ _ hk_a0 _ _ _ R (lv_sub hl [2, 1, 0] rfl) hE
set_option maxHeartbeats 4000000 in
set_option maxRecDepth 100000 in
theorem ct_FW_repeat (l : Launch) (G : fw_G) (kd0 : Nat → Option Nat) (S0 : fw_S) (a0 : Nat) (p1 : Nat) (S' : fw_S) (hk_a0 : kd0 a0 = some 6) (hk_p1 : kd0 p1 = some 3) (hE : F_FW_repeat a0 p1 S0 = some S') : fw_M l G y_FW_repeat prog_1_method_30_code 3 none 3 67 0 0 kd0 S0 ([.ref a0, .ref p1] : List Value) none S' (fun k => k = kd0) := by
  refine fw_start (by decide) (Nat.le_of_ble_eq_true rfl) ?_
  intro p e s m below meth c ls C hnm R hl
  clear hnm
  have hx := C.1
  have hb := C.2.1
  have hl : lv_has ls 3 [(0, .ref a0), (1, .ref p1)] := hl
  unfold F_FW_repeat at hE
  refine lv_aload_n hx hb d_FW_repeat_0 rfl (lv_at hl 0 rfl) ?_
  refine lv_aload_n hx hb d_FW_repeat_1 rfl (lv_at hl 1 rfl) ?_
  refine fw_get (v := .int (fw_g S0 p1 0)) C R ft_field_6_82 hk_p1 rfl d_FW_repeat_2 ?_
  obtain ⟨o1, hF, hE⟩ := fw_bind hE
  refine fw_callV (As := [.int (fw_g S0 p1 0)]) (rest := []) C R ft_callV_6_70 yi_FW_houseWire ys_FW_houseWire (ct_FW_houseWire l G kd0 S0 _ _ _ hk_a0 hF) hk_a0 (by decide) rfl rfl hl.1 rfl (lv_room (Nat.le_of_ble_eq_true rfl)) ⟨Nat.le_of_ble_eq_true rfl, Nat.le_of_ble_eq_true rfl⟩ ⟨Nat.le_of_ble_eq_true rfl, Nat.le_of_ble_eq_true rfl⟩ d_FW_repeat_5 (fun H locs kd2 hxkd2 hP R => ?_)
  obtain ⟨hP0, hP⟩ := hP
  rw [hP0] at hP R; clear hP0 hxkd2
  cases o1 with
  | none =>
    replace hE := fw_om_none rfl hE
    refine lv_astore_nN (lv' := [(2, .null), (0, .ref a0), (1, .ref p1)]) hx hb d_FW_repeat_8 rfl hl (by decide) rfl (fun ls hl => ?_)
    refine lv_aload_nN hx hb d_FW_repeat_9 rfl (lv_at hl 0 rfl) ?_
    refine lv_ifnonnullN hx hb d_FW_repeat_10 ?_
    cases hE
    exact fw_vret C fw_X.rf rfl R d_FW_repeat_13
  | some b3 =>
    replace hE := fw_om_some rfl hE
    have hk_b3 := hP _ rfl
    clear hP
    refine lv_astore_n (lv' := [(2, .ref b3), (0, .ref a0), (1, .ref p1)]) hx hb d_FW_repeat_8 rfl hl (by decide) rfl (fun ls hl => ?_)
    refine lv_aload_n hx hb d_FW_repeat_9 rfl (lv_at hl 0 rfl) ?_
    refine lv_ifnonnull (tgt := 14) hx hb d_FW_repeat_10 (by decide) ?_
    refine lv_aload_n hx hb d_FW_repeat_14 rfl (lv_at hl 2 rfl) ?_
    refine lv_aload_n hx hb d_FW_repeat_15 rfl (lv_at hl 1 rfl) ?_
    refine fw_get (v := .int (fw_g S0 a0 10)) C R ft_field_6_58 hk_a0 rfl d_FW_repeat_16 ?_
    refine fw_puti C R ft_field_6_191 rfl hk_p1 d_FW_repeat_19 (fun H locs R => ?_)
    obtain ⟨S4, eS4, hE⟩ := fw_let_ex hE
    rw [← eS4] at R
    clear eS4
    refine lv_aload_n hx hb d_FW_repeat_22 rfl (lv_at hl 2 rfl) ?_
    refine lv_dup hx hb d_FW_repeat_23 rfl ?_
    refine fw_get (v := .int (fw_g S4 p1 13)) C R ft_field_6_160 hk_p1 rfl d_FW_repeat_24 ?_
    refine lv_iconst (v := 1) hx hb d_FW_repeat_27 (by decide) ?_
    refine lv_iadd hx hb d_FW_repeat_28 ?_
    refine fw_puti C R ft_field_6_160 rfl hk_p1 d_FW_repeat_29 (fun H locs R => ?_)
    obtain ⟨S5, eS5, hE⟩ := fw_let_ex hE
    rw [← eS5] at R
    clear eS5
    refine lv_aload_n hx hb d_FW_repeat_32 rfl (lv_at hl 1 rfl) ?_
    refine lv_aload_n hx hb d_FW_repeat_33 rfl (lv_at hl 2 rfl) ?_
    refine fw_getr C R ft_field_6_194 hk_p1 rfl rfl d_FW_repeat_34 (fun hq => ?_) (fun b6 hq hk_b6 => ?_)
    · replace hE := fw_om_none hq hE
      refine lv_aload_n hx hb d_FW_repeat_37 rfl (lv_at hl 0 rfl) ?_
      cases hE
    · replace hE := fw_om_some hq hE
      refine lv_aload_n hx hb d_FW_repeat_37 rfl (lv_at hl 0 rfl) ?_
      obtain ⟨x8, S7, hF, hE⟩ := fw_b2_ex hE
      refine fw_callV (As := [.ref b6, .ref b3]) (rest := []) C R ft_callV_6_198 yi_FW_send ys_FW_send (ct_FW_send l G kd0 S5 _ _ _ _ _ hk_a0 hk_b6 hk_b3 hF) hk_a0 (by decide) rfl rfl hl.1 rfl (lv_room (Nat.le_of_ble_eq_true rfl)) ⟨Nat.le_of_ble_eq_true rfl, Nat.le_of_ble_eq_true rfl⟩ ⟨Nat.le_of_ble_eq_true rfl, Nat.le_of_ble_eq_true rfl⟩ d_FW_repeat_38 (fun H locs kd9 hxkd9 hP R => ?_)
      rw [hP] at R; clear hP hxkd9
      refine lv_pop hx hb d_FW_repeat_41 rfl ?_
      cases hE
      exact fw_vret C fw_X.rf rfl R d_FW_repeat_42
set_option maxHeartbeats 4000000 in
set_option maxRecDepth 100000 in
theorem ct_FW_settleDue (l : Launch) (G : fw_G) (kd0 : Nat → Option Nat) (S0 : fw_S) (a0 : Nat) (r0 : Int32) (S' : fw_S) (hk_a0 : kd0 a0 = some 6) (hE : F_FW_settleDue a0 S0 = some (r0, S')) : fw_M l G y_FW_settleDue prog_1_method_29_code 4 (some .int) 4 89 0 0 kd0 S0 ([.ref a0] : List Value) (some (.int r0)) S' (fun k => k = kd0) := by
  refine fw_start (by decide) (Nat.le_of_ble_eq_true rfl) ?_
  intro p e s m below meth c ls C hnm R hl
  clear hnm
  have hx := C.1
  have hb := C.2.1
  have hl : lv_has ls 4 [(0, .ref a0)] := hl
  have h_l4 : ∀ (n : Nat), ∀ v0 : Nat, ∀ v1 : Int32, ∀ v2 : Int32, ∀ S0 : fw_S, kd0 v0 = some 6 → ∀ (H : Heap) (locs : List Loc) (ls : Array Slot), fw_R G kd0 S0 H locs → lv_has ls 4 [(0, .ref v0), (1, .int v1), (2, .int v2)] → F_FW_settleDue_l4 n v0 v1 v2 S0 = some (r0, S') → W p l e { frames := 4, cells := 0, slots := 0, locals := 89 } s m ([.ref a0] : List Value).toArray below meth c H locs 0 0 (MQ below (fw_Q G kd0 (some (.int r0)) S' (fun k => k = kd0)) ([.ref a0] : List Value).toArray s 0 0 (fw_A G)) (F0 m 4 ls []) := by
    intro n
    induction n with
    | zero =>
      intro v0 v1 v2 S0 hk_v0 H locs ls R hl hE
      rw [F_FW_settleDue_l4] at hE
      cases hE
    | succ n ih =>
      intro v0 v1 v2 S0 hk_v0 H locs ls R hl hE
      rw [F_FW_settleDue_l4] at hE
      refine lv_iload_n hx hb d_FW_settleDue_4 rfl (lv_at hl 2 rfl) ?_
      refine lv_aload_n hx hb d_FW_settleDue_5 rfl (lv_at hl 0 rfl) ?_
      refine fw_get (v := .int (fw_g S0 v0 2)) C R ft_field_6_21 hk_v0 rfl d_FW_settleDue_6 ?_
      refine lv_icmp_ge (tgt := 81) hx hb d_FW_settleDue_9 (by decide) (fun hc => ?_) (fun hc => ?_)
      · replace hE := fw_if_t hc hE
        refine lv_iload_n hx hb d_FW_settleDue_81 rfl (lv_at hl 1 rfl) ?_
        cases hE
        exact fw_iret C fw_X.rf rfl R d_FW_settleDue_82
      · replace hE := fw_if_f hc hE
        refine lv_aload_n hx hb d_FW_settleDue_12 rfl (lv_at hl 0 rfl) ?_
        refine lv_iload_n hx hb d_FW_settleDue_13 rfl (lv_at hl 2 rfl) ?_
        obtain ⟨o1, hF, hE⟩ := fw_bind hE
        refine fw_callV (As := [.int v2]) (rest := []) C R ft_callV_6_78 yi_FW_requestAt ys_FW_requestAt (ct_FW_requestAt l G kd0 S0 _ _ _ hk_v0 hF) hk_v0 (by decide) rfl rfl hl.1 rfl (lv_room (Nat.le_of_ble_eq_true rfl)) ⟨Nat.le_of_ble_eq_true rfl, Nat.le_of_ble_eq_true rfl⟩ ⟨Nat.le_of_ble_eq_true rfl, Nat.le_of_ble_eq_true rfl⟩ d_FW_settleDue_14 (fun H locs kd2 hxkd2 hP R => ?_)
        obtain ⟨hP0, hP⟩ := hP
        rw [hP0] at hP R; clear hP0 hxkd2
        cases o1 with
        | none =>
          replace hE := fw_om_none rfl hE
          refine lv_astore_nN (lv' := [(3, .null), (0, .ref v0), (1, .int v1), (2, .int v2)]) hx hb d_FW_settleDue_17 rfl hl (by decide) rfl (fun ls hl => ?_)
          refine lv_aload_nN hx hb d_FW_settleDue_18 rfl (lv_at hl 0 rfl) ?_
          refine lv_ifnullN (tgt := 75) hx hb d_FW_settleDue_19 (by decide) ?_
          refine lv_iinc (v := (v2 + (1 : Int32))) (lv' := [(2, .int (v2 + (1 : Int32))), (3, .null), (0, .ref v0), (1, .int v1)]) hx hb d_FW_settleDue_75 hl (k := 3) rfl rfl (by decide) rfl (fun ls hl => ?_)
          refine lv_goto (tgt := 4) hx hb d_FW_settleDue_78 (by decide) ?_
          exact ih _ _ _ _ hk_v0 _ _ _ R (lv_sub hl [2, 3, 0] rfl) hE
        | some b3 =>
          replace hE := fw_om_some rfl hE
          have hk_b3 := hP _ rfl
          clear hP
          refine lv_astore_n (lv' := [(3, .ref b3), (0, .ref v0), (1, .int v1), (2, .int v2)]) hx hb d_FW_settleDue_17 rfl hl (by decide) rfl (fun ls hl => ?_)
          refine lv_aload_n hx hb d_FW_settleDue_18 rfl (lv_at hl 0 rfl) ?_
          refine lv_ifnull hx hb d_FW_settleDue_19 ?_
          refine lv_aload_n hx hb d_FW_settleDue_22 rfl (lv_at hl 0 rfl) ?_
          refine fw_get (v := .int (fw_g S0 b3 14)) C R ft_field_6_85 hk_b3 rfl d_FW_settleDue_23 ?_
          refine lv_if_ne (tgt := 75) hx hb d_FW_settleDue_26 (by decide) (fun hc => ?_) (fun hc => ?_)
          · replace hE := fw_if_f hc hE
            refine lv_iinc (v := (v2 + (1 : Int32))) (lv' := [(2, .int (v2 + (1 : Int32))), (3, .ref b3), (0, .ref v0), (1, .int v1)]) hx hb d_FW_settleDue_75 hl (k := 3) rfl rfl (by decide) rfl (fun ls hl => ?_)
            refine lv_goto (tgt := 4) hx hb d_FW_settleDue_78 (by decide) ?_
            exact ih _ _ _ _ hk_v0 _ _ _ R (lv_sub hl [2, 3, 0] rfl) hE
          · replace hE := fw_if_t hc hE
            refine lv_aload_n hx hb d_FW_settleDue_29 rfl (lv_at hl 1 rfl) ?_
            refine fw_get (v := .int (fw_g S0 v0 10)) C R ft_field_6_58 hk_v0 rfl d_FW_settleDue_30 ?_
            refine lv_aload_n hx hb d_FW_settleDue_33 rfl (lv_at hl 0 rfl) ?_
            refine fw_get (v := .int (fw_g S0 b3 12)) C R ft_field_6_191 hk_b3 rfl d_FW_settleDue_34 ?_
            refine lv_isub hx hb d_FW_settleDue_37 ?_
            refine lv_aload_n hx hb d_FW_settleDue_38 rfl (lv_at hl 1 rfl) ?_
            refine fw_get (v := .int (fw_g S0 v0 8)) C R ft_field_6_52 hk_v0 rfl d_FW_settleDue_39 ?_
            refine lv_icmp_ge (tgt := 48) hx hb d_FW_settleDue_42 (by decide) (fun hc => ?_) (fun hc => ?_)
            · replace hE := fw_if_t hc hE
              refine lv_aload_n hx hb d_FW_settleDue_48 rfl (lv_at hl 0 rfl) ?_
              refine fw_get (v := .int (fw_g S0 b3 13)) C R ft_field_6_160 hk_b3 rfl d_FW_settleDue_49 ?_
              refine lv_aload_n hx hb d_FW_settleDue_52 rfl (lv_at hl 1 rfl) ?_
              refine fw_get (v := .int (fw_g S0 v0 9)) C R ft_field_6_55 hk_v0 rfl d_FW_settleDue_53 ?_
              refine lv_icmp_lt (tgt := 70) hx hb d_FW_settleDue_56 (by decide) (fun hc => ?_) (fun hc => ?_)
              · replace hE := fw_if_t hc hE
                refine lv_aload_n hx hb d_FW_settleDue_70 rfl (lv_at hl 1 rfl) ?_
                refine lv_aload_n hx hb d_FW_settleDue_71 rfl (lv_at hl 0 rfl) ?_
                obtain ⟨S4, hF, hE⟩ := fw_bind hE
                refine fw_callV (As := [.ref b3]) (rest := []) C R ft_callV_6_255 yi_FW_repeat ys_FW_repeat (ct_FW_repeat l G kd0 S0 _ _ _ hk_v0 hk_b3 hF) hk_v0 (by decide) rfl rfl hl.1 rfl (lv_room (Nat.le_of_ble_eq_true rfl)) ⟨Nat.le_of_ble_eq_true rfl, Nat.le_of_ble_eq_true rfl⟩ ⟨Nat.le_of_ble_eq_true rfl, Nat.le_of_ble_eq_true rfl⟩ d_FW_settleDue_72 (fun H locs kd5 hxkd5 hP R => ?_)
                rw [hP] at R; clear hP hxkd5
                refine lv_iinc (v := (v2 + (1 : Int32))) (lv' := [(2, .int (v2 + (1 : Int32))), (3, .ref b3), (0, .ref v0), (1, .int v1)]) hx hb d_FW_settleDue_75 hl (k := 3) rfl rfl (by decide) rfl (fun ls hl => ?_)
                refine lv_goto (tgt := 4) hx hb d_FW_settleDue_78 (by decide) ?_
                exact ih _ _ _ _ hk_v0 _ _ _ R (lv_sub hl [2, 3, 0] rfl) hE
              · replace hE := fw_if_f hc hE
                refine lv_aload_n hx hb d_FW_settleDue_59 rfl (lv_at hl 0 rfl) ?_
                refine lv_iconst (v := 1) hx hb d_FW_settleDue_60 (by decide) ?_
                obtain ⟨S6, hF, hE⟩ := fw_bind hE
                refine fw_callV (As := [.int (1 : Int32)]) (rest := []) C R ft_callV_6_236 yi_Request_fail ys_Request_fail (ct_Request_fail l G kd0 S0 _ _ _ hk_b3 hF) hk_b3 (by decide) rfl rfl hl.1 rfl (lv_room (Nat.le_of_ble_eq_true rfl)) ⟨Nat.le_of_ble_eq_true rfl, Nat.le_of_ble_eq_true rfl⟩ ⟨Nat.le_of_ble_eq_true rfl, Nat.le_of_ble_eq_true rfl⟩ d_FW_settleDue_61 (fun H locs kd7 hxkd7 hP R => ?_)
                rw [hP] at R; clear hP hxkd7
                refine lv_iinc (v := (v1 + (1 : Int32))) (lv' := [(1, .int (v1 + (1 : Int32))), (3, .ref b3), (0, .ref v0), (2, .int v2)]) hx hb d_FW_settleDue_64 hl (k := 2) rfl rfl (by decide) rfl (fun ls hl => ?_)
                refine lv_goto (tgt := 75) hx hb d_FW_settleDue_67 (by decide) ?_
                refine lv_iinc (v := (v2 + (1 : Int32))) (lv' := [(2, .int (v2 + (1 : Int32))), (1, .int (v1 + (1 : Int32))), (3, .ref b3), (0, .ref v0)]) hx hb d_FW_settleDue_75 hl (k := 3) rfl rfl (by decide) rfl (fun ls hl => ?_)
                refine lv_goto (tgt := 4) hx hb d_FW_settleDue_78 (by decide) ?_
                exact ih _ _ _ _ hk_v0 _ _ _ R (lv_sub hl [3, 1, 0] rfl) hE
            · replace hE := fw_if_f hc hE
              refine lv_goto (tgt := 75) hx hb d_FW_settleDue_45 (by decide) ?_
              refine lv_iinc (v := (v2 + (1 : Int32))) (lv' := [(2, .int (v2 + (1 : Int32))), (3, .ref b3), (0, .ref v0), (1, .int v1)]) hx hb d_FW_settleDue_75 hl (k := 3) rfl rfl (by decide) rfl (fun ls hl => ?_)
              refine lv_goto (tgt := 4) hx hb d_FW_settleDue_78 (by decide) ?_
              exact ih _ _ _ _ hk_v0 _ _ _ R (lv_sub hl [2, 3, 0] rfl) hE
  unfold F_FW_settleDue at hE
  refine lv_iconst (v := 0) hx hb d_FW_settleDue_0 (by decide) ?_
  refine lv_istore_n (lv' := [(1, .int (0 : Int32)), (0, .ref a0)]) hx hb d_FW_settleDue_1 rfl hl (by decide) rfl (fun ls hl => ?_)
  refine lv_iconst (v := 0) hx hb d_FW_settleDue_2 (by decide) ?_
  refine lv_istore_n (lv' := [(2, .int (0 : Int32)), (1, .int (0 : Int32)), (0, .ref a0)]) hx hb d_FW_settleDue_3 rfl hl (by decide) rfl (fun ls hl => ?_)
  exact h_l4 _ _ _ _ _ hk_a0 _ _ _ R (lv_sub hl [2, 1, 0] rfl) hE
set_option maxHeartbeats 4000000 in
set_option maxRecDepth 100000 in
theorem ct_FW_tick (l : Launch) (G : fw_G) (kd0 : Nat → Option Nat) (S0 : fw_S) (a0 : Nat) (p1 : Int32) (r0 : Int32) (S' : fw_S) (hk_a0 : kd0 a0 = some 6) (hE : F_FW_tick a0 p1 S0 = some (r0, S')) : fw_M l G y_FW_tick prog_1_method_10_code 5 (some .int) 5 112 0 0 kd0 S0 ([.ref a0, .int p1] : List Value) (some (.int r0)) S' (fun k => k = kd0) := by
  refine fw_start (by decide) (Nat.le_of_ble_eq_true rfl) ?_
  intro p e s m below meth c ls C hnm R hl
  clear hnm
  have hx := C.1
  have hb := C.2.1
  have hl : lv_has ls 5 [(0, .ref a0), (1, .int p1)] := hl
  have h_l23 : ∀ (n : Nat), ∀ v0 : Nat, ∀ v1 : Int32, ∀ v2 : Int32, ∀ v3 : Int32, ∀ v4 : Int32, ∀ S0 : fw_S, kd0 v0 = some 6 → ∀ (H : Heap) (locs : List Loc) (ls : Array Slot), fw_R G kd0 S0 H locs → lv_has ls 5 [(0, .ref v0), (1, .int v1), (2, .int v2), (3, .int v3), (4, .int v4)] → F_FW_tick_l23 n v0 v1 v2 v3 v4 S0 = some (r0, S') → W p l e { frames := 5, cells := 0, slots := 0, locals := 112 } s m ([.ref a0, .int p1] : List Value).toArray below meth c H locs 0 0 (MQ below (fw_Q G kd0 (some (.int r0)) S' (fun k => k = kd0)) ([.ref a0, .int p1] : List Value).toArray s 0 0 (fw_A G)) (F0 m 23 ls []) := by
    intro n
    induction n with
    | zero =>
      intro v0 v1 v2 v3 v4 S0 hk_v0 H locs ls R hl hE
      rw [F_FW_tick_l23] at hE
      cases hE
    | succ n ih =>
      intro v0 v1 v2 v3 v4 S0 hk_v0 H locs ls R hl hE
      rw [F_FW_tick_l23] at hE
      refine lv_iload hx hb d_FW_tick_23 (lv_at hl 4 rfl) ?_
      refine lv_iload_n hx hb d_FW_tick_25 rfl (lv_at hl 1 rfl) ?_
      refine lv_icmp_ge (tgt := 65) hx hb d_FW_tick_26 (by decide) (fun hc => ?_) (fun hc => ?_)
      · replace hE := fw_if_t hc hE
        refine lv_iload_n hx hb d_FW_tick_65 rfl (lv_at hl 2 rfl) ?_
        cases hE
        exact fw_iret C fw_X.rf rfl R d_FW_tick_66
      · replace hE := fw_if_f hc hE
        refine lv_aload_n hx hb d_FW_tick_29 rfl (lv_at hl 0 rfl) ?_
        refine lv_dup hx hb d_FW_tick_30 rfl ?_
        refine fw_get (v := .int (fw_g S0 v0 10)) C R ft_field_6_58 hk_v0 rfl d_FW_tick_31 ?_
        refine lv_iconst (v := 1) hx hb d_FW_tick_34 (by decide) ?_
        refine lv_iadd hx hb d_FW_tick_35 ?_
        refine fw_puti C R ft_field_6_58 rfl hk_v0 d_FW_tick_36 (fun H locs R => ?_)
        obtain ⟨S3, eS3, hE⟩ := fw_let_ex hE
        rw [← eS3] at R
        clear eS3
        refine lv_aload_n hx hb d_FW_tick_39 rfl (lv_at hl 0 rfl) ?_
        refine fw_get (v := .int (fw_g S3 v0 10)) C R ft_field_6_58 hk_v0 rfl d_FW_tick_40 ?_
        refine lv_iload_n hx hb d_FW_tick_43 rfl (lv_at hl 3 rfl) ?_
        refine lv_icmp_lt (tgt := 59) hx hb d_FW_tick_44 (by decide) (fun hc => ?_) (fun hc => ?_)
        · replace hE := fw_if_t hc hE
          refine lv_iinc (v := (v4 + (1 : Int32))) (lv' := [(4, .int (v4 + (1 : Int32))), (0, .ref v0), (1, .int v1), (2, .int v2), (3, .int v3)]) hx hb d_FW_tick_59 hl (k := 4) rfl rfl (by decide) rfl (fun ls hl => ?_)
          refine lv_goto (tgt := 23) hx hb d_FW_tick_62 (by decide) ?_
          exact ih _ _ _ _ _ _ hk_v0 _ _ _ R (lv_sub hl [1, 2, 3, 4, 0] rfl) hE
        · replace hE := fw_if_f hc hE
          refine lv_iload_n hx hb d_FW_tick_47 rfl (lv_at hl 2 rfl) ?_
          refine lv_aload_n hx hb d_FW_tick_48 rfl (lv_at hl 0 rfl) ?_
          obtain ⟨x5, S4, hF, hE⟩ := fw_b2_ex hE
          refine fw_callV (As := []) (rest := [.int v2]) C R ft_callV_6_145 yi_FW_settleDue ys_FW_settleDue (ct_FW_settleDue l G kd0 S3 _ _ _ hk_v0 hF) hk_v0 (by decide) rfl rfl hl.1 rfl (lv_room (Nat.le_of_ble_eq_true rfl)) ⟨Nat.le_of_ble_eq_true rfl, Nat.le_of_ble_eq_true rfl⟩ ⟨Nat.le_of_ble_eq_true rfl, Nat.le_of_ble_eq_true rfl⟩ d_FW_tick_49 (fun H locs kd6 hxkd6 hP R => ?_)
          rw [hP] at R; clear hP hxkd6
          refine lv_iadd hx hb d_FW_tick_52 ?_
          refine lv_topi (fun x7 ex7 => ?_)
          replace hE := fw_let_use ex7 hE
          clear ex7
          refine lv_istore_n (lv' := [(2, .int x7), (0, .ref v0), (1, .int v1), (3, .int v3), (4, .int v4)]) hx hb d_FW_tick_53 rfl hl (by decide) rfl (fun ls hl => ?_)
          refine lv_aload_n hx hb d_FW_tick_54 rfl (lv_at hl 1 rfl) ?_
          obtain ⟨x8, hF, hE⟩ := fw_bind hE
          refine fw_callV (As := []) (rest := []) C R ft_callV_6_142 yi_FW_earliestDue ys_FW_earliestDue (ct_FW_earliestDue l G kd0 S4 _ _ hk_v0 hF) hk_v0 (by decide) rfl rfl hl.1 rfl (lv_room (Nat.le_of_ble_eq_true rfl)) ⟨Nat.le_of_ble_eq_true rfl, Nat.le_of_ble_eq_true rfl⟩ ⟨Nat.le_of_ble_eq_true rfl, Nat.le_of_ble_eq_true rfl⟩ d_FW_tick_55 (fun H locs kd9 hxkd9 hP R => ?_)
          rw [hP] at R; clear hP hxkd9
          refine lv_istore_n (lv' := [(3, .int x8), (2, .int x7), (0, .ref v0), (1, .int v1), (4, .int v4)]) hx hb d_FW_tick_58 rfl hl (by decide) rfl (fun ls hl => ?_)
          refine lv_iinc (v := (v4 + (1 : Int32))) (lv' := [(4, .int (v4 + (1 : Int32))), (3, .int x8), (2, .int x7), (0, .ref v0), (1, .int v1)]) hx hb d_FW_tick_59 hl (k := 4) rfl rfl (by decide) rfl (fun ls hl => ?_)
          refine lv_goto (tgt := 23) hx hb d_FW_tick_62 (by decide) ?_
          exact ih _ _ _ _ _ _ hk_v0 _ _ _ R (lv_sub hl [3, 4, 2, 1, 0] rfl) hE
  unfold F_FW_tick at hE
  refine lv_iload_n hx hb d_FW_tick_0 rfl (lv_at hl 1 rfl) ?_
  refine lv_if_lt (tgt := 11) hx hb d_FW_tick_1 (by decide) (fun hc => ?_) (fun hc => ?_)
  · replace hE := fw_if_t hc hE
    refine lv_iconst (v := -1) hx hb d_FW_tick_11 (by decide) ?_
    cases hE
    exact fw_iret C fw_X.rf rfl R d_FW_tick_12
  · replace hE := fw_if_f hc hE
    refine lv_iload_n hx hb d_FW_tick_4 rfl (lv_at hl 1 rfl) ?_
    refine lv_sipush (v := 1000) hx hb d_FW_tick_5 (by decide) ?_
    refine lv_icmp_le (tgt := 13) hx hb d_FW_tick_8 (by decide) (fun hc => ?_) (fun hc => ?_)
    · replace hE := fw_if_t hc hE
      refine lv_iconst (v := 0) hx hb d_FW_tick_13 (by decide) ?_
      refine lv_istore_n (lv' := [(2, .int (0 : Int32)), (0, .ref a0), (1, .int p1)]) hx hb d_FW_tick_14 rfl hl (by decide) rfl (fun ls hl => ?_)
      refine lv_aload_n hx hb d_FW_tick_15 rfl (lv_at hl 1 rfl) ?_
      obtain ⟨x1, hF, hE⟩ := fw_bind hE
      refine fw_callV (As := []) (rest := []) C R ft_callV_6_142 yi_FW_earliestDue ys_FW_earliestDue (ct_FW_earliestDue l G kd0 S0 _ _ hk_a0 hF) hk_a0 (by decide) rfl rfl hl.1 rfl (lv_room (Nat.le_of_ble_eq_true rfl)) ⟨Nat.le_of_ble_eq_true rfl, Nat.le_of_ble_eq_true rfl⟩ ⟨Nat.le_of_ble_eq_true rfl, Nat.le_of_ble_eq_true rfl⟩ d_FW_tick_16 (fun H locs kd2 hxkd2 hP R => ?_)
      rw [hP] at R; clear hP hxkd2
      refine lv_istore_n (lv' := [(3, .int x1), (2, .int (0 : Int32)), (0, .ref a0), (1, .int p1)]) hx hb d_FW_tick_19 rfl hl (by decide) rfl (fun ls hl => ?_)
      refine lv_iconst (v := 0) hx hb d_FW_tick_20 (by decide) ?_
      refine lv_istore (lv' := [(4, .int (0 : Int32)), (3, .int x1), (2, .int (0 : Int32)), (0, .ref a0), (1, .int p1)]) hx hb d_FW_tick_21 hl (by decide) rfl (fun ls hl => ?_)
      exact h_l23 _ _ _ _ _ _ _ hk_a0 _ _ _ R (lv_sub hl [3, 4, 2, 1, 0] rfl) hE
    · replace hE := fw_if_f hc hE
      refine lv_iconst (v := -1) hx hb d_FW_tick_11 (by decide) ?_
      cases hE
      exact fw_iret C fw_X.rf rfl R d_FW_tick_12
set_option maxHeartbeats 4000000 in
set_option maxRecDepth 100000 in
theorem ct_FW_told (l : Launch) (G : fw_G) (kd0 : Nat → Option Nat) (S0 : fw_S) (a0 : Nat) (p1 : Int32) (p2 : Int32) (r0 : Int32) (hk_a0 : kd0 a0 = some 6) (hE : F_FW_told a0 p1 p2 S0 = some r0) : fw_M l G y_FW_told prog_1_method_11_code 4 (some .int) 2 44 0 0 kd0 S0 ([.ref a0, .int p1, .int p2] : List Value) (some (.int r0)) S0 (fun k => k = kd0) := by
  refine fw_start (by decide) (Nat.le_of_ble_eq_true rfl) ?_
  intro p e s m below meth c ls C hnm R hl
  clear hnm
  have hx := C.1
  have hb := C.2.1
  have hl : lv_has ls 4 [(0, .ref a0), (1, .int p1), (2, .int p2)] := hl
  unfold F_FW_told at hE
  refine lv_aload_n hx hb d_FW_told_0 rfl (lv_at hl 0 rfl) ?_
  refine lv_iload_n hx hb d_FW_told_1 rfl (lv_at hl 1 rfl) ?_
  obtain ⟨o1, hF, hE⟩ := fw_bind hE
  refine fw_callV (As := [.int p1]) (rest := []) C R ft_callV_6_78 yi_FW_requestAt ys_FW_requestAt (ct_FW_requestAt l G kd0 S0 _ _ _ hk_a0 hF) hk_a0 (by decide) rfl rfl hl.1 rfl (lv_room (Nat.le_of_ble_eq_true rfl)) ⟨Nat.le_of_ble_eq_true rfl, Nat.le_of_ble_eq_true rfl⟩ ⟨Nat.le_of_ble_eq_true rfl, Nat.le_of_ble_eq_true rfl⟩ d_FW_told_2 (fun H locs kd2 hxkd2 hP R => ?_)
  obtain ⟨hP0, hP⟩ := hP
  rw [hP0] at hP R; clear hP0 hxkd2
  cases o1 with
  | none =>
    replace hE := fw_om_none rfl hE
    refine lv_astore_nN (lv' := [(3, .null), (0, .ref a0), (1, .int p1), (2, .int p2)]) hx hb d_FW_told_5 rfl hl (by decide) rfl (fun ls hl => ?_)
    refine lv_aload_nN hx hb d_FW_told_6 rfl (lv_at hl 0 rfl) ?_
    refine lv_ifnonnullN hx hb d_FW_told_7 ?_
    refine lv_iconst (v := -1) hx hb d_FW_told_10 (by decide) ?_
    cases hE
    exact fw_iret C fw_X.rf rfl R d_FW_told_11
  | some b3 =>
    replace hE := fw_om_some rfl hE
    have hk_b3 := hP _ rfl
    clear hP
    refine lv_astore_n (lv' := [(3, .ref b3), (0, .ref a0), (1, .int p1), (2, .int p2)]) hx hb d_FW_told_5 rfl hl (by decide) rfl (fun ls hl => ?_)
    refine lv_aload_n hx hb d_FW_told_6 rfl (lv_at hl 0 rfl) ?_
    refine lv_ifnonnull (tgt := 12) hx hb d_FW_told_7 (by decide) ?_
    refine lv_iload_n hx hb d_FW_told_12 rfl (lv_at hl 3 rfl) ?_
    by_cases hs7 : p2 = (0 : Int32)
    · replace hE := fw_if_t hs7 hE
      refine lv_tableIn (off := 47) (tgt := 60) hx hb d_FW_told_13 (by rw [hs7]; decide) (by rw [hs7]; decide) (by rw [hs7]; rfl) (by decide) ?_
      refine lv_aload_n hx hb d_FW_told_60 rfl (lv_at hl 0 rfl) ?_
      refine fw_get (v := .int (fw_g S0 b3 0)) C R ft_field_6_82 hk_b3 rfl d_FW_told_61 ?_
      cases hE
      exact fw_iret C fw_X.rf rfl R d_FW_told_64
    · replace hE := fw_if_f hs7 hE
      by_cases hs8 : p2 = (1 : Int32)
      · replace hE := fw_if_t hs8 hE
        refine lv_tableIn (off := 52) (tgt := 65) hx hb d_FW_told_13 (by rw [hs8]; decide) (by rw [hs8]; decide) (by rw [hs8]; rfl) (by decide) ?_
        refine lv_aload_n hx hb d_FW_told_65 rfl (lv_at hl 0 rfl) ?_
        refine fw_get (v := .int (fw_g S0 b3 14)) C R ft_field_6_85 hk_b3 rfl d_FW_told_66 ?_
        cases hE
        exact fw_iret C fw_X.rf rfl R d_FW_told_69
      · replace hE := fw_if_f hs8 hE
        by_cases hs9 : p2 = (2 : Int32)
        · replace hE := fw_if_t hs9 hE
          refine lv_tableIn (off := 57) (tgt := 70) hx hb d_FW_told_13 (by rw [hs9]; decide) (by rw [hs9]; decide) (by rw [hs9]; rfl) (by decide) ?_
          refine lv_aload_n hx hb d_FW_told_70 rfl (lv_at hl 0 rfl) ?_
          refine fw_get (v := .int (fw_g S0 b3 15)) C R ft_field_6_148 hk_b3 rfl d_FW_told_71 ?_
          cases hE
          exact fw_iret C fw_X.rf rfl R d_FW_told_74
        · replace hE := fw_if_f hs9 hE
          by_cases hs10 : p2 = (3 : Int32)
          · replace hE := fw_if_t hs10 hE
            refine lv_tableIn (off := 62) (tgt := 75) hx hb d_FW_told_13 (by rw [hs10]; decide) (by rw [hs10]; decide) (by rw [hs10]; rfl) (by decide) ?_
            refine lv_aload_n hx hb d_FW_told_75 rfl (lv_at hl 0 rfl) ?_
            refine fw_getr C R ft_field_6_151 hk_b3 rfl rfl d_FW_told_76 (fun hq => ?_) (fun b4 hq hk_b4 => ?_)
            · replace hE := fw_om_none hq hE
              cases hE
            · replace hE := fw_om_some hq hE
              refine fw_get (v := .int (fw_g S0 b4 2)) C R ft_field_6_103 hk_b4 rfl d_FW_told_79 ?_
              cases hE
              exact fw_iret C fw_X.rf rfl R d_FW_told_82
          · replace hE := fw_if_f hs10 hE
            by_cases hs11 : p2 = (4 : Int32)
            · replace hE := fw_if_t hs11 hE
              refine lv_tableIn (off := 70) (tgt := 83) hx hb d_FW_told_13 (by rw [hs11]; decide) (by rw [hs11]; decide) (by rw [hs11]; rfl) (by decide) ?_
              refine lv_aload_n hx hb d_FW_told_83 rfl (lv_at hl 0 rfl) ?_
              obtain ⟨x5, hF, hE⟩ := fw_bind hE
              refine fw_callV (As := []) (rest := []) C R ft_callV_6_154 yi_Request_joinedSize ys_Request_joinedSize (ct_Request_joinedSize l G kd0 S0 _ _ hk_b3 hF) hk_b3 (by decide) rfl rfl hl.1 rfl (lv_room (Nat.le_of_ble_eq_true rfl)) ⟨Nat.le_of_ble_eq_true rfl, Nat.le_of_ble_eq_true rfl⟩ ⟨Nat.le_of_ble_eq_true rfl, Nat.le_of_ble_eq_true rfl⟩ d_FW_told_84 (fun H locs kd6 hxkd6 hP R => ?_)
              rw [hP] at R; clear hP hxkd6
              cases hE
              exact fw_iret C fw_X.rf rfl R d_FW_told_87
            · replace hE := fw_if_f hs11 hE
              by_cases hs12 : p2 = (5 : Int32)
              · replace hE := fw_if_t hs12 hE
                refine lv_tableIn (off := 75) (tgt := 88) hx hb d_FW_told_13 (by rw [hs12]; decide) (by rw [hs12]; decide) (by rw [hs12]; rfl) (by decide) ?_
                refine lv_aload_n hx hb d_FW_told_88 rfl (lv_at hl 0 rfl) ?_
                refine fw_get (v := .int (fw_g S0 b3 11)) C R ft_field_6_157 hk_b3 rfl d_FW_told_89 ?_
                cases hE
                exact fw_iret C fw_X.rf rfl R d_FW_told_92
              · replace hE := fw_if_f hs12 hE
                by_cases hs13 : p2 = (6 : Int32)
                · replace hE := fw_if_t hs13 hE
                  refine lv_tableIn (off := 80) (tgt := 93) hx hb d_FW_told_13 (by rw [hs13]; decide) (by rw [hs13]; decide) (by rw [hs13]; rfl) (by decide) ?_
                  refine lv_aload_n hx hb d_FW_told_93 rfl (lv_at hl 0 rfl) ?_
                  refine fw_get (v := .int (fw_g S0 b3 13)) C R ft_field_6_160 hk_b3 rfl d_FW_told_94 ?_
                  cases hE
                  exact fw_iret C fw_X.rf rfl R d_FW_told_97
                · replace hE := fw_if_f hs13 hE
                  by_cases hs14 : p2 = (7 : Int32)
                  · replace hE := fw_if_t hs14 hE
                    refine lv_tableIn (off := 85) (tgt := 98) hx hb d_FW_told_13 (by rw [hs14]; decide) (by rw [hs14]; decide) (by rw [hs14]; rfl) (by decide) ?_
                    refine lv_aload_n hx hb d_FW_told_98 rfl (lv_at hl 0 rfl) ?_
                    refine fw_get (v := .int (fw_g S0 b3 5)) C R ft_field_6_163 hk_b3 rfl d_FW_told_99 ?_
                    cases hE
                    exact fw_iret C fw_X.rf rfl R d_FW_told_102
                  · replace hE := fw_if_f hs14 hE
                    refine lv_tableOut (tgt := 103) hx hb d_FW_told_13 (fw_tout 0 7 (fun k h1 h2 hk => ?_)) (by decide) ?_
                    · have h3 : k = 0 ∨ k = 1 ∨ k = 2 ∨ k = 3 ∨ k = 4 ∨ k = 5 ∨ k = 6 ∨ k = 7 := by omega
                      rcases h3 with rfl | rfl | rfl | rfl | rfl | rfl | rfl | rfl
                      · exact hs7 (by rw [hk]; rfl)
                      · exact hs8 (by rw [hk]; rfl)
                      · exact hs9 (by rw [hk]; rfl)
                      · exact hs10 (by rw [hk]; rfl)
                      · exact hs11 (by rw [hk]; rfl)
                      · exact hs12 (by rw [hk]; rfl)
                      · exact hs13 (by rw [hk]; rfl)
                      · exact hs14 (by rw [hk]; rfl)
                    · refine lv_iconst (v := -1) hx hb d_FW_told_103 (by decide) ?_
                      cases hE
                      exact fw_iret C fw_X.rf rfl R d_FW_told_104
set_option maxHeartbeats 4000000 in
set_option maxRecDepth 100000 in
theorem ct_FW_row (l : Launch) (G : fw_G) (kd0 : Nat → Option Nat) (S0 : fw_S) (a0 : Nat) (p1 : Int32) (p2 : Int32) (p3 : Int32) (r0 : Int32) (hk_a0 : kd0 a0 = some 6) (hE : F_FW_row a0 p1 p2 p3 S0 = some r0) : fw_M l G y_FW_row prog_1_method_12_code 5 (some .int) 1 21 0 0 kd0 S0 ([.ref a0, .int p1, .int p2, .int p3] : List Value) (some (.int r0)) S0 (fun k => k = kd0) := by
  refine fw_start (by decide) (Nat.le_of_ble_eq_true rfl) ?_
  intro p e s m below meth c ls C hnm R hl
  clear hnm
  have hx := C.1
  have hb := C.2.1
  have hl : lv_has ls 5 [(0, .ref a0), (1, .int p1), (2, .int p2), (3, .int p3)] := hl
  unfold F_FW_row at hE
  refine lv_aload_n hx hb d_FW_row_0 rfl (lv_at hl 0 rfl) ?_
  refine lv_iload_n hx hb d_FW_row_1 rfl (lv_at hl 1 rfl) ?_
  obtain ⟨o1, hF, hE⟩ := fw_bind hE
  refine fw_callV (As := [.int p1]) (rest := []) C R ft_callV_6_78 yi_FW_requestAt ys_FW_requestAt (ct_FW_requestAt l G kd0 S0 _ _ _ hk_a0 hF) hk_a0 (by decide) rfl rfl hl.1 rfl (lv_room (Nat.le_of_ble_eq_true rfl)) ⟨Nat.le_of_ble_eq_true rfl, Nat.le_of_ble_eq_true rfl⟩ ⟨Nat.le_of_ble_eq_true rfl, Nat.le_of_ble_eq_true rfl⟩ d_FW_row_2 (fun H locs kd2 hxkd2 hP R => ?_)
  obtain ⟨hP0, hP⟩ := hP
  rw [hP0] at hP R; clear hP0 hxkd2
  cases o1 with
  | none =>
    replace hE := fw_om_none rfl hE
    refine lv_astoreN (lv' := [(4, .null), (0, .ref a0), (1, .int p1), (2, .int p2), (3, .int p3)]) hx hb d_FW_row_5 hl (by decide) rfl (fun ls hl => ?_)
    refine lv_aloadN hx hb d_FW_row_7 (lv_at hl 0 rfl) ?_
    refine lv_ifnullN (tgt := 21) hx hb d_FW_row_9 (by decide) ?_
    refine lv_iconst (v := -1) hx hb d_FW_row_21 (by decide) ?_
    cases hE
    exact fw_iret C fw_X.rf rfl R d_FW_row_22
  | some b3 =>
    replace hE := fw_om_some rfl hE
    have hk_b3 := hP _ rfl
    clear hP
    refine lv_astore (lv' := [(4, .ref b3), (0, .ref a0), (1, .int p1), (2, .int p2), (3, .int p3)]) hx hb d_FW_row_5 hl (by decide) rfl (fun ls hl => ?_)
    refine lv_aload hx hb d_FW_row_7 (lv_at hl 0 rfl) ?_
    refine lv_ifnull hx hb d_FW_row_9 ?_
    refine lv_iload_n hx hb d_FW_row_12 rfl (lv_at hl 4 rfl) ?_
    refine lv_if_lt (tgt := 21) hx hb d_FW_row_13 (by decide) (fun hc => ?_) (fun hc => ?_)
    · replace hE := fw_if_t hc hE
      refine lv_iconst (v := -1) hx hb d_FW_row_21 (by decide) ?_
      cases hE
      exact fw_iret C fw_X.rf rfl R d_FW_row_22
    · replace hE := fw_if_f hc hE
      refine lv_iload_n hx hb d_FW_row_16 rfl (lv_at hl 4 rfl) ?_
      refine lv_iconst (v := 1) hx hb d_FW_row_17 (by decide) ?_
      refine lv_icmp_le (tgt := 23) hx hb d_FW_row_18 (by decide) (fun hc => ?_) (fun hc => ?_)
      · replace hE := fw_if_t hc hE
        refine lv_iload_n hx hb d_FW_row_23 rfl (lv_at hl 3 rfl) ?_
        refine lv_if_lt (tgt := 39) hx hb d_FW_row_24 (by decide) (fun hc => ?_) (fun hc => ?_)
        · replace hE := fw_if_t hc hE
          refine lv_bipush (v := -2) hx hb d_FW_row_39 (by decide) ?_
          cases hE
          exact fw_iret C fw_X.rf rfl R d_FW_row_41
        · replace hE := fw_if_f hc hE
          refine lv_iload_n hx hb d_FW_row_27 rfl (lv_at hl 3 rfl) ?_
          refine lv_aload hx hb d_FW_row_28 (lv_at hl 0 rfl) ?_
          refine fw_getr C R ft_field_6_151 hk_b3 rfl rfl d_FW_row_30 (fun hq => ?_) (fun b4 hq hk_b4 => ?_)
          · replace hE := fw_om_none hq hE
            cases hE
          · replace hE := fw_om_some hq hE
            refine fw_get (v := .int (fw_g S0 b4 2)) C R ft_field_6_103 hk_b4 rfl d_FW_row_33 ?_
            refine lv_icmp_lt (tgt := 42) hx hb d_FW_row_36 (by decide) (fun hc => ?_) (fun hc => ?_)
            · replace hE := fw_if_t hc hE
              refine lv_iload_n hx hb d_FW_row_42 rfl (lv_at hl 4 rfl) ?_
              refine lv_if_ne (tgt := 58) hx hb d_FW_row_43 (by decide) (fun hc => ?_) (fun hc => ?_)
              · replace hE := fw_if_f hc hE
                refine lv_aload hx hb d_FW_row_58 (lv_at hl 0 rfl) ?_
                refine fw_getr C R ft_field_6_151 hk_b3 rfl rfl d_FW_row_60 (fun hq => ?_) (fun b5 hq hk_b5 => ?_)
                · replace hE := fw_om_none hq hE
                  refine lv_iload_n hx hb d_FW_row_63 rfl (lv_at hl 3 rfl) ?_
                  cases hE
                · replace hE := fw_om_some hq hE
                  refine lv_iload_n hx hb d_FW_row_63 rfl (lv_at hl 3 rfl) ?_
                  obtain ⟨x6, hF, hE⟩ := fw_bind hE
                  refine fw_callV (As := [.int p2]) (rest := []) C R ft_callV_6_170 yi_Pairs_valueAt ys_Pairs_valueAt (ct_Pairs_valueAt l G kd0 S0 _ _ _ hk_b5 hF) hk_b5 (by decide) rfl rfl hl.1 rfl (lv_room (Nat.le_of_ble_eq_true rfl)) ⟨Nat.le_of_ble_eq_true rfl, Nat.le_of_ble_eq_true rfl⟩ ⟨Nat.le_of_ble_eq_true rfl, Nat.le_of_ble_eq_true rfl⟩ d_FW_row_64 (fun H locs kd7 hxkd7 hP R => ?_)
                  rw [hP] at R; clear hP hxkd7
                  cases hE
                  exact fw_iret C fw_X.rf rfl R d_FW_row_67
              · replace hE := fw_if_t hc hE
                refine lv_aload hx hb d_FW_row_46 (lv_at hl 0 rfl) ?_
                refine fw_getr C R ft_field_6_151 hk_b3 rfl rfl d_FW_row_48 (fun hq => ?_) (fun b8 hq hk_b8 => ?_)
                · replace hE := fw_om_none hq hE
                  refine lv_iload_n hx hb d_FW_row_51 rfl (lv_at hl 3 rfl) ?_
                  cases hE
                · replace hE := fw_om_some hq hE
                  refine lv_iload_n hx hb d_FW_row_51 rfl (lv_at hl 3 rfl) ?_
                  obtain ⟨x9, hF, hE⟩ := fw_bind hE
                  refine fw_callV (As := [.int p2]) (rest := []) C R ft_callV_6_166 yi_Pairs_keyAt ys_Pairs_keyAt (ct_Pairs_keyAt l G kd0 S0 _ _ _ hk_b8 hF) hk_b8 (by decide) rfl rfl hl.1 rfl (lv_room (Nat.le_of_ble_eq_true rfl)) ⟨Nat.le_of_ble_eq_true rfl, Nat.le_of_ble_eq_true rfl⟩ ⟨Nat.le_of_ble_eq_true rfl, Nat.le_of_ble_eq_true rfl⟩ d_FW_row_52 (fun H locs kd10 hxkd10 hP R => ?_)
                  rw [hP] at R; clear hP hxkd10
                  refine lv_goto (tgt := 67) hx hb d_FW_row_55 (by decide) ?_
                  cases hE
                  exact fw_iret C fw_X.rf rfl R d_FW_row_67
            · replace hE := fw_if_f hc hE
              refine lv_bipush (v := -2) hx hb d_FW_row_39 (by decide) ?_
              cases hE
              exact fw_iret C fw_X.rf rfl R d_FW_row_41
      · replace hE := fw_if_f hc hE
        refine lv_iconst (v := -1) hx hb d_FW_row_21 (by decide) ?_
        cases hE
        exact fw_iret C fw_X.rf rfl R d_FW_row_22
set_option maxHeartbeats 4000000 in
set_option maxRecDepth 100000 in
theorem ct_FW_joined (l : Launch) (G : fw_G) (kd0 : Nat → Option Nat) (S0 : fw_S) (a0 : Nat) (p1 : Int32) (p2 : Int32) (p3 : Int32) (r0 : Int32) (hk_a0 : kd0 a0 = some 6) (hE : F_FW_joined a0 p1 p2 p3 S0 = some r0) : fw_M l G y_FW_joined prog_1_method_13_code 5 (some .int) 3 68 0 0 kd0 S0 ([.ref a0, .int p1, .int p2, .int p3] : List Value) (some (.int r0)) S0 (fun k => k = kd0) := by
  refine fw_start (by decide) (Nat.le_of_ble_eq_true rfl) ?_
  intro p e s m below meth c ls C hnm R hl
  clear hnm
  have hx := C.1
  have hb := C.2.1
  have hl : lv_has ls 5 [(0, .ref a0), (1, .int p1), (2, .int p2), (3, .int p3)] := hl
  unfold F_FW_joined at hE
  refine lv_aload_n hx hb d_FW_joined_0 rfl (lv_at hl 0 rfl) ?_
  refine lv_iload_n hx hb d_FW_joined_1 rfl (lv_at hl 1 rfl) ?_
  obtain ⟨o1, hF, hE⟩ := fw_bind hE
  refine fw_callV (As := [.int p1]) (rest := []) C R ft_callV_6_78 yi_FW_requestAt ys_FW_requestAt (ct_FW_requestAt l G kd0 S0 _ _ _ hk_a0 hF) hk_a0 (by decide) rfl rfl hl.1 rfl (lv_room (Nat.le_of_ble_eq_true rfl)) ⟨Nat.le_of_ble_eq_true rfl, Nat.le_of_ble_eq_true rfl⟩ ⟨Nat.le_of_ble_eq_true rfl, Nat.le_of_ble_eq_true rfl⟩ d_FW_joined_2 (fun H locs kd2 hxkd2 hP R => ?_)
  obtain ⟨hP0, hP⟩ := hP
  rw [hP0] at hP R; clear hP0 hxkd2
  cases o1 with
  | none =>
    replace hE := fw_om_none rfl hE
    refine lv_astoreN (lv' := [(4, .null), (0, .ref a0), (1, .int p1), (2, .int p2), (3, .int p3)]) hx hb d_FW_joined_5 hl (by decide) rfl (fun ls hl => ?_)
    refine lv_aloadN hx hb d_FW_joined_7 (lv_at hl 0 rfl) ?_
    refine lv_ifnullN (tgt := 21) hx hb d_FW_joined_9 (by decide) ?_
    refine lv_iconst (v := -1) hx hb d_FW_joined_21 (by decide) ?_
    cases hE
    exact fw_iret C fw_X.rf rfl R d_FW_joined_22
  | some b3 =>
    replace hE := fw_om_some rfl hE
    have hk_b3 := hP _ rfl
    clear hP
    refine lv_astore (lv' := [(4, .ref b3), (0, .ref a0), (1, .int p1), (2, .int p2), (3, .int p3)]) hx hb d_FW_joined_5 hl (by decide) rfl (fun ls hl => ?_)
    refine lv_aload hx hb d_FW_joined_7 (lv_at hl 0 rfl) ?_
    refine lv_ifnull hx hb d_FW_joined_9 ?_
    refine lv_iload_n hx hb d_FW_joined_12 rfl (lv_at hl 4 rfl) ?_
    refine lv_if_lt (tgt := 21) hx hb d_FW_joined_13 (by decide) (fun hc => ?_) (fun hc => ?_)
    · replace hE := fw_if_t hc hE
      refine lv_iconst (v := -1) hx hb d_FW_joined_21 (by decide) ?_
      cases hE
      exact fw_iret C fw_X.rf rfl R d_FW_joined_22
    · replace hE := fw_if_f hc hE
      refine lv_iload_n hx hb d_FW_joined_16 rfl (lv_at hl 4 rfl) ?_
      refine lv_iconst (v := 1) hx hb d_FW_joined_17 (by decide) ?_
      refine lv_icmp_le (tgt := 23) hx hb d_FW_joined_18 (by decide) (fun hc => ?_) (fun hc => ?_)
      · replace hE := fw_if_t hc hE
        refine lv_iload_n hx hb d_FW_joined_23 rfl (lv_at hl 3 rfl) ?_
        refine lv_if_lt (tgt := 36) hx hb d_FW_joined_24 (by decide) (fun hc => ?_) (fun hc => ?_)
        · replace hE := fw_if_t hc hE
          refine lv_bipush (v := -2) hx hb d_FW_joined_36 (by decide) ?_
          cases hE
          exact fw_iret C fw_X.rf rfl R d_FW_joined_38
        · replace hE := fw_if_f hc hE
          refine lv_aload hx hb d_FW_joined_27 (lv_at hl 0 rfl) ?_
          refine fw_get (v := .int (fw_g S0 b3 14)) C R ft_field_6_85 hk_b3 rfl d_FW_joined_29 ?_
          refine lv_iconst (v := 1) hx hb d_FW_joined_32 (by decide) ?_
          refine lv_icmp_eq (tgt := 39) hx hb d_FW_joined_33 (by decide) (fun hc => ?_) (fun hc => ?_)
          · replace hE := fw_if_t hc hE
            refine lv_aload hx hb d_FW_joined_39 (lv_at hl 0 rfl) ?_
            refine lv_iload_n hx hb d_FW_joined_41 rfl (lv_at hl 3 rfl) ?_
            refine lv_iload_n hx hb d_FW_joined_42 rfl (lv_at hl 4 rfl) ?_
            refine lv_if_ne (tgt := 50) hx hb d_FW_joined_43 (by decide) (fun hc => ?_) (fun hc => ?_)
            · replace hE := fw_if_f hc hE
              refine lv_iconst (v := 0) hx hb d_FW_joined_50 (by decide) ?_
              obtain ⟨x4, hF, hE⟩ := fw_bind hE
              refine fw_callV (As := [.int p2, .int (0 : Int32)]) (rest := []) C R ft_callV_6_173 yi_Request_joinedPart ys_Request_joinedPart (ct_Request_joinedPart l G kd0 S0 _ _ _ _ hk_b3 hF) hk_b3 (by decide) rfl rfl hl.1 rfl (lv_room (Nat.le_of_ble_eq_true rfl)) ⟨Nat.le_of_ble_eq_true rfl, Nat.le_of_ble_eq_true rfl⟩ ⟨Nat.le_of_ble_eq_true rfl, Nat.le_of_ble_eq_true rfl⟩ d_FW_joined_51 (fun H locs kd5 hxkd5 hP R => ?_)
              rw [hP] at R; clear hP hxkd5
              cases hE
              exact fw_iret C fw_X.rf rfl R d_FW_joined_54
            · replace hE := fw_if_t hc hE
              refine lv_iconst (v := 1) hx hb d_FW_joined_46 (by decide) ?_
              refine lv_goto (tgt := 51) hx hb d_FW_joined_47 (by decide) ?_
              obtain ⟨x6, hF, hE⟩ := fw_bind hE
              refine fw_callV (As := [.int p2, .int (1 : Int32)]) (rest := []) C R ft_callV_6_173 yi_Request_joinedPart ys_Request_joinedPart (ct_Request_joinedPart l G kd0 S0 _ _ _ _ hk_b3 hF) hk_b3 (by decide) rfl rfl hl.1 rfl (lv_room (Nat.le_of_ble_eq_true rfl)) ⟨Nat.le_of_ble_eq_true rfl, Nat.le_of_ble_eq_true rfl⟩ ⟨Nat.le_of_ble_eq_true rfl, Nat.le_of_ble_eq_true rfl⟩ d_FW_joined_51 (fun H locs kd7 hxkd7 hP R => ?_)
              rw [hP] at R; clear hP hxkd7
              cases hE
              exact fw_iret C fw_X.rf rfl R d_FW_joined_54
          · replace hE := fw_if_f hc hE
            refine lv_bipush (v := -2) hx hb d_FW_joined_36 (by decide) ?_
            cases hE
            exact fw_iret C fw_X.rf rfl R d_FW_joined_38
      · replace hE := fw_if_f hc hE
        refine lv_iconst (v := -1) hx hb d_FW_joined_21 (by decide) ?_
        cases hE
        exact fw_iret C fw_X.rf rfl R d_FW_joined_22
set_option maxHeartbeats 4000000 in
set_option maxRecDepth 100000 in
theorem ct_FW_estimate (l : Launch) (G : fw_G) (kd0 : Nat → Option Nat) (S0 : fw_S) (a0 : Nat) (p1 : Int32) (r0 : Int32) (hk_a0 : kd0 a0 = some 6) (hE : F_FW_estimate a0 p1 S0 = some r0) : fw_M l G y_FW_estimate prog_1_method_14_code 2 (some .int) 0 0 0 0 kd0 S0 ([.ref a0, .int p1] : List Value) (some (.int r0)) S0 (fun k => k = kd0) := by
  refine fw_start (by decide) (Nat.le_of_ble_eq_true rfl) ?_
  intro p e s m below meth c ls C hnm R hl
  clear hnm
  have hx := C.1
  have hb := C.2.1
  have hl : lv_has ls 2 [(0, .ref a0), (1, .int p1)] := hl
  unfold F_FW_estimate at hE
  refine lv_iload_n hx hb d_FW_estimate_0 rfl (lv_at hl 1 rfl) ?_
  refine lv_if_lt (tgt := 13) hx hb d_FW_estimate_1 (by decide) (fun hc => ?_) (fun hc => ?_)
  · replace hE := fw_if_t hc hE
    refine lv_iconst (v := -1) hx hb d_FW_estimate_13 (by decide) ?_
    cases hE
    exact fw_iret C fw_X.rf rfl R d_FW_estimate_14
  · replace hE := fw_if_f hc hE
    refine lv_iload_n hx hb d_FW_estimate_4 rfl (lv_at hl 1 rfl) ?_
    refine lv_aload_n hx hb d_FW_estimate_5 rfl (lv_at hl 0 rfl) ?_
    refine fw_getr C R ft_field_6_41 hk_a0 rfl rfl d_FW_estimate_6 (fun hq => ?_) (fun b1 hq hk_b1 => ?_)
    · replace hE := fw_om_none hq hE
      cases hE
    · replace hE := fw_om_some hq hE
      refine fw_alen (K := 100) (ty := .int) C R (by decide) (by decide) hk_b1 d_FW_estimate_9 ?_
      refine lv_icmp_lt (tgt := 15) hx hb d_FW_estimate_10 (by decide) (fun hc => ?_) (fun hc => ?_)
      · replace hE := fw_if_t hc hE
        refine lv_aload_n hx hb d_FW_estimate_15 rfl (lv_at hl 0 rfl) ?_
        refine fw_getr C R ft_field_6_41 hk_a0 rfl rfl d_FW_estimate_16 (fun hq => ?_) (fun b2 hq hk_b2 => ?_)
        · replace hE := fw_om_none hq hE
          refine lv_iload_n hx hb d_FW_estimate_19 rfl (lv_at hl 1 rfl) ?_
          cases hE
        · replace hE := fw_om_some hq hE
          refine lv_iload_n hx hb d_FW_estimate_19 rfl (lv_at hl 1 rfl) ?_
          obtain ⟨hi3, hE⟩ := fw_ifn hE
          refine fw_iald C R (by decide) hk_b2 hi3 d_FW_estimate_20 ?_
          cases hE
          exact fw_iret C fw_X.rf rfl R d_FW_estimate_21
      · replace hE := fw_if_f hc hE
        refine lv_iconst (v := -1) hx hb d_FW_estimate_13 (by decide) ?_
        cases hE
        exact fw_iret C fw_X.rf rfl R d_FW_estimate_14
set_option maxHeartbeats 4000000 in
set_option maxRecDepth 100000 in
theorem ct_FW_fact (l : Launch) (G : fw_G) (kd0 : Nat → Option Nat) (S0 : fw_S) (a0 : Nat) (p1 : Int32) (p2 : Int32) (r0 : Int32) (S' : fw_S) (hk_a0 : kd0 a0 = some 6) (hE : F_FW_fact a0 p1 p2 S0 = some (r0, S')) : fw_M l G y_FW_fact prog_1_method_15_code 3 (some .int) 1 22 0 0 kd0 S0 ([.ref a0, .int p1, .int p2] : List Value) (some (.int r0)) S' (fun k => k = kd0) := by
  refine fw_start (by decide) (Nat.le_of_ble_eq_true rfl) ?_
  intro p e s m below meth c ls C hnm R hl
  clear hnm
  have hx := C.1
  have hb := C.2.1
  have hl : lv_has ls 3 [(0, .ref a0), (1, .int p1), (2, .int p2)] := hl
  unfold F_FW_fact at hE
  refine lv_iload_n hx hb d_FW_fact_0 rfl (lv_at hl 1 rfl) ?_
  obtain ⟨x1, hF, hE⟩ := fw_bind hE
  refine fw_callS (As := [.int p1]) (rest := []) C R ft_callS_6_95 yt_FW_isByte (ct_FW_isByte l G kd0 S0 _ _  hF) rfl hl.1 rfl (lv_room (Nat.le_of_ble_eq_true rfl)) ⟨Nat.le_of_ble_eq_true rfl, Nat.le_of_ble_eq_true rfl⟩ ⟨Nat.le_of_ble_eq_true rfl, Nat.le_of_ble_eq_true rfl⟩ d_FW_fact_1 (fun H locs kd2 hxkd2 hP R => ?_)
  rw [hP] at R; clear hP hxkd2
  refine lv_if_eq (tgt := 14) hx hb d_FW_fact_4 (by decide) (fun hc => ?_) (fun hc => ?_)
  · replace hE := fw_if_t hc hE
    refine lv_iconst (v := -1) hx hb d_FW_fact_14 (by decide) ?_
    cases hE
    exact fw_iret C fw_X.rf rfl R d_FW_fact_15
  · replace hE := fw_if_f hc hE
    refine lv_iload_n hx hb d_FW_fact_7 rfl (lv_at hl 2 rfl) ?_
    obtain ⟨x3, hF, hE⟩ := fw_bind hE
    refine fw_callS (As := [.int p2]) (rest := []) C R ft_callS_6_95 yt_FW_isByte (ct_FW_isByte l G kd0 S0 _ _  hF) rfl hl.1 rfl (lv_room (Nat.le_of_ble_eq_true rfl)) ⟨Nat.le_of_ble_eq_true rfl, Nat.le_of_ble_eq_true rfl⟩ ⟨Nat.le_of_ble_eq_true rfl, Nat.le_of_ble_eq_true rfl⟩ d_FW_fact_8 (fun H locs kd4 hxkd4 hP R => ?_)
    rw [hP] at R; clear hP hxkd4
    refine lv_if_ne (tgt := 16) hx hb d_FW_fact_11 (by decide) (fun hc => ?_) (fun hc => ?_)
    · replace hE := fw_if_f hc hE
      refine lv_aload_n hx hb d_FW_fact_16 rfl (lv_at hl 0 rfl) ?_
      refine fw_getr C R ft_field_6_37 hk_a0 rfl rfl d_FW_fact_17 (fun hq => ?_) (fun b5 hq hk_b5 => ?_)
      · replace hE := fw_om_none hq hE
        cases hE
      · replace hE := fw_om_some hq hE
        refine fw_getr C R ft_field_6_177 hk_b5 rfl rfl d_FW_fact_20 (fun hq => ?_) (fun b6 hq hk_b6 => ?_)
        · replace hE := fw_om_none hq hE
          refine lv_iload_n hx hb d_FW_fact_23 rfl (lv_at hl 1 rfl) ?_
          refine lv_iload_n hx hb d_FW_fact_24 rfl (lv_at hl 2 rfl) ?_
          cases hE
        · replace hE := fw_om_some hq hE
          refine lv_iload_n hx hb d_FW_fact_23 rfl (lv_at hl 1 rfl) ?_
          refine lv_iload_n hx hb d_FW_fact_24 rfl (lv_at hl 2 rfl) ?_
          obtain ⟨x8, S7, hF, hE⟩ := fw_b2_ex hE
          refine fw_callV (As := [.int p1, .int p2]) (rest := []) C R ft_callV_6_99 yi_Pairs_add ys_Pairs_add (ct_Pairs_add l G kd0 S0 _ _ _ _ _ hk_b6 hF) hk_b6 (by decide) rfl rfl hl.1 rfl (lv_room (Nat.le_of_ble_eq_true rfl)) ⟨Nat.le_of_ble_eq_true rfl, Nat.le_of_ble_eq_true rfl⟩ ⟨Nat.le_of_ble_eq_true rfl, Nat.le_of_ble_eq_true rfl⟩ d_FW_fact_25 (fun H locs kd9 hxkd9 hP R => ?_)
          rw [hP] at R; clear hP hxkd9
          refine lv_if_eq (tgt := 44) hx hb d_FW_fact_28 (by decide) (fun hc => ?_) (fun hc => ?_)
          · replace hE := fw_if_t hc hE
            refine lv_bipush (v := -3) hx hb d_FW_fact_44 (by decide) ?_
            cases hE
            exact fw_iret C fw_X.rf rfl R d_FW_fact_46
          · replace hE := fw_if_f hc hE
            refine lv_aload_n hx hb d_FW_fact_31 rfl (lv_at hl 0 rfl) ?_
            refine fw_getr C R ft_field_6_37 hk_a0 rfl rfl d_FW_fact_32 (fun hq => ?_) (fun b10 hq hk_b10 => ?_)
            · replace hE := fw_om_none hq hE
              cases hE
            · replace hE := fw_om_some hq hE
              refine fw_getr C R ft_field_6_177 hk_b10 rfl rfl d_FW_fact_35 (fun hq => ?_) (fun b11 hq hk_b11 => ?_)
              · replace hE := fw_om_none hq hE
                cases hE
              · replace hE := fw_om_some hq hE
                refine fw_get (v := .int (fw_g S7 b11 2)) C R ft_field_6_103 hk_b11 rfl d_FW_fact_38 ?_
                refine lv_goto (tgt := 46) hx hb d_FW_fact_41 (by decide) ?_
                cases hE
                exact fw_iret C fw_X.rf rfl R d_FW_fact_46
    · replace hE := fw_if_t hc hE
      refine lv_iconst (v := -1) hx hb d_FW_fact_14 (by decide) ?_
      cases hE
      exact fw_iret C fw_X.rf rfl R d_FW_fact_15
set_option maxHeartbeats 4000000 in
set_option maxRecDepth 100000 in
theorem ct_FW_count (l : Launch) (G : fw_G) (kd0 : Nat → Option Nat) (S0 : fw_S) (a0 : Nat) (p1 : Int32) (r0 : Int32) (hk_a0 : kd0 a0 = some 6) (hE : F_FW_count a0 p1 S0 = some r0) : fw_M l G y_FW_count prog_1_method_16_code 2 (some .int) 0 0 0 0 kd0 S0 ([.ref a0, .int p1] : List Value) (some (.int r0)) S0 (fun k => k = kd0) := by
  refine fw_start (by decide) (Nat.le_of_ble_eq_true rfl) ?_
  intro p e s m below meth c ls C hnm R hl
  clear hnm
  have hx := C.1
  have hb := C.2.1
  have hl : lv_has ls 2 [(0, .ref a0), (1, .int p1)] := hl
  unfold F_FW_count at hE
  refine lv_iload_n hx hb d_FW_count_0 rfl (lv_at hl 1 rfl) ?_
  by_cases hs6 : p1 = (0 : Int32)
  · replace hE := fw_if_t hs6 hE
    refine lv_tableIn (off := 47) (tgt := 48) hx hb d_FW_count_1 (by rw [hs6]; decide) (by rw [hs6]; decide) (by rw [hs6]; rfl) (by decide) ?_
    refine lv_aload_n hx hb d_FW_count_48 rfl (lv_at hl 0 rfl) ?_
    refine fw_get (v := .int (fw_g S0 a0 2)) C R ft_field_6_21 hk_a0 rfl d_FW_count_49 ?_
    cases hE
    exact fw_iret C fw_X.rf rfl R d_FW_count_52
  · replace hE := fw_if_f hs6 hE
    by_cases hs7 : p1 = (1 : Int32)
    · replace hE := fw_if_t hs7 hE
      refine lv_tableIn (off := 52) (tgt := 53) hx hb d_FW_count_1 (by rw [hs7]; decide) (by rw [hs7]; decide) (by rw [hs7]; rfl) (by decide) ?_
      refine lv_aload_n hx hb d_FW_count_53 rfl (lv_at hl 0 rfl) ?_
      refine fw_getr C R ft_field_6_37 hk_a0 rfl rfl d_FW_count_54 (fun hq => ?_) (fun b1 hq hk_b1 => ?_)
      · replace hE := fw_om_none hq hE
        cases hE
      · replace hE := fw_om_some hq hE
        refine fw_getr C R ft_field_6_177 hk_b1 rfl rfl d_FW_count_57 (fun hq => ?_) (fun b2 hq hk_b2 => ?_)
        · replace hE := fw_om_none hq hE
          cases hE
        · replace hE := fw_om_some hq hE
          refine fw_get (v := .int (fw_g S0 b2 2)) C R ft_field_6_103 hk_b2 rfl d_FW_count_60 ?_
          cases hE
          exact fw_iret C fw_X.rf rfl R d_FW_count_63
    · replace hE := fw_if_f hs7 hE
      by_cases hs8 : p1 = (2 : Int32)
      · replace hE := fw_if_t hs8 hE
        refine lv_tableIn (off := 63) (tgt := 64) hx hb d_FW_count_1 (by rw [hs8]; decide) (by rw [hs8]; decide) (by rw [hs8]; rfl) (by decide) ?_
        refine lv_aload_n hx hb d_FW_count_64 rfl (lv_at hl 0 rfl) ?_
        refine fw_getr C R ft_field_6_30 hk_a0 rfl rfl d_FW_count_65 (fun hq => ?_) (fun b3 hq hk_b3 => ?_)
        · replace hE := fw_om_none hq hE
          cases hE
        · replace hE := fw_om_some hq hE
          refine fw_get (v := .int (fw_g S0 b3 2)) C R ft_field_6_103 hk_b3 rfl d_FW_count_68 ?_
          cases hE
          exact fw_iret C fw_X.rf rfl R d_FW_count_71
      · replace hE := fw_if_f hs8 hE
        by_cases hs9 : p1 = (3 : Int32)
        · replace hE := fw_if_t hs9 hE
          refine lv_tableIn (off := 71) (tgt := 72) hx hb d_FW_count_1 (by rw [hs9]; decide) (by rw [hs9]; decide) (by rw [hs9]; rfl) (by decide) ?_
          refine lv_aload_n hx hb d_FW_count_72 rfl (lv_at hl 0 rfl) ?_
          refine fw_get (v := .int (fw_g S0 a0 10)) C R ft_field_6_58 hk_a0 rfl d_FW_count_73 ?_
          cases hE
          exact fw_iret C fw_X.rf rfl R d_FW_count_76
        · replace hE := fw_if_f hs9 hE
          by_cases hs10 : p1 = (4 : Int32)
          · replace hE := fw_if_t hs10 hE
            refine lv_tableIn (off := 76) (tgt := 77) hx hb d_FW_count_1 (by rw [hs10]; decide) (by rw [hs10]; decide) (by rw [hs10]; rfl) (by decide) ?_
            refine lv_aload_n hx hb d_FW_count_77 rfl (lv_at hl 0 rfl) ?_
            refine fw_get (v := .int (fw_g S0 a0 11)) C R ft_field_6_61 hk_a0 rfl d_FW_count_78 ?_
            cases hE
            exact fw_iret C fw_X.rf rfl R d_FW_count_81
          · replace hE := fw_if_f hs10 hE
            by_cases hs11 : p1 = (5 : Int32)
            · replace hE := fw_if_t hs11 hE
              refine lv_tableIn (off := 81) (tgt := 82) hx hb d_FW_count_1 (by rw [hs11]; decide) (by rw [hs11]; decide) (by rw [hs11]; rfl) (by decide) ?_
              refine lv_aload_n hx hb d_FW_count_82 rfl (lv_at hl 0 rfl) ?_
              refine fw_get (v := .int (fw_g S0 a0 12)) C R ft_field_6_64 hk_a0 rfl d_FW_count_83 ?_
              cases hE
              exact fw_iret C fw_X.rf rfl R d_FW_count_86
            · replace hE := fw_if_f hs11 hE
              by_cases hs12 : p1 = (6 : Int32)
              · replace hE := fw_if_t hs12 hE
                refine lv_tableIn (off := 86) (tgt := 87) hx hb d_FW_count_1 (by rw [hs12]; decide) (by rw [hs12]; decide) (by rw [hs12]; rfl) (by decide) ?_
                refine lv_aload_n hx hb d_FW_count_87 rfl (lv_at hl 0 rfl) ?_
                refine fw_getr C R ft_field_6_37 hk_a0 rfl rfl d_FW_count_88 (fun hq => ?_) (fun b4 hq hk_b4 => ?_)
                · replace hE := fw_om_none hq hE
                  cases hE
                · replace hE := fw_om_some hq hE
                  refine fw_get (v := .int (fw_g S0 b4 3)) C R ft_field_6_180 hk_b4 rfl d_FW_count_91 ?_
                  cases hE
                  exact fw_iret C fw_X.rf rfl R d_FW_count_94
              · replace hE := fw_if_f hs12 hE
                by_cases hs13 : p1 = (7 : Int32)
                · replace hE := fw_if_t hs13 hE
                  refine lv_tableIn (off := 94) (tgt := 95) hx hb d_FW_count_1 (by rw [hs13]; decide) (by rw [hs13]; decide) (by rw [hs13]; rfl) (by decide) ?_
                  refine lv_aload_n hx hb d_FW_count_95 rfl (lv_at hl 0 rfl) ?_
                  refine fw_getr C R ft_field_6_37 hk_a0 rfl rfl d_FW_count_96 (fun hq => ?_) (fun b5 hq hk_b5 => ?_)
                  · replace hE := fw_om_none hq hE
                    cases hE
                  · replace hE := fw_om_some hq hE
                    refine fw_get (v := .int (fw_g S0 b5 2)) C R ft_field_6_181 hk_b5 rfl d_FW_count_99 ?_
                    cases hE
                    exact fw_iret C fw_X.rf rfl R d_FW_count_102
                · replace hE := fw_if_f hs13 hE
                  refine lv_tableOut (tgt := 103) hx hb d_FW_count_1 (fw_tout 0 7 (fun k h1 h2 hk => ?_)) (by decide) ?_
                  · have h3 : k = 0 ∨ k = 1 ∨ k = 2 ∨ k = 3 ∨ k = 4 ∨ k = 5 ∨ k = 6 ∨ k = 7 := by omega
                    rcases h3 with rfl | rfl | rfl | rfl | rfl | rfl | rfl | rfl
                    · exact hs6 (by rw [hk]; rfl)
                    · exact hs7 (by rw [hk]; rfl)
                    · exact hs8 (by rw [hk]; rfl)
                    · exact hs9 (by rw [hk]; rfl)
                    · exact hs10 (by rw [hk]; rfl)
                    · exact hs11 (by rw [hk]; rfl)
                    · exact hs12 (by rw [hk]; rfl)
                    · exact hs13 (by rw [hk]; rfl)
                  · refine lv_iconst (v := -1) hx hb d_FW_count_103 (by decide) ?_
                    cases hE
                    exact fw_iret C fw_X.rf rfl R d_FW_count_104
set_option maxHeartbeats 4000000 in
set_option maxRecDepth 100000 in
theorem ct_FW_line (l : Launch) (G : fw_G) (kd0 : Nat → Option Nat) (S0 : fw_S) (a0 : Nat) (p1 : Int32) (p2 : Int32) (r0 : Int32) (hk_a0 : kd0 a0 = some 6) (hE : F_FW_line a0 p1 p2 S0 = some r0) : fw_M l G y_FW_line prog_1_method_17_code 4 (some .int) 1 21 0 0 kd0 S0 ([.ref a0, .int p1, .int p2] : List Value) (some (.int r0)) S0 (fun k => k = kd0) := by
  refine fw_start (by decide) (Nat.le_of_ble_eq_true rfl) ?_
  intro p e s m below meth c ls C hnm R hl
  clear hnm
  have hx := C.1
  have hb := C.2.1
  have hl : lv_has ls 4 [(0, .ref a0), (1, .int p1), (2, .int p2)] := hl
  unfold F_FW_line at hE
  refine lv_aload_n hx hb d_FW_line_0 rfl (lv_at hl 0 rfl) ?_
  refine lv_iload_n hx hb d_FW_line_1 rfl (lv_at hl 1 rfl) ?_
  obtain ⟨o1, hF, hE⟩ := fw_bind hE
  refine fw_callV (As := [.int p1]) (rest := []) C R ft_callV_6_119 yi_FW_wireAt ys_FW_wireAt (ct_FW_wireAt l G kd0 S0 _ _ _ hk_a0 hF) hk_a0 (by decide) rfl rfl hl.1 rfl (lv_room (Nat.le_of_ble_eq_true rfl)) ⟨Nat.le_of_ble_eq_true rfl, Nat.le_of_ble_eq_true rfl⟩ ⟨Nat.le_of_ble_eq_true rfl, Nat.le_of_ble_eq_true rfl⟩ d_FW_line_2 (fun H locs kd2 hxkd2 hP R => ?_)
  obtain ⟨hP0, hP⟩ := hP
  rw [hP0] at hP R; clear hP0 hxkd2
  cases o1 with
  | none =>
    replace hE := fw_om_none rfl hE
    refine lv_astore_nN (lv' := [(3, .null), (0, .ref a0), (1, .int p1), (2, .int p2)]) hx hb d_FW_line_5 rfl hl (by decide) rfl (fun ls hl => ?_)
    refine lv_aload_nN hx hb d_FW_line_6 rfl (lv_at hl 0 rfl) ?_
    refine lv_ifnonnullN hx hb d_FW_line_7 ?_
    refine lv_iconst (v := -1) hx hb d_FW_line_10 (by decide) ?_
    cases hE
    exact fw_iret C fw_X.rf rfl R d_FW_line_11
  | some b3 =>
    replace hE := fw_om_some rfl hE
    have hk_b3 := hP _ rfl
    clear hP
    refine lv_astore_n (lv' := [(3, .ref b3), (0, .ref a0), (1, .int p1), (2, .int p2)]) hx hb d_FW_line_5 rfl hl (by decide) rfl (fun ls hl => ?_)
    refine lv_aload_n hx hb d_FW_line_6 rfl (lv_at hl 0 rfl) ?_
    refine lv_ifnonnull (tgt := 12) hx hb d_FW_line_7 (by decide) ?_
    refine lv_iload_n hx hb d_FW_line_12 rfl (lv_at hl 3 rfl) ?_
    by_cases hs4 : p2 = (0 : Int32)
    · replace hE := fw_if_t hs4 hE
      refine lv_tableIn (off := 27) (tgt := 40) hx hb d_FW_line_13 (by rw [hs4]; decide) (by rw [hs4]; decide) (by rw [hs4]; rfl) (by decide) ?_
      refine lv_aload_n hx hb d_FW_line_40 rfl (lv_at hl 0 rfl) ?_
      refine fw_get (v := .int (fw_g S0 b3 0)) C R ft_field_6_74 hk_b3 rfl d_FW_line_41 ?_
      refine lv_if_eq (tgt := 51) hx hb d_FW_line_44 (by decide) (fun hc => ?_) (fun hc => ?_)
      · replace hE := fw_if_t hc hE
        refine lv_iconst (v := 0) hx hb d_FW_line_51 (by decide) ?_
        cases hE
        exact fw_iret C fw_X.rf rfl R d_FW_line_52
      · replace hE := fw_if_f hc hE
        refine lv_iconst (v := 1) hx hb d_FW_line_47 (by decide) ?_
        refine lv_goto (tgt := 52) hx hb d_FW_line_48 (by decide) ?_
        cases hE
        exact fw_iret C fw_X.rf rfl R d_FW_line_52
    · replace hE := fw_if_f hs4 hE
      by_cases hs5 : p2 = (1 : Int32)
      · replace hE := fw_if_t hs5 hE
        refine lv_tableIn (off := 40) (tgt := 53) hx hb d_FW_line_13 (by rw [hs5]; decide) (by rw [hs5]; decide) (by rw [hs5]; rfl) (by decide) ?_
        refine lv_aload_n hx hb d_FW_line_53 rfl (lv_at hl 0 rfl) ?_
        refine fw_get (v := .int (fw_g S0 b3 3)) C R ft_field_6_130 hk_b3 rfl d_FW_line_54 ?_
        cases hE
        exact fw_iret C fw_X.rf rfl R d_FW_line_57
      · replace hE := fw_if_f hs5 hE
        by_cases hs6 : p2 = (2 : Int32)
        · replace hE := fw_if_t hs6 hE
          refine lv_tableIn (off := 45) (tgt := 58) hx hb d_FW_line_13 (by rw [hs6]; decide) (by rw [hs6]; decide) (by rw [hs6]; rfl) (by decide) ?_
          refine lv_aload_n hx hb d_FW_line_58 rfl (lv_at hl 0 rfl) ?_
          refine fw_get (v := .int (fw_g S0 b3 5)) C R ft_field_6_184 hk_b3 rfl d_FW_line_59 ?_
          cases hE
          exact fw_iret C fw_X.rf rfl R d_FW_line_62
        · replace hE := fw_if_f hs6 hE
          refine lv_tableOut (tgt := 63) hx hb d_FW_line_13 (fw_tout 0 2 (fun k h1 h2 hk => ?_)) (by decide) ?_
          · have h3 : k = 0 ∨ k = 1 ∨ k = 2 := by omega
            rcases h3 with rfl | rfl | rfl
            · exact hs4 (by rw [hk]; rfl)
            · exact hs5 (by rw [hk]; rfl)
            · exact hs6 (by rw [hk]; rfl)
          · refine lv_iconst (v := -1) hx hb d_FW_line_63 (by decide) ?_
            cases hE
            exact fw_iret C fw_X.rf rfl R d_FW_line_64
