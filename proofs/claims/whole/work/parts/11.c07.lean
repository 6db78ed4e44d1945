set_option maxHeartbeats 4000000 in
set_option maxRecDepth 100000 in
theorem ct_Mo_fact (l : Launch) (G : fw_G) (kd0 : Nat → Option Nat) (S0 : fw_S) (a0 : Nat) (p1 : Int32) (p2 : Int32) (r0 : Int32) (S' : fw_S) (hk_a0 : kd0 a0 = some 7) (hE : F_Mo_fact a0 p1 p2 S0 = some (r0, S')) : fw_M l G y_Mo_fact prog_9_method_16_code 3 (some .int) 1 22 0 0 kd0 S0 ([.ref a0, .int p1, .int p2] : List Value) (some (.int r0)) S' (fun k => k = kd0) := by
  refine fw_start (by decide) (Nat.le_of_ble_eq_true rfl) ?_
  intro p e s m below meth c ls C hnm R hl
  clear hnm
  have hx := C.1
  have hb := C.2.1
  have hl : lv_has ls 3 [(0, .ref a0), (1, .int p1), (2, .int p2)] := hl
  unfold F_Mo_fact at hE
  refine lv_iload_n hx hb d_Mo_fact_0 rfl (lv_at hl 1 rfl) ?_
  refine lv_iconst (v := 0) hx hb d_Mo_fact_1 (by decide) ?_
  refine lv_sipush (v := 255) hx hb d_Mo_fact_2 (by decide) ?_
  obtain ⟨x1, hF, hE⟩ := fw_bind hE
  refine fw_callS (As := [.int p1, .int (0 : Int32), .int (255 : Int32)]) (rest := []) C R ft_callS_7_163 yt_Mo_isIn (ct_Mo_isIn l G kd0 S0 _ _ _ _  hF) rfl hl.1 rfl (lv_room (Nat.le_of_ble_eq_true rfl)) ⟨Nat.le_of_ble_eq_true rfl, Nat.le_of_ble_eq_true rfl⟩ ⟨Nat.le_of_ble_eq_true rfl, Nat.le_of_ble_eq_true rfl⟩ d_Mo_fact_5 (fun H locs kd2 hxkd2 hP R => ?_)
  rw [hP] at R; clear hP hxkd2
  refine lv_if_eq (tgt := 22) hx hb d_Mo_fact_8 (by decide) (fun hc => ?_) (fun hc => ?_)
  · replace hE := fw_if_t hc hE
    refine lv_iconst (v := -1) hx hb d_Mo_fact_22 (by decide) ?_
    cases hE
    exact fw_iret C fw_X.rf rfl R d_Mo_fact_23
  · replace hE := fw_if_f hc hE
    refine lv_iload_n hx hb d_Mo_fact_11 rfl (lv_at hl 2 rfl) ?_
    refine lv_iconst (v := 0) hx hb d_Mo_fact_12 (by decide) ?_
    refine lv_sipush (v := 255) hx hb d_Mo_fact_13 (by decide) ?_
    obtain ⟨x3, hF, hE⟩ := fw_bind hE
    refine fw_callS (As := [.int p2, .int (0 : Int32), .int (255 : Int32)]) (rest := []) C R ft_callS_7_163 yt_Mo_isIn (ct_Mo_isIn l G kd0 S0 _ _ _ _  hF) rfl hl.1 rfl (lv_room (Nat.le_of_ble_eq_true rfl)) ⟨Nat.le_of_ble_eq_true rfl, Nat.le_of_ble_eq_true rfl⟩ ⟨Nat.le_of_ble_eq_true rfl, Nat.le_of_ble_eq_true rfl⟩ d_Mo_fact_16 (fun H locs kd4 hxkd4 hP R => ?_)
    rw [hP] at R; clear hP hxkd4
    refine lv_if_ne (tgt := 24) hx hb d_Mo_fact_19 (by decide) (fun hc => ?_) (fun hc => ?_)
    · replace hE := fw_if_f hc hE
      refine lv_aload_n hx hb d_Mo_fact_24 rfl (lv_at hl 0 rfl) ?_
      refine fw_get (v := .int (fw_g S0 a0 38)) C R ft_field_7_184 hk_a0 rfl d_Mo_fact_25 ?_
      refine lv_bipush (v := 60) hx hb d_Mo_fact_28 (by decide) ?_
      refine lv_icmp_ne (tgt := 36) hx hb d_Mo_fact_30 (by decide) (fun hc => ?_) (fun hc => ?_)
      · replace hE := fw_if_f hc hE
        refine lv_aload_n hx hb d_Mo_fact_36 rfl (lv_at hl 0 rfl) ?_
        refine fw_getr C R ft_field_7_111 hk_a0 rfl rfl d_Mo_fact_37 (fun hq => ?_) (fun b5 hq hk_b5 => ?_)
        · replace hE := fw_om_none hq hE
          refine lv_aload_n hx hb d_Mo_fact_40 rfl (lv_at hl 0 rfl) ?_
          refine fw_get (v := .int (fw_g S0 a0 38)) C R ft_field_7_184 hk_a0 rfl d_Mo_fact_41 ?_
          refine lv_iload_n hx hb d_Mo_fact_44 rfl (lv_at hl 1 rfl) ?_
          cases hE
        · replace hE := fw_om_some hq hE
          refine lv_aload_n hx hb d_Mo_fact_40 rfl (lv_at hl 0 rfl) ?_
          refine fw_get (v := .int (fw_g S0 a0 38)) C R ft_field_7_184 hk_a0 rfl d_Mo_fact_41 ?_
          refine lv_iload_n hx hb d_Mo_fact_44 rfl (lv_at hl 1 rfl) ?_
          obtain ⟨hi6, hE⟩ := fw_ifn hE
          refine fw_iast C R (by decide) hk_b5 hi6 d_Mo_fact_45 (fun H locs R => ?_)
          obtain ⟨S7, eS7, hE⟩ := fw_let_ex hE
          rw [← eS7] at R
          clear eS7
          refine lv_aload_n hx hb d_Mo_fact_46 rfl (lv_at hl 0 rfl) ?_
          refine fw_getr C R ft_field_7_114 hk_a0 rfl rfl d_Mo_fact_47 (fun hq => ?_) (fun b8 hq hk_b8 => ?_)
          · replace hE := fw_om_none hq hE
            refine lv_aload_n hx hb d_Mo_fact_50 rfl (lv_at hl 0 rfl) ?_
            refine fw_get (v := .int (fw_g S7 a0 38)) C R ft_field_7_184 hk_a0 rfl d_Mo_fact_51 ?_
            refine lv_iload_n hx hb d_Mo_fact_54 rfl (lv_at hl 2 rfl) ?_
            cases hE
          · replace hE := fw_om_some hq hE
            refine lv_aload_n hx hb d_Mo_fact_50 rfl (lv_at hl 0 rfl) ?_
            refine fw_get (v := .int (fw_g S7 a0 38)) C R ft_field_7_184 hk_a0 rfl d_Mo_fact_51 ?_
            refine lv_iload_n hx hb d_Mo_fact_54 rfl (lv_at hl 2 rfl) ?_
            obtain ⟨hi9, hE⟩ := fw_ifn hE
            refine fw_iast C R (by decide) hk_b8 hi9 d_Mo_fact_55 (fun H locs R => ?_)
            obtain ⟨S10, eS10, hE⟩ := fw_let_ex hE
            rw [← eS10] at R
            clear eS10
            refine lv_aload_n hx hb d_Mo_fact_56 rfl (lv_at hl 0 rfl) ?_
            refine lv_dup hx hb d_Mo_fact_57 rfl ?_
            refine fw_get (v := .int (fw_g S10 a0 38)) C R ft_field_7_184 hk_a0 rfl d_Mo_fact_58 ?_
            refine lv_iconst (v := 1) hx hb d_Mo_fact_61 (by decide) ?_
            refine lv_iadd hx hb d_Mo_fact_62 ?_
            refine fw_puti C R ft_field_7_184 rfl hk_a0 d_Mo_fact_63 (fun H locs R => ?_)
            obtain ⟨S11, eS11, hE⟩ := fw_let_ex hE
            rw [← eS11] at R
            clear eS11
            refine lv_aload_n hx hb d_Mo_fact_66 rfl (lv_at hl 0 rfl) ?_
            refine fw_get (v := .int (fw_g S11 a0 38)) C R ft_field_7_184 hk_a0 rfl d_Mo_fact_67 ?_
            cases hE
            exact fw_iret C fw_X.rf rfl R d_Mo_fact_70
      · replace hE := fw_if_t hc hE
        refine lv_bipush (v := -3) hx hb d_Mo_fact_33 (by decide) ?_
        cases hE
        exact fw_iret C fw_X.rf rfl R d_Mo_fact_35
    · replace hE := fw_if_t hc hE
      refine lv_iconst (v := -1) hx hb d_Mo_fact_22 (by decide) ?_
      cases hE
      exact fw_iret C fw_X.rf rfl R d_Mo_fact_23
set_option maxHeartbeats 4000000 in
set_option maxRecDepth 100000 in
theorem ct_Mo_placeOf (l : Launch) (G : fw_G) (kd0 : Nat → Option Nat) (S0 : fw_S) (a0 : Nat) (p1 : Int32) (r0 : Int32) (hk_a0 : kd0 a0 = some 7) (hE : F_Mo_placeOf a0 p1 S0 = some r0) : fw_M l G y_Mo_placeOf prog_9_method_17_code 4 (some .int) 0 0 0 0 kd0 S0 ([.ref a0, .int p1] : List Value) (some (.int r0)) S0 (fun k => k = kd0) := by
  refine fw_start (by decide) (Nat.le_of_ble_eq_true rfl) ?_
  intro p e s m below meth c ls C hnm R hl
  clear hnm
  have hx := C.1
  have hb := C.2.1
  have hl : lv_has ls 4 [(0, .ref a0), (1, .int p1)] := hl
  have h_l4 : ∀ (n : Nat), ∀ v0 : Nat, ∀ v1 : Int32, ∀ v2 : Int32, ∀ v3 : Int32, kd0 v0 = some 7 → ∀ (H : Heap) (locs : List Loc) (ls : Array Slot), fw_R G kd0 S0 H locs → lv_has ls 4 [(0, .ref v0), (1, .int v1), (2, .int v2), (3, .int v3)] → F_Mo_placeOf_l4 S0 n v0 v1 v2 v3 = some r0 → W p l e { frames := 0, cells := 0, slots := 0, locals := 0 } s m ([.ref a0, .int p1] : List Value).toArray below meth c H locs 0 0 (MQ below (fw_Q G kd0 (some (.int r0)) S0 (fun k => k = kd0)) ([.ref a0, .int p1] : List Value).toArray s 0 0 (fw_A G)) (F0 m 4 ls []) := by
    intro n
    induction n with
    | zero =>
      intro v0 v1 v2 v3 hk_v0 H locs ls R hl hE
      rw [F_Mo_placeOf_l4] at hE
      cases hE
    | succ n ih =>
      intro v0 v1 v2 v3 hk_v0 H locs ls R hl hE
      rw [F_Mo_placeOf_l4] at hE
      refine lv_iload_n hx hb d_Mo_placeOf_4 rfl (lv_at hl 3 rfl) ?_
      refine lv_aload_n hx hb d_Mo_placeOf_5 rfl (lv_at hl 0 rfl) ?_
      refine fw_get (v := .int (fw_g S0 v0 41)) C R ft_field_7_187 hk_v0 rfl d_Mo_placeOf_6 ?_
      refine lv_icmp_ge (tgt := 34) hx hb d_Mo_placeOf_9 (by decide) (fun hc => ?_) (fun hc => ?_)
      · replace hE := fw_if_t hc hE
        refine lv_iload_n hx hb d_Mo_placeOf_34 rfl (lv_at hl 2 rfl) ?_
        cases hE
        exact fw_iret C fw_X.rf rfl R d_Mo_placeOf_35
      · replace hE := fw_if_f hc hE
        refine lv_aload_n hx hb d_Mo_placeOf_12 rfl (lv_at hl 0 rfl) ?_
        refine fw_getr C R ft_field_7_117 hk_v0 rfl rfl d_Mo_placeOf_13 (fun hq => ?_) (fun b1 hq hk_b1 => ?_)
        · replace hE := fw_om_none hq hE
          refine lv_iload_n hx hb d_Mo_placeOf_16 rfl (lv_at hl 3 rfl) ?_
          cases hE
        · replace hE := fw_om_some hq hE
          refine lv_iload_n hx hb d_Mo_placeOf_16 rfl (lv_at hl 3 rfl) ?_
          obtain ⟨hi2, hE⟩ := fw_ifn hE
          refine fw_iald C R (by decide) hk_b1 hi2 d_Mo_placeOf_17 ?_
          refine lv_iload_n hx hb d_Mo_placeOf_18 rfl (lv_at hl 1 rfl) ?_
          refine lv_icmp_ne (tgt := 26) hx hb d_Mo_placeOf_19 (by decide) (fun hc => ?_) (fun hc => ?_)
          · replace hE := fw_if_f hc hE
            refine lv_iload_n hx hb d_Mo_placeOf_26 rfl (lv_at hl 2 rfl) ?_
            refine lv_istore_n (lv' := [(2, .int v2), (0, .ref v0), (1, .int v1), (3, .int v3)]) hx hb d_Mo_placeOf_27 rfl hl (by decide) rfl (fun ls hl => ?_)
            refine lv_iinc (v := (v3 + (1 : Int32))) (lv' := [(3, .int (v3 + (1 : Int32))), (2, .int v2), (0, .ref v0), (1, .int v1)]) hx hb d_Mo_placeOf_28 hl (k := 3) rfl rfl (by decide) rfl (fun ls hl => ?_)
            refine lv_goto (tgt := 4) hx hb d_Mo_placeOf_31 (by decide) ?_
            exact ih _ _ _ _ hk_v0 _ _ _ R (lv_sub hl [2, 3, 1, 0] rfl) hE
          · replace hE := fw_if_t hc hE
            refine lv_iload_n hx hb d_Mo_placeOf_22 rfl (lv_at hl 3 rfl) ?_
            refine lv_goto (tgt := 27) hx hb d_Mo_placeOf_23 (by decide) ?_
            refine lv_istore_n (lv' := [(2, .int v3), (0, .ref v0), (1, .int v1), (3, .int v3)]) hx hb d_Mo_placeOf_27 rfl hl (by decide) rfl (fun ls hl => ?_)
            refine lv_iinc (v := (v3 + (1 : Int32))) (lv' := [(3, .int (v3 + (1 : Int32))), (2, .int v3), (0, .ref v0), (1, .int v1)]) hx hb d_Mo_placeOf_28 hl (k := 3) rfl rfl (by decide) rfl (fun ls hl => ?_)
            refine lv_goto (tgt := 4) hx hb d_Mo_placeOf_31 (by decide) ?_
            exact ih _ _ _ _ hk_v0 _ _ _ R (lv_sub hl [2, 3, 1, 0] rfl) hE
  unfold F_Mo_placeOf at hE
  refine lv_iconst (v := -1) hx hb d_Mo_placeOf_0 (by decide) ?_
  refine lv_istore_n (lv' := [(2, .int (-1 : Int32)), (0, .ref a0), (1, .int p1)]) hx hb d_Mo_placeOf_1 rfl hl (by decide) rfl (fun ls hl => ?_)
  refine lv_iconst (v := 0) hx hb d_Mo_placeOf_2 (by decide) ?_
  refine lv_istore_n (lv' := [(3, .int (0 : Int32)), (2, .int (-1 : Int32)), (0, .ref a0), (1, .int p1)]) hx hb d_Mo_placeOf_3 rfl hl (by decide) rfl (fun ls hl => ?_)
  exact h_l4 _ _ _ _ _ hk_a0 _ _ _ R (lv_sub hl [2, 3, 1, 0] rfl) hE
set_option maxHeartbeats 4000000 in
set_option maxRecDepth 100000 in
theorem ct_Mo_copy (l : Launch) (G : fw_G) (kd0 : Nat → Option Nat) (S0 : fw_S) (a0 : Nat) (p1 : Int32) (p2 : Int32) (S' : fw_S) (hk_a0 : kd0 a0 = some 7) (hE : F_Mo_copy a0 p1 p2 S0 = some S') : fw_M l G y_Mo_copy prog_9_method_18_code 4 none 0 0 0 0 kd0 S0 ([.ref a0, .int p1, .int p2] : List Value) none S' (fun k => k = kd0) := by
  refine fw_start (by decide) (Nat.le_of_ble_eq_true rfl) ?_
  intro p e s m below meth c ls C hnm R hl
  clear hnm
  have hx := C.1
  have hb := C.2.1
  have hl : lv_has ls 4 [(0, .ref a0), (1, .int p1), (2, .int p2)] := hl
  have h_l50 : ∀ (n : Nat), ∀ v0 : Nat, ∀ v1 : Int32, ∀ v2 : Int32, ∀ v3 : Int32, ∀ S0 : fw_S, kd0 v0 = some 7 → ∀ (H : Heap) (locs : List Loc) (ls : Array Slot), fw_R G kd0 S0 H locs → lv_has ls 4 [(0, .ref v0), (1, .int v1), (2, .int v2), (3, .int v3)] → F_Mo_copy_l50 n v0 v1 v2 v3 S0 = some S' → W p l e { frames := 0, cells := 0, slots := 0, locals := 0 } s m ([.ref a0, .int p1, .int p2] : List Value).toArray below meth c H locs 0 0 (MQ below (fw_Q G kd0 none S' (fun k => k = kd0)) ([.ref a0, .int p1, .int p2] : List Value).toArray s 0 0 (fw_A G)) (F0 m 50 ls []) := by
    intro n
    induction n with
    | zero =>
      intro v0 v1 v2 v3 S0 hk_v0 H locs ls R hl hE
      rw [F_Mo_copy_l50] at hE
      cases hE
    | succ n ih =>
      intro v0 v1 v2 v3 S0 hk_v0 H locs ls R hl hE
      rw [F_Mo_copy_l50] at hE
      refine lv_iload_n hx hb d_Mo_copy_50 rfl (lv_at hl 3 rfl) ?_
      refine lv_bipush (v := 60) hx hb d_Mo_copy_51 (by decide) ?_
      refine lv_icmp_ge (tgt := 106) hx hb d_Mo_copy_53 (by decide) (fun hc => ?_) (fun hc => ?_)
      · replace hE := fw_if_t hc hE
        cases hE
        exact fw_vret C fw_X.rf rfl R d_Mo_copy_106
      · replace hE := fw_if_f hc hE
        refine lv_aload_n hx hb d_Mo_copy_56 rfl (lv_at hl 0 rfl) ?_
        refine fw_getr C R ft_field_7_129 hk_v0 rfl rfl d_Mo_copy_57 (fun hq => ?_) (fun b29 hq hk_b29 => ?_)
        · replace hE := fw_om_none hq hE
          refine lv_bipush (v := 60) hx hb d_Mo_copy_60 (by decide) ?_
          refine lv_iload_n hx hb d_Mo_copy_62 rfl (lv_at hl 1 rfl) ?_
          refine lv_imul hx hb d_Mo_copy_63 ?_
          refine lv_iload_n hx hb d_Mo_copy_64 rfl (lv_at hl 3 rfl) ?_
          refine lv_iadd hx hb d_Mo_copy_65 ?_
          refine lv_aload_n hx hb d_Mo_copy_66 rfl (lv_at hl 0 rfl) ?_
          refine fw_getr C R ft_field_7_129 hk_v0 rfl rfl d_Mo_copy_67 (fun hq => ?_) (fun b30 hq hk_b30 => ?_)
          · replace hE := fw_om_none hq hE
            refine lv_bipush (v := 60) hx hb d_Mo_copy_70 (by decide) ?_
            refine lv_iload_n hx hb d_Mo_copy_72 rfl (lv_at hl 2 rfl) ?_
            refine lv_imul hx hb d_Mo_copy_73 ?_
            refine lv_iload_n hx hb d_Mo_copy_74 rfl (lv_at hl 3 rfl) ?_
            refine lv_iadd hx hb d_Mo_copy_75 ?_
            cases hE
          · replace hE := fw_om_some hq hE
            refine lv_bipush (v := 60) hx hb d_Mo_copy_70 (by decide) ?_
            refine lv_iload_n hx hb d_Mo_copy_72 rfl (lv_at hl 2 rfl) ?_
            refine lv_imul hx hb d_Mo_copy_73 ?_
            refine lv_iload_n hx hb d_Mo_copy_74 rfl (lv_at hl 3 rfl) ?_
            refine lv_iadd hx hb d_Mo_copy_75 ?_
            obtain ⟨hi31, hE⟩ := fw_ifn hE
            refine fw_iald C R (by decide) hk_b30 hi31 d_Mo_copy_76 ?_
            cases hE
        · replace hE := fw_om_some hq hE
          refine lv_bipush (v := 60) hx hb d_Mo_copy_60 (by decide) ?_
          refine lv_iload_n hx hb d_Mo_copy_62 rfl (lv_at hl 1 rfl) ?_
          refine lv_imul hx hb d_Mo_copy_63 ?_
          refine lv_iload_n hx hb d_Mo_copy_64 rfl (lv_at hl 3 rfl) ?_
          refine lv_iadd hx hb d_Mo_copy_65 ?_
          refine lv_aload_n hx hb d_Mo_copy_66 rfl (lv_at hl 0 rfl) ?_
          refine fw_getr C R ft_field_7_129 hk_v0 rfl rfl d_Mo_copy_67 (fun hq => ?_) (fun b32 hq hk_b32 => ?_)
          · replace hE := fw_om_none hq hE
            refine lv_bipush (v := 60) hx hb d_Mo_copy_70 (by decide) ?_
            refine lv_iload_n hx hb d_Mo_copy_72 rfl (lv_at hl 2 rfl) ?_
            refine lv_imul hx hb d_Mo_copy_73 ?_
            refine lv_iload_n hx hb d_Mo_copy_74 rfl (lv_at hl 3 rfl) ?_
            refine lv_iadd hx hb d_Mo_copy_75 ?_
            cases hE
          · replace hE := fw_om_some hq hE
            refine lv_bipush (v := 60) hx hb d_Mo_copy_70 (by decide) ?_
            refine lv_iload_n hx hb d_Mo_copy_72 rfl (lv_at hl 2 rfl) ?_
            refine lv_imul hx hb d_Mo_copy_73 ?_
            refine lv_iload_n hx hb d_Mo_copy_74 rfl (lv_at hl 3 rfl) ?_
            refine lv_iadd hx hb d_Mo_copy_75 ?_
            obtain ⟨hi33, hE⟩ := fw_ifn hE
            refine fw_iald C R (by decide) hk_b32 hi33 d_Mo_copy_76 ?_
            obtain ⟨hi34, hE⟩ := fw_ifn hE
            refine fw_iast C R (by decide) hk_b29 hi34 d_Mo_copy_77 (fun H locs R => ?_)
            obtain ⟨S35, eS35, hE⟩ := fw_let_ex hE
            rw [← eS35] at R
            clear eS35
            refine lv_aload_n hx hb d_Mo_copy_78 rfl (lv_at hl 0 rfl) ?_
            refine fw_getr C R ft_field_7_132 hk_v0 rfl rfl d_Mo_copy_79 (fun hq => ?_) (fun b36 hq hk_b36 => ?_)
            · replace hE := fw_om_none hq hE
              refine lv_bipush (v := 60) hx hb d_Mo_copy_82 (by decide) ?_
              refine lv_iload_n hx hb d_Mo_copy_84 rfl (lv_at hl 1 rfl) ?_
              refine lv_imul hx hb d_Mo_copy_85 ?_
              refine lv_iload_n hx hb d_Mo_copy_86 rfl (lv_at hl 3 rfl) ?_
              refine lv_iadd hx hb d_Mo_copy_87 ?_
              refine lv_aload_n hx hb d_Mo_copy_88 rfl (lv_at hl 0 rfl) ?_
              refine fw_getr C R ft_field_7_132 hk_v0 rfl rfl d_Mo_copy_89 (fun hq => ?_) (fun b37 hq hk_b37 => ?_)
              · replace hE := fw_om_none hq hE
                refine lv_bipush (v := 60) hx hb d_Mo_copy_92 (by decide) ?_
                refine lv_iload_n hx hb d_Mo_copy_94 rfl (lv_at hl 2 rfl) ?_
                refine lv_imul hx hb d_Mo_copy_95 ?_
                refine lv_iload_n hx hb d_Mo_copy_96 rfl (lv_at hl 3 rfl) ?_
                refine lv_iadd hx hb d_Mo_copy_97 ?_
                cases hE
              · replace hE := fw_om_some hq hE
                refine lv_bipush (v := 60) hx hb d_Mo_copy_92 (by decide) ?_
                refine lv_iload_n hx hb d_Mo_copy_94 rfl (lv_at hl 2 rfl) ?_
                refine lv_imul hx hb d_Mo_copy_95 ?_
                refine lv_iload_n hx hb d_Mo_copy_96 rfl (lv_at hl 3 rfl) ?_
                refine lv_iadd hx hb d_Mo_copy_97 ?_
                obtain ⟨hi38, hE⟩ := fw_ifn hE
                refine fw_iald C R (by decide) hk_b37 hi38 d_Mo_copy_98 ?_
                cases hE
            · replace hE := fw_om_some hq hE
              refine lv_bipush (v := 60) hx hb d_Mo_copy_82 (by decide) ?_
              refine lv_iload_n hx hb d_Mo_copy_84 rfl (lv_at hl 1 rfl) ?_
              refine lv_imul hx hb d_Mo_copy_85 ?_
              refine lv_iload_n hx hb d_Mo_copy_86 rfl (lv_at hl 3 rfl) ?_
              refine lv_iadd hx hb d_Mo_copy_87 ?_
              refine lv_aload_n hx hb d_Mo_copy_88 rfl (lv_at hl 0 rfl) ?_
              refine fw_getr C R ft_field_7_132 hk_v0 rfl rfl d_Mo_copy_89 (fun hq => ?_) (fun b39 hq hk_b39 => ?_)
              · replace hE := fw_om_none hq hE
                refine lv_bipush (v := 60) hx hb d_Mo_copy_92 (by decide) ?_
                refine lv_iload_n hx hb d_Mo_copy_94 rfl (lv_at hl 2 rfl) ?_
                refine lv_imul hx hb d_Mo_copy_95 ?_
                refine lv_iload_n hx hb d_Mo_copy_96 rfl (lv_at hl 3 rfl) ?_
                refine lv_iadd hx hb d_Mo_copy_97 ?_
                cases hE
              · replace hE := fw_om_some hq hE
                refine lv_bipush (v := 60) hx hb d_Mo_copy_92 (by decide) ?_
                refine lv_iload_n hx hb d_Mo_copy_94 rfl (lv_at hl 2 rfl) ?_
                refine lv_imul hx hb d_Mo_copy_95 ?_
                refine lv_iload_n hx hb d_Mo_copy_96 rfl (lv_at hl 3 rfl) ?_
                refine lv_iadd hx hb d_Mo_copy_97 ?_
                obtain ⟨hi40, hE⟩ := fw_ifn hE
                refine fw_iald C R (by decide) hk_b39 hi40 d_Mo_copy_98 ?_
                obtain ⟨hi41, hE⟩ := fw_ifn hE
                refine fw_iast C R (by decide) hk_b36 hi41 d_Mo_copy_99 (fun H locs R => ?_)
                obtain ⟨S42, eS42, hE⟩ := fw_let_ex hE
                rw [← eS42] at R
                clear eS42
                refine lv_iinc (v := (v3 + (1 : Int32))) (lv' := [(3, .int (v3 + (1 : Int32))), (0, .ref v0), (1, .int v1), (2, .int v2)]) hx hb d_Mo_copy_100 hl (k := 3) rfl rfl (by decide) rfl (fun ls hl => ?_)
                refine lv_goto (tgt := 50) hx hb d_Mo_copy_103 (by decide) ?_
                exact ih _ _ _ _ _ hk_v0 _ _ _ R (lv_sub hl [1, 2, 3, 0] rfl) hE
  unfold F_Mo_copy at hE
  refine lv_aload_n hx hb d_Mo_copy_0 rfl (lv_at hl 0 rfl) ?_
  refine fw_getr C R ft_field_7_117 hk_a0 rfl rfl d_Mo_copy_1 (fun hq => ?_) (fun b1 hq hk_b1 => ?_)
  · replace hE := fw_om_none hq hE
    refine lv_iload_n hx hb d_Mo_copy_4 rfl (lv_at hl 1 rfl) ?_
    refine lv_aload_n hx hb d_Mo_copy_5 rfl (lv_at hl 0 rfl) ?_
    refine fw_getr C R ft_field_7_117 hk_a0 rfl rfl d_Mo_copy_6 (fun hq => ?_) (fun b2 hq hk_b2 => ?_)
    · replace hE := fw_om_none hq hE
      refine lv_iload_n hx hb d_Mo_copy_9 rfl (lv_at hl 2 rfl) ?_
      cases hE
    · replace hE := fw_om_some hq hE
      refine lv_iload_n hx hb d_Mo_copy_9 rfl (lv_at hl 2 rfl) ?_
      obtain ⟨hi3, hE⟩ := fw_ifn hE
      refine fw_iald C R (by decide) hk_b2 hi3 d_Mo_copy_10 ?_
      cases hE
  · replace hE := fw_om_some hq hE
    refine lv_iload_n hx hb d_Mo_copy_4 rfl (lv_at hl 1 rfl) ?_
    refine lv_aload_n hx hb d_Mo_copy_5 rfl (lv_at hl 0 rfl) ?_
    refine fw_getr C R ft_field_7_117 hk_a0 rfl rfl d_Mo_copy_6 (fun hq => ?_) (fun b4 hq hk_b4 => ?_)
    · replace hE := fw_om_none hq hE
      refine lv_iload_n hx hb d_Mo_copy_9 rfl (lv_at hl 2 rfl) ?_
      cases hE
    · replace hE := fw_om_some hq hE
      refine lv_iload_n hx hb d_Mo_copy_9 rfl (lv_at hl 2 rfl) ?_
      obtain ⟨hi5, hE⟩ := fw_ifn hE
      refine fw_iald C R (by decide) hk_b4 hi5 d_Mo_copy_10 ?_
      obtain ⟨hi6, hE⟩ := fw_ifn hE
      refine fw_iast C R (by decide) hk_b1 hi6 d_Mo_copy_11 (fun H locs R => ?_)
      obtain ⟨S7, eS7, hE⟩ := fw_let_ex hE
      rw [← eS7] at R
      clear eS7
      refine lv_aload_n hx hb d_Mo_copy_12 rfl (lv_at hl 0 rfl) ?_
      refine fw_getr C R ft_field_7_120 hk_a0 rfl rfl d_Mo_copy_13 (fun hq => ?_) (fun b8 hq hk_b8 => ?_)
      · replace hE := fw_om_none hq hE
        refine lv_iload_n hx hb d_Mo_copy_16 rfl (lv_at hl 1 rfl) ?_
        refine lv_aload_n hx hb d_Mo_copy_17 rfl (lv_at hl 0 rfl) ?_
        refine fw_getr C R ft_field_7_120 hk_a0 rfl rfl d_Mo_copy_18 (fun hq => ?_) (fun b9 hq hk_b9 => ?_)
        · replace hE := fw_om_none hq hE
          refine lv_iload_n hx hb d_Mo_copy_21 rfl (lv_at hl 2 rfl) ?_
          cases hE
        · replace hE := fw_om_some hq hE
          refine lv_iload_n hx hb d_Mo_copy_21 rfl (lv_at hl 2 rfl) ?_
          obtain ⟨hi10, hE⟩ := fw_ifn hE
          refine fw_iald C R (by decide) hk_b9 hi10 d_Mo_copy_22 ?_
          cases hE
      · replace hE := fw_om_some hq hE
        refine lv_iload_n hx hb d_Mo_copy_16 rfl (lv_at hl 1 rfl) ?_
        refine lv_aload_n hx hb d_Mo_copy_17 rfl (lv_at hl 0 rfl) ?_
        refine fw_getr C R ft_field_7_120 hk_a0 rfl rfl d_Mo_copy_18 (fun hq => ?_) (fun b11 hq hk_b11 => ?_)
        · replace hE := fw_om_none hq hE
          refine lv_iload_n hx hb d_Mo_copy_21 rfl (lv_at hl 2 rfl) ?_
          cases hE
        · replace hE := fw_om_some hq hE
          refine lv_iload_n hx hb d_Mo_copy_21 rfl (lv_at hl 2 rfl) ?_
          obtain ⟨hi12, hE⟩ := fw_ifn hE
          refine fw_iald C R (by decide) hk_b11 hi12 d_Mo_copy_22 ?_
          obtain ⟨hi13, hE⟩ := fw_ifn hE
          refine fw_iast C R (by decide) hk_b8 hi13 d_Mo_copy_23 (fun H locs R => ?_)
          obtain ⟨S14, eS14, hE⟩ := fw_let_ex hE
          rw [← eS14] at R
          clear eS14
          refine lv_aload_n hx hb d_Mo_copy_24 rfl (lv_at hl 0 rfl) ?_
          refine fw_getr C R ft_field_7_123 hk_a0 rfl rfl d_Mo_copy_25 (fun hq => ?_) (fun b15 hq hk_b15 => ?_)
          · replace hE := fw_om_none hq hE
            refine lv_iload_n hx hb d_Mo_copy_28 rfl (lv_at hl 1 rfl) ?_
            refine lv_aload_n hx hb d_Mo_copy_29 rfl (lv_at hl 0 rfl) ?_
            refine fw_getr C R ft_field_7_123 hk_a0 rfl rfl d_Mo_copy_30 (fun hq => ?_) (fun b16 hq hk_b16 => ?_)
            · replace hE := fw_om_none hq hE
              refine lv_iload_n hx hb d_Mo_copy_33 rfl (lv_at hl 2 rfl) ?_
              cases hE
            · replace hE := fw_om_some hq hE
              refine lv_iload_n hx hb d_Mo_copy_33 rfl (lv_at hl 2 rfl) ?_
              obtain ⟨hi17, hE⟩ := fw_ifn hE
              refine fw_iald C R (by decide) hk_b16 hi17 d_Mo_copy_34 ?_
              cases hE
          · replace hE := fw_om_some hq hE
            refine lv_iload_n hx hb d_Mo_copy_28 rfl (lv_at hl 1 rfl) ?_
            refine lv_aload_n hx hb d_Mo_copy_29 rfl (lv_at hl 0 rfl) ?_
            refine fw_getr C R ft_field_7_123 hk_a0 rfl rfl d_Mo_copy_30 (fun hq => ?_) (fun b18 hq hk_b18 => ?_)
            · replace hE := fw_om_none hq hE
              refine lv_iload_n hx hb d_Mo_copy_33 rfl (lv_at hl 2 rfl) ?_
              cases hE
            · replace hE := fw_om_some hq hE
              refine lv_iload_n hx hb d_Mo_copy_33 rfl (lv_at hl 2 rfl) ?_
              obtain ⟨hi19, hE⟩ := fw_ifn hE
              refine fw_iald C R (by decide) hk_b18 hi19 d_Mo_copy_34 ?_
              obtain ⟨hi20, hE⟩ := fw_ifn hE
              refine fw_iast C R (by decide) hk_b15 hi20 d_Mo_copy_35 (fun H locs R => ?_)
              obtain ⟨S21, eS21, hE⟩ := fw_let_ex hE
              rw [← eS21] at R
              clear eS21
              refine lv_aload_n hx hb d_Mo_copy_36 rfl (lv_at hl 0 rfl) ?_
              refine fw_getr C R ft_field_7_126 hk_a0 rfl rfl d_Mo_copy_37 (fun hq => ?_) (fun b22 hq hk_b22 => ?_)
              · replace hE := fw_om_none hq hE
                refine lv_iload_n hx hb d_Mo_copy_40 rfl (lv_at hl 1 rfl) ?_
                refine lv_aload_n hx hb d_Mo_copy_41 rfl (lv_at hl 0 rfl) ?_
                refine fw_getr C R ft_field_7_126 hk_a0 rfl rfl d_Mo_copy_42 (fun hq => ?_) (fun b23 hq hk_b23 => ?_)
                · replace hE := fw_om_none hq hE
                  refine lv_iload_n hx hb d_Mo_copy_45 rfl (lv_at hl 2 rfl) ?_
                  cases hE
                · replace hE := fw_om_some hq hE
                  refine lv_iload_n hx hb d_Mo_copy_45 rfl (lv_at hl 2 rfl) ?_
                  obtain ⟨hi24, hE⟩ := fw_ifn hE
                  refine fw_iald C R (by decide) hk_b23 hi24 d_Mo_copy_46 ?_
                  cases hE
              · replace hE := fw_om_some hq hE
                refine lv_iload_n hx hb d_Mo_copy_40 rfl (lv_at hl 1 rfl) ?_
                refine lv_aload_n hx hb d_Mo_copy_41 rfl (lv_at hl 0 rfl) ?_
                refine fw_getr C R ft_field_7_126 hk_a0 rfl rfl d_Mo_copy_42 (fun hq => ?_) (fun b25 hq hk_b25 => ?_)
                · replace hE := fw_om_none hq hE
                  refine lv_iload_n hx hb d_Mo_copy_45 rfl (lv_at hl 2 rfl) ?_
                  cases hE
                · replace hE := fw_om_some hq hE
                  refine lv_iload_n hx hb d_Mo_copy_45 rfl (lv_at hl 2 rfl) ?_
                  obtain ⟨hi26, hE⟩ := fw_ifn hE
                  refine fw_iald C R (by decide) hk_b25 hi26 d_Mo_copy_46 ?_
                  obtain ⟨hi27, hE⟩ := fw_ifn hE
                  refine fw_iast C R (by decide) hk_b22 hi27 d_Mo_copy_47 (fun H locs R => ?_)
                  obtain ⟨S28, eS28, hE⟩ := fw_let_ex hE
                  rw [← eS28] at R
                  clear eS28
                  refine lv_iconst (v := 0) hx hb d_Mo_copy_48 (by decide) ?_
                  refine lv_istore_n (lv' := [(3, .int (0 : Int32)), (0, .ref a0), (1, .int p1), (2, .int p2)]) hx hb d_Mo_copy_49 rfl hl (by decide) rfl (fun ls hl => ?_)
                  exact h_l50 _ _ _ _ _ _ hk_a0 _ _ _ R (lv_sub hl [1, 2, 3, 0] rfl) hE
set_option maxHeartbeats 4000000 in
set_option maxRecDepth 100000 in
theorem ct_Mo_forget (l : Launch) (G : fw_G) (kd0 : Nat → Option Nat) (S0 : fw_S) (a0 : Nat) (p1 : Int32) (S' : fw_S) (hk_a0 : kd0 a0 = some 7) (hE : F_Mo_forget a0 p1 S0 = some S') : fw_M l G y_Mo_forget prog_9_method_19_code 3 none 1 23 0 0 kd0 S0 ([.ref a0, .int p1] : List Value) none S' (fun k => k = kd0) := by
  refine fw_start (by decide) (Nat.le_of_ble_eq_true rfl) ?_
  intro p e s m below meth c ls C hnm R hl
  clear hnm
  have hx := C.1
  have hb := C.2.1
  have hl : lv_has ls 3 [(0, .ref a0), (1, .int p1)] := hl
  have h_l12 : ∀ (n : Nat), ∀ v0 : Nat, ∀ v2 : Int32, ∀ S0 : fw_S, kd0 v0 = some 7 → ∀ (H : Heap) (locs : List Loc) (ls : Array Slot), fw_R G kd0 S0 H locs → lv_has ls 3 [(0, .ref v0), (2, .int v2)] → F_Mo_forget_l12 n v0 v2 S0 = some S' → W p l e { frames := 1, cells := 0, slots := 0, locals := 23 } s m ([.ref a0, .int p1] : List Value).toArray below meth c H locs 0 0 (MQ below (fw_Q G kd0 none S' (fun k => k = kd0)) ([.ref a0, .int p1] : List Value).toArray s 0 0 (fw_A G)) (F0 m 12 ls []) := by
    intro n
    induction n with
    | zero =>
      intro v0 v2 S0 hk_v0 H locs ls R hl hE
      rw [F_Mo_forget_l12] at hE
      cases hE
    | succ n ih =>
      intro v0 v2 S0 hk_v0 H locs ls R hl hE
      rw [F_Mo_forget_l12] at hE
      refine lv_iload_n hx hb d_Mo_forget_12 rfl (lv_at hl 1 rfl) ?_
      refine lv_aload_n hx hb d_Mo_forget_13 rfl (lv_at hl 0 rfl) ?_
      refine fw_get (v := .int (fw_g S0 v0 41)) C R ft_field_7_187 hk_v0 rfl d_Mo_forget_14 ?_
      refine lv_icmp_ge (tgt := 34) hx hb d_Mo_forget_17 (by decide) (fun hc => ?_) (fun hc => ?_)
      · replace hE := fw_if_t hc hE
        cases hE
        exact fw_vret C fw_X.rf rfl R d_Mo_forget_34
      · replace hE := fw_if_f hc hE
        refine lv_aload_n hx hb d_Mo_forget_20 rfl (lv_at hl 0 rfl) ?_
        refine lv_iload_n hx hb d_Mo_forget_21 rfl (lv_at hl 1 rfl) ?_
        refine lv_iload_n hx hb d_Mo_forget_22 rfl (lv_at hl 1 rfl) ?_
        refine lv_iconst (v := 1) hx hb d_Mo_forget_23 (by decide) ?_
        refine lv_iadd hx hb d_Mo_forget_24 ?_
        obtain ⟨S2, hF, hE⟩ := fw_bind hE
        refine fw_callV (As := [.int v2, .int (v2 + (1 : Int32))]) (rest := []) C R ft_callV_7_190 yi_Mo_copy ys_Mo_copy (ct_Mo_copy l G kd0 S0 _ _ _ _ hk_v0 hF) hk_v0 (by decide) rfl rfl hl.1 rfl (lv_room (Nat.le_of_ble_eq_true rfl)) ⟨Nat.le_of_ble_eq_true rfl, Nat.le_of_ble_eq_true rfl⟩ ⟨Nat.le_of_ble_eq_true rfl, Nat.le_of_ble_eq_true rfl⟩ d_Mo_forget_25 (fun H locs kd3 hxkd3 hP R => ?_)
        rw [hP] at R; clear hP hxkd3
        refine lv_iinc (v := (v2 + (1 : Int32))) (lv' := [(2, .int (v2 + (1 : Int32))), (0, .ref v0)]) hx hb d_Mo_forget_28 hl (k := 1) rfl rfl (by decide) rfl (fun ls hl => ?_)
        refine lv_goto (tgt := 12) hx hb d_Mo_forget_31 (by decide) ?_
        exact ih _ _ _ hk_v0 _ _ _ R (lv_sub hl [1, 0] rfl) hE
  unfold F_Mo_forget at hE
  refine lv_aload_n hx hb d_Mo_forget_0 rfl (lv_at hl 0 rfl) ?_
  refine lv_dup hx hb d_Mo_forget_1 rfl ?_
  refine fw_get (v := .int (fw_g S0 a0 41)) C R ft_field_7_187 hk_a0 rfl d_Mo_forget_2 ?_
  refine lv_iconst (v := 1) hx hb d_Mo_forget_5 (by decide) ?_
  refine lv_isub hx hb d_Mo_forget_6 ?_
  refine fw_puti C R ft_field_7_187 rfl hk_a0 d_Mo_forget_7 (fun H locs R => ?_)
  obtain ⟨S1, eS1, hE⟩ := fw_let_ex hE
  rw [← eS1] at R
  clear eS1
  refine lv_iload_n hx hb d_Mo_forget_10 rfl (lv_at hl 1 rfl) ?_
  refine lv_istore_n (lv' := [(2, .int p1), (0, .ref a0), (1, .int p1)]) hx hb d_Mo_forget_11 rfl hl (by decide) rfl (fun ls hl => ?_)
  exact h_l12 _ _ _ _ hk_a0 _ _ _ R (lv_sub hl [1, 0] rfl) hE
set_option maxHeartbeats 4000000 in
set_option maxRecDepth 100000 in
theorem ct_Mo_answer (l : Launch) (G : fw_G) (kd0 : Nat → Option Nat) (S0 : fw_S) (a0 : Nat) (p1 : Int32) (p2 : Int32) (p3 : Int32) (p4 : Int32) (S' : fw_S) (hk_a0 : kd0 a0 = some 7) (hE : F_Mo_answer a0 p1 p2 p3 p4 S0 = some S') : fw_M l G y_Mo_answer prog_9_method_20_code 7 none 1 26 0 0 kd0 S0 ([.ref a0, .int p1, .int p2, .int p3, .int p4] : List Value) none S' (fun k => k = kd0) := by
  refine fw_start (by decide) (Nat.le_of_ble_eq_true rfl) ?_
  intro p e s m below meth c ls C hnm R hl
  clear hnm
  have hx := C.1
  have hb := C.2.1
  have hl : lv_has ls 7 [(0, .ref a0), (1, .int p1), (2, .int p2), (3, .int p3), (4, .int p4)] := hl
  have h_j100 : ∀ v0 : Nat, ∀ v2 : Int32, ∀ S0 : fw_S, kd0 v0 = some 7 → ∀ (H : Heap) (locs : List Loc) (ls : Array Slot), fw_R G kd0 S0 H locs → lv_has ls 7 [(0, .ref v0), (2, .int v2)] → F_Mo_answer_j100 v0 v2 S0 = some S' → W p l e { frames := 1, cells := 0, slots := 0, locals := 26 } s m ([.ref a0, .int p1, .int p2, .int p3, .int p4] : List Value).toArray below meth c H locs 0 0 (MQ below (fw_Q G kd0 none S' (fun k => k = kd0)) ([.ref a0, .int p1, .int p2, .int p3, .int p4] : List Value).toArray s 0 0 (fw_A G)) (F0 m 100 ls []) := by
    intro v0 v2 S0 hk_v0 H locs ls R hl hE
    unfold F_Mo_answer_j100 at hE
    refine lv_aload_n hx hb d_Mo_answer_100 rfl (lv_at hl 0 rfl) ?_
    refine lv_iconst (v := 4) hx hb d_Mo_answer_101 (by decide) ?_
    refine lv_iconst (v := 2) hx hb d_Mo_answer_102 (by decide) ?_
    refine lv_iload_n hx hb d_Mo_answer_103 rfl (lv_at hl 1 rfl) ?_
    obtain ⟨x12, S11, hF, hE⟩ := fw_b2_ex hE
    refine fw_callV (As := [.int (4 : Int32), .int (2 : Int32), .int v2]) (rest := []) C R ft_callV_7_151 yi_Mo_send ys_Mo_send (ct_Mo_send l G kd0 S0 _ _ _ _ _ _ hk_v0 hF) hk_v0 (by decide) rfl rfl hl.1 rfl (lv_room (Nat.le_of_ble_eq_true rfl)) ⟨Nat.le_of_ble_eq_true rfl, Nat.le_of_ble_eq_true rfl⟩ ⟨Nat.le_of_ble_eq_true rfl, Nat.le_of_ble_eq_true rfl⟩ d_Mo_answer_104 (fun H locs kd13 hxkd13 hP R => ?_)
    rw [hP] at R; clear hP hxkd13
    refine lv_pop hx hb d_Mo_answer_107 rfl ?_
    cases hE
    exact fw_vret C fw_X.rf rfl R d_Mo_answer_108
  have h_l41 : ∀ (n : Nat), ∀ v0 : Nat, ∀ v1 : Int32, ∀ v2 : Int32, ∀ v4 : Int32, ∀ v6 : Int32, ∀ S0 : fw_S, kd0 v0 = some 7 → ∀ (H : Heap) (locs : List Loc) (ls : Array Slot), fw_R G kd0 S0 H locs → lv_has ls 7 [(0, .ref v0), (1, .int v1), (2, .int v2), (4, .int v4), (6, .int v6)] → F_Mo_answer_l41 n v0 v1 v2 v4 v6 S0 = some S' → W p l e { frames := 1, cells := 0, slots := 0, locals := 26 } s m ([.ref a0, .int p1, .int p2, .int p3, .int p4] : List Value).toArray below meth c H locs 0 0 (MQ below (fw_Q G kd0 none S' (fun k => k = kd0)) ([.ref a0, .int p1, .int p2, .int p3, .int p4] : List Value).toArray s 0 0 (fw_A G)) (F0 m 41 ls []) := by
    intro n
    induction n with
    | zero =>
      intro v0 v1 v2 v4 v6 S0 hk_v0 H locs ls R hl hE
      rw [F_Mo_answer_l41] at hE
      cases hE
    | succ n ih =>
      intro v0 v1 v2 v4 v6 S0 hk_v0 H locs ls R hl hE
      rw [F_Mo_answer_l41] at hE
      refine lv_iload hx hb d_Mo_answer_41 (lv_at hl 4 rfl) ?_
      refine lv_aload_n hx hb d_Mo_answer_43 rfl (lv_at hl 0 rfl) ?_
      refine fw_getr C R ft_field_7_126 hk_v0 rfl rfl d_Mo_answer_44 (fun hq => ?_) (fun b9 hq hk_b9 => ?_)
      · replace hE := fw_om_none hq hE
        refine lv_iload_n hx hb d_Mo_answer_47 rfl (lv_at hl 1 rfl) ?_
        cases hE
      · replace hE := fw_om_some hq hE
        refine lv_iload_n hx hb d_Mo_answer_47 rfl (lv_at hl 1 rfl) ?_
        obtain ⟨hi10, hE⟩ := fw_ifn hE
        refine fw_iald C R (by decide) hk_b9 hi10 d_Mo_answer_48 ?_
        refine lv_icmp_ge (tgt := 100) hx hb d_Mo_answer_49 (by decide) (fun hc => ?_) (fun hc => ?_)
        · replace hE := fw_if_t hc hE
          exact h_j100 _ _ _ hk_v0 _ _ _ R (lv_sub hl [0, 2] rfl) hE
        · replace hE := fw_if_f hc hE
          refine lv_iload hx hb d_Mo_answer_52 (lv_at hl 4 rfl) ?_
          refine lv_iload hx hb d_Mo_answer_54 (lv_at hl 3 rfl) ?_
          refine lv_bipush (v := 8) hx hb d_Mo_answer_56 (by decide) ?_
          refine lv_iadd hx hb d_Mo_answer_58 ?_
          refine lv_icmp_ge (tgt := 100) hx hb d_Mo_answer_59 (by decide) (fun hc => ?_) (fun hc => ?_)
          · replace hE := fw_if_t hc hE
            exact h_j100 _ _ _ hk_v0 _ _ _ R (lv_sub hl [0, 2] rfl) hE
          · replace hE := fw_if_f hc hE
            refine lv_aload_n hx hb d_Mo_answer_62 rfl (lv_at hl 0 rfl) ?_
            refine lv_aload_n hx hb d_Mo_answer_63 rfl (lv_at hl 0 rfl) ?_
            refine fw_getr C R ft_field_7_129 hk_v0 rfl rfl d_Mo_answer_64 (fun hq => ?_) (fun b14 hq hk_b14 => ?_)
            · replace hE := fw_om_none hq hE
              refine lv_bipush (v := 60) hx hb d_Mo_answer_67 (by decide) ?_
              refine lv_iload_n hx hb d_Mo_answer_69 rfl (lv_at hl 1 rfl) ?_
              refine lv_imul hx hb d_Mo_answer_70 ?_
              refine lv_iload hx hb d_Mo_answer_71 (lv_at hl 4 rfl) ?_
              refine lv_iadd hx hb d_Mo_answer_73 ?_
              cases hE
            · replace hE := fw_om_some hq hE
              refine lv_bipush (v := 60) hx hb d_Mo_answer_67 (by decide) ?_
              refine lv_iload_n hx hb d_Mo_answer_69 rfl (lv_at hl 1 rfl) ?_
              refine lv_imul hx hb d_Mo_answer_70 ?_
              refine lv_iload hx hb d_Mo_answer_71 (lv_at hl 4 rfl) ?_
              refine lv_iadd hx hb d_Mo_answer_73 ?_
              obtain ⟨hi15, hE⟩ := fw_ifn hE
              refine fw_iald C R (by decide) hk_b14 hi15 d_Mo_answer_74 ?_
              obtain ⟨S16, hF, hE⟩ := fw_bind hE
              refine fw_callV (As := [.int (fw_g S0 b14 (((60 : Int32) * v1) + v6).toNatClampNeg)]) (rest := []) C R ft_callV_7_144 yi_Mo_put ys_Mo_put (ct_Mo_put l G kd0 S0 _ _ _ hk_v0 hF) hk_v0 (by decide) rfl rfl hl.1 rfl (lv_room (Nat.le_of_ble_eq_true rfl)) ⟨Nat.le_of_ble_eq_true rfl, Nat.le_of_ble_eq_true rfl⟩ ⟨Nat.le_of_ble_eq_true rfl, Nat.le_of_ble_eq_true rfl⟩ d_Mo_answer_75 (fun H locs kd17 hxkd17 hP R => ?_)
              rw [hP] at R; clear hP hxkd17
              refine lv_aload_n hx hb d_Mo_answer_78 rfl (lv_at hl 0 rfl) ?_
              refine lv_aload_n hx hb d_Mo_answer_79 rfl (lv_at hl 0 rfl) ?_
              refine fw_getr C R ft_field_7_132 hk_v0 rfl rfl d_Mo_answer_80 (fun hq => ?_) (fun b18 hq hk_b18 => ?_)
              · replace hE := fw_om_none hq hE
                refine lv_bipush (v := 60) hx hb d_Mo_answer_83 (by decide) ?_
                refine lv_iload_n hx hb d_Mo_answer_85 rfl (lv_at hl 1 rfl) ?_
                refine lv_imul hx hb d_Mo_answer_86 ?_
                refine lv_iload hx hb d_Mo_answer_87 (lv_at hl 4 rfl) ?_
                refine lv_iadd hx hb d_Mo_answer_89 ?_
                cases hE
              · replace hE := fw_om_some hq hE
                refine lv_bipush (v := 60) hx hb d_Mo_answer_83 (by decide) ?_
                refine lv_iload_n hx hb d_Mo_answer_85 rfl (lv_at hl 1 rfl) ?_
                refine lv_imul hx hb d_Mo_answer_86 ?_
                refine lv_iload hx hb d_Mo_answer_87 (lv_at hl 4 rfl) ?_
                refine lv_iadd hx hb d_Mo_answer_89 ?_
                obtain ⟨hi19, hE⟩ := fw_ifn hE
                refine fw_iald C R (by decide) hk_b18 hi19 d_Mo_answer_90 ?_
                obtain ⟨S20, hF, hE⟩ := fw_bind hE
                refine fw_callV (As := [.int (fw_g S16 b18 (((60 : Int32) * v1) + v6).toNatClampNeg)]) (rest := []) C R ft_callV_7_144 yi_Mo_put ys_Mo_put (ct_Mo_put l G kd0 S16 _ _ _ hk_v0 hF) hk_v0 (by decide) rfl rfl hl.1 rfl (lv_room (Nat.le_of_ble_eq_true rfl)) ⟨Nat.le_of_ble_eq_true rfl, Nat.le_of_ble_eq_true rfl⟩ ⟨Nat.le_of_ble_eq_true rfl, Nat.le_of_ble_eq_true rfl⟩ d_Mo_answer_91 (fun H locs kd21 hxkd21 hP R => ?_)
                rw [hP] at R; clear hP hxkd21
                refine lv_iinc (v := (v6 + (1 : Int32))) (lv' := [(6, .int (v6 + (1 : Int32))), (0, .ref v0), (1, .int v1), (2, .int v2), (4, .int v4)]) hx hb d_Mo_answer_94 hl (k := 4) rfl rfl (by decide) rfl (fun ls hl => ?_)
                refine lv_goto (tgt := 41) hx hb d_Mo_answer_97 (by decide) ?_
                exact ih _ _ _ _ _ _ hk_v0 _ _ _ R (lv_sub hl [1, 2, 3, 4, 0] rfl) hE
  unfold F_Mo_answer at hE
  refine lv_aload_n hx hb d_Mo_answer_0 rfl (lv_at hl 0 rfl) ?_
  refine fw_getr C R ft_field_7_126 hk_a0 rfl rfl d_Mo_answer_1 (fun hq => ?_) (fun b1 hq hk_b1 => ?_)
  · replace hE := fw_om_none hq hE
    refine lv_iload_n hx hb d_Mo_answer_4 rfl (lv_at hl 1 rfl) ?_
    cases hE
  · replace hE := fw_om_some hq hE
    refine lv_iload_n hx hb d_Mo_answer_4 rfl (lv_at hl 1 rfl) ?_
    obtain ⟨hi2, hE⟩ := fw_ifn hE
    refine fw_iald C R (by decide) hk_b1 hi2 d_Mo_answer_5 ?_
    refine lv_iload hx hb d_Mo_answer_6 (lv_at hl 4 rfl) ?_
    refine lv_isub hx hb d_Mo_answer_8 ?_
    refine lv_topi (fun x3 ex3 => ?_)
    replace hE := fw_let_use ex3 hE
    clear ex3
    refine lv_istore (lv' := [(5, .int x3), (0, .ref a0), (1, .int p1), (2, .int p2), (3, .int p3), (4, .int p4)]) hx hb d_Mo_answer_9 hl (by decide) rfl (fun ls hl => ?_)
    refine lv_aload_n hx hb d_Mo_answer_11 rfl (lv_at hl 1 rfl) ?_
    refine lv_iconst (v := 0) hx hb d_Mo_answer_12 (by decide) ?_
    refine fw_puti C R ft_field_7_138 rfl hk_a0 d_Mo_answer_13 (fun H locs R => ?_)
    obtain ⟨S4, eS4, hE⟩ := fw_let_ex hE
    rw [← eS4] at R
    clear eS4
    refine lv_aload_n hx hb d_Mo_answer_16 rfl (lv_at hl 1 rfl) ?_
    refine lv_iload_n hx hb d_Mo_answer_17 rfl (lv_at hl 4 rfl) ?_
    obtain ⟨S5, hF, hE⟩ := fw_bind hE
    refine fw_callV (As := [.int p3]) (rest := []) C R ft_callV_7_144 yi_Mo_put ys_Mo_put (ct_Mo_put l G kd0 S4 _ _ _ hk_a0 hF) hk_a0 (by decide) rfl rfl hl.1 rfl (lv_room (Nat.le_of_ble_eq_true rfl)) ⟨Nat.le_of_ble_eq_true rfl, Nat.le_of_ble_eq_true rfl⟩ ⟨Nat.le_of_ble_eq_true rfl, Nat.le_of_ble_eq_true rfl⟩ d_Mo_answer_18 (fun H locs kd6 hxkd6 hP R => ?_)
    rw [hP] at R; clear hP hxkd6
    refine lv_aload_n hx hb d_Mo_answer_21 rfl (lv_at hl 1 rfl) ?_
    refine lv_iload hx hb d_Mo_answer_22 (lv_at hl 0 rfl) ?_
    refine lv_bipush (v := 8) hx hb d_Mo_answer_24 (by decide) ?_
    refine lv_icmp_le (tgt := 33) hx hb d_Mo_answer_26 (by decide) (fun hc => ?_) (fun hc => ?_)
    · replace hE := fw_if_t hc hE
      refine lv_iconst (v := 0) hx hb d_Mo_answer_33 (by decide) ?_
      obtain ⟨S7, hF, hE⟩ := fw_bind hE
      refine fw_callV (As := [.int (0 : Int32)]) (rest := []) C R ft_callV_7_144 yi_Mo_put ys_Mo_put (ct_Mo_put l G kd0 S5 _ _ _ hk_a0 hF) hk_a0 (by decide) rfl rfl hl.1 rfl (lv_room (Nat.le_of_ble_eq_true rfl)) ⟨Nat.le_of_ble_eq_true rfl, Nat.le_of_ble_eq_true rfl⟩ ⟨Nat.le_of_ble_eq_true rfl, Nat.le_of_ble_eq_true rfl⟩ d_Mo_answer_34 (fun H locs kd8 hxkd8 hP R => ?_)
      rw [hP] at R; clear hP hxkd8
      refine lv_iload hx hb d_Mo_answer_37 (lv_at hl 5 rfl) ?_
      refine lv_istore (lv' := [(6, .int p4), (5, .int x3), (0, .ref a0), (1, .int p1), (2, .int p2), (3, .int p3), (4, .int p4)]) hx hb d_Mo_answer_39 hl (by decide) rfl (fun ls hl => ?_)
      exact h_l41 _ _ _ _ _ _ _ hk_a0 _ _ _ R (lv_sub hl [2, 3, 4, 6, 0] rfl) hE
    · replace hE := fw_if_f hc hE
      refine lv_iconst (v := 1) hx hb d_Mo_answer_29 (by decide) ?_
      refine lv_goto (tgt := 34) hx hb d_Mo_answer_30 (by decide) ?_
      obtain ⟨S22, hF, hE⟩ := fw_bind hE
      refine fw_callV (As := [.int (1 : Int32)]) (rest := []) C R ft_callV_7_144 yi_Mo_put ys_Mo_put (ct_Mo_put l G kd0 S5 _ _ _ hk_a0 hF) hk_a0 (by decide) rfl rfl hl.1 rfl (lv_room (Nat.le_of_ble_eq_true rfl)) ⟨Nat.le_of_ble_eq_true rfl, Nat.le_of_ble_eq_true rfl⟩ ⟨Nat.le_of_ble_eq_true rfl, Nat.le_of_ble_eq_true rfl⟩ d_Mo_answer_34 (fun H locs kd23 hxkd23 hP R => ?_)
      rw [hP] at R; clear hP hxkd23
      refine lv_iload hx hb d_Mo_answer_37 (lv_at hl 5 rfl) ?_
      refine lv_istore (lv' := [(6, .int p4), (5, .int x3), (0, .ref a0), (1, .int p1), (2, .int p2), (3, .int p3), (4, .int p4)]) hx hb d_Mo_answer_39 hl (by decide) rfl (fun ls hl => ?_)
      exact h_l41 _ _ _ _ _ _ _ hk_a0 _ _ _ R (lv_sub hl [2, 3, 4, 6, 0] rfl) hE
set_option maxHeartbeats 4000000 in
set_option maxRecDepth 100000 in
theorem ct_Mo_remember (l : Launch) (G : fw_G) (kd0 : Nat → Option Nat) (S0 : fw_S) (a0 : Nat) (p1 : Int32) (p2 : Int32) (S' : fw_S) (hk_a0 : kd0 a0 = some 7) (hE : F_Mo_remember a0 p1 p2 S0 = some S') : fw_M l G y_Mo_remember prog_9_method_21_code 7 none 2 45 0 0 kd0 S0 ([.ref a0, .int p1, .int p2] : List Value) none S' (fun k => k = kd0) := by
  refine fw_start (by decide) (Nat.le_of_ble_eq_true rfl) ?_
  intro p e s m below meth c ls C hnm R hl
  clear hnm
  have hx := C.1
  have hb := C.2.1
  have hl : lv_has ls 7 [(0, .ref a0), (1, .int p1), (2, .int p2)] := hl
  have h_l113 : ∀ (k97 : Nat → Int32 → Int32 → Int32 → fw_S → Option (fw_S)), (∀ v0 : Nat, ∀ v2 : Int32, ∀ v4 : Int32, ∀ v5 : Int32, ∀ S0 : fw_S, kd0 v0 = some 7 → ∀ (H : Heap) (locs : List Loc) (ls : Array Slot), fw_R G kd0 S0 H locs → lv_has ls 7 [(0, .ref v0), (2, .int v2), (4, .int v4), (5, .int v5)] → k97 v0 v2 v4 v5 S0 = some S' → W p l e { frames := 2, cells := 0, slots := 0, locals := 45 } s m ([.ref a0, .int p1, .int p2] : List Value).toArray below meth c H locs 0 0 (MQ below (fw_Q G kd0 none S' (fun k => k = kd0)) ([.ref a0, .int p1, .int p2] : List Value).toArray s 0 0 (fw_A G)) (F0 m 97 ls [])) → ∀ (n : Nat), ∀ v0 : Nat, ∀ v2 : Int32, ∀ v4 : Int32, ∀ v5 : Int32, ∀ v6 : Int32, ∀ S0 : fw_S, kd0 v0 = some 7 → ∀ (H : Heap) (locs : List Loc) (ls : Array Slot), fw_R G kd0 S0 H locs → lv_has ls 7 [(0, .ref v0), (2, .int v2), (4, .int v4), (5, .int v5), (6, .int v6)] → F_Mo_remember_l113 k97 n v0 v2 v4 v5 v6 S0 = some S' → W p l e { frames := 2, cells := 0, slots := 0, locals := 45 } s m ([.ref a0, .int p1, .int p2] : List Value).toArray below meth c H locs 0 0 (MQ below (fw_Q G kd0 none S' (fun k => k = kd0)) ([.ref a0, .int p1, .int p2] : List Value).toArray s 0 0 (fw_A G)) (F0 m 113 ls []) := by
    intro k97 hk97 n
    induction n with
    | zero =>
      intro v0 v2 v4 v5 v6 S0 hk_v0 H locs ls R hl hE
      rw [F_Mo_remember_l113] at hE
      cases hE
    | succ n ih =>
      intro v0 v2 v4 v5 v6 S0 hk_v0 H locs ls R hl hE
      rw [F_Mo_remember_l113] at hE
      refine lv_iload hx hb d_Mo_remember_113 (lv_at hl 4 rfl) ?_
      refine lv_aload_n hx hb d_Mo_remember_115 rfl (lv_at hl 0 rfl) ?_
      refine fw_get (v := .int (fw_g S0 v0 38)) C R ft_field_7_184 hk_v0 rfl d_Mo_remember_116 ?_
      refine lv_icmp_ge (tgt := 222) hx hb d_Mo_remember_119 (by decide) (fun hc => ?_) (fun hc => ?_)
      · replace hE := fw_if_t hc hE
        refine lv_iinc (v := (v5 + (1 : Int32))) (lv' := [(5, .int (v5 + (1 : Int32))), (0, .ref v0), (2, .int v2), (4, .int v4), (6, .int v6)]) hx hb d_Mo_remember_222 hl (k := 3) rfl rfl (by decide) rfl (fun ls hl => ?_)
        refine lv_goto (tgt := 97) hx hb d_Mo_remember_225 (by decide) ?_
        exact hk97 _ _ _ _ _ hk_v0 _ _ _ R (lv_sub hl [1, 2, 3, 0] rfl) hE
      · replace hE := fw_if_f hc hE
        refine lv_aload_n hx hb d_Mo_remember_122 rfl (lv_at hl 0 rfl) ?_
        refine fw_getr C R ft_field_7_111 hk_v0 rfl rfl d_Mo_remember_123 (fun hq => ?_) (fun b27 hq hk_b27 => ?_)
        · replace hE := fw_om_none hq hE
          refine lv_iload hx hb d_Mo_remember_126 (lv_at hl 4 rfl) ?_
          cases hE
        · replace hE := fw_om_some hq hE
          refine lv_iload hx hb d_Mo_remember_126 (lv_at hl 4 rfl) ?_
          obtain ⟨hi28, hE⟩ := fw_ifn hE
          refine fw_iald C R (by decide) hk_b27 hi28 d_Mo_remember_128 ?_
          refine lv_aload_n hx hb d_Mo_remember_129 rfl (lv_at hl 0 rfl) ?_
          refine fw_getr C R ft_field_7_20 hk_v0 rfl rfl d_Mo_remember_130 (fun hq => ?_) (fun b29 hq hk_b29 => ?_)
          · replace hE := fw_om_none hq hE
            refine lv_iload_n hx hb d_Mo_remember_133 rfl (lv_at hl 1 rfl) ?_
            refine lv_iconst (v := 4) hx hb d_Mo_remember_134 (by decide) ?_
            refine lv_iadd hx hb d_Mo_remember_135 ?_
            refine lv_iload hx hb d_Mo_remember_136 (lv_at hl 3 rfl) ?_
            refine lv_iadd hx hb d_Mo_remember_138 ?_
            cases hE
          · replace hE := fw_om_some hq hE
            refine lv_iload_n hx hb d_Mo_remember_133 rfl (lv_at hl 1 rfl) ?_
            refine lv_iconst (v := 4) hx hb d_Mo_remember_134 (by decide) ?_
            refine lv_iadd hx hb d_Mo_remember_135 ?_
            refine lv_iload hx hb d_Mo_remember_136 (lv_at hl 3 rfl) ?_
            refine lv_iadd hx hb d_Mo_remember_138 ?_
            obtain ⟨hi30, hE⟩ := fw_ifn hE
            refine fw_iald C R (by decide) hk_b29 hi30 d_Mo_remember_139 ?_
            refine lv_icmp_ne (tgt := 216) hx hb d_Mo_remember_140 (by decide) (fun hc => ?_) (fun hc => ?_)
            · replace hE := fw_if_f hc hE
              refine lv_iinc (v := (v6 + (1 : Int32))) (lv' := [(6, .int (v6 + (1 : Int32))), (0, .ref v0), (2, .int v2), (4, .int v4), (5, .int v5)]) hx hb d_Mo_remember_216 hl (k := 4) rfl rfl (by decide) rfl (fun ls hl => ?_)
              refine lv_goto (tgt := 113) hx hb d_Mo_remember_219 (by decide) ?_
              exact ih _ _ _ _ _ _ hk_v0 _ _ _ R (lv_sub hl [1, 2, 3, 4, 0] rfl) hE
            · replace hE := fw_if_t hc hE
              refine lv_aload_n hx hb d_Mo_remember_143 rfl (lv_at hl 0 rfl) ?_
              refine fw_getr C R ft_field_7_126 hk_v0 rfl rfl d_Mo_remember_144 (fun hq => ?_) (fun b31 hq hk_b31 => ?_)
              · replace hE := fw_om_none hq hE
                refine lv_iload hx hb d_Mo_remember_147 (lv_at hl 2 rfl) ?_
                cases hE
              · replace hE := fw_om_some hq hE
                refine lv_iload hx hb d_Mo_remember_147 (lv_at hl 2 rfl) ?_
                obtain ⟨hi32, hE⟩ := fw_ifn hE
                refine fw_iald C R (by decide) hk_b31 hi32 d_Mo_remember_149 ?_
                refine lv_bipush (v := 60) hx hb d_Mo_remember_150 (by decide) ?_
                refine lv_icmp_ge (tgt := 216) hx hb d_Mo_remember_152 (by decide) (fun hc => ?_) (fun hc => ?_)
                · replace hE := fw_if_t hc hE
                  refine lv_iinc (v := (v6 + (1 : Int32))) (lv' := [(6, .int (v6 + (1 : Int32))), (0, .ref v0), (2, .int v2), (4, .int v4), (5, .int v5)]) hx hb d_Mo_remember_216 hl (k := 4) rfl rfl (by decide) rfl (fun ls hl => ?_)
                  refine lv_goto (tgt := 113) hx hb d_Mo_remember_219 (by decide) ?_
                  exact ih _ _ _ _ _ _ hk_v0 _ _ _ R (lv_sub hl [1, 2, 3, 4, 0] rfl) hE
                · replace hE := fw_if_f hc hE
                  refine lv_aload_n hx hb d_Mo_remember_155 rfl (lv_at hl 0 rfl) ?_
                  refine fw_getr C R ft_field_7_129 hk_v0 rfl rfl d_Mo_remember_156 (fun hq => ?_) (fun b33 hq hk_b33 => ?_)
                  · replace hE := fw_om_none hq hE
                    refine lv_bipush (v := 60) hx hb d_Mo_remember_159 (by decide) ?_
                    refine lv_iload hx hb d_Mo_remember_161 (lv_at hl 2 rfl) ?_
                    refine lv_imul hx hb d_Mo_remember_163 ?_
                    refine lv_aload_n hx hb d_Mo_remember_164 rfl (lv_at hl 0 rfl) ?_
                    refine fw_getr C R ft_field_7_126 hk_v0 rfl rfl d_Mo_remember_165 (fun hq => ?_) (fun b34 hq hk_b34 => ?_)
                    · replace hE := fw_om_none hq hE
                      refine lv_iload hx hb d_Mo_remember_168 (lv_at hl 2 rfl) ?_
                      cases hE
                    · replace hE := fw_om_some hq hE
                      refine lv_iload hx hb d_Mo_remember_168 (lv_at hl 2 rfl) ?_
                      obtain ⟨hi35, hE⟩ := fw_ifn hE
                      refine fw_iald C R (by decide) hk_b34 hi35 d_Mo_remember_170 ?_
                      refine lv_iadd hx hb d_Mo_remember_171 ?_
                      refine lv_aload_n hx hb d_Mo_remember_172 rfl (lv_at hl 0 rfl) ?_
                      refine fw_getr C R ft_field_7_111 hk_v0 rfl rfl d_Mo_remember_173 (fun hq => ?_) (fun b36 hq hk_b36 => ?_)
                      · replace hE := fw_om_none hq hE
                        refine lv_iload hx hb d_Mo_remember_176 (lv_at hl 4 rfl) ?_
                        cases hE
                      · replace hE := fw_om_some hq hE
                        refine lv_iload hx hb d_Mo_remember_176 (lv_at hl 4 rfl) ?_
                        obtain ⟨hi37, hE⟩ := fw_ifn hE
                        refine fw_iald C R (by decide) hk_b36 hi37 d_Mo_remember_178 ?_
                        cases hE
                  · replace hE := fw_om_some hq hE
                    refine lv_bipush (v := 60) hx hb d_Mo_remember_159 (by decide) ?_
                    refine lv_iload hx hb d_Mo_remember_161 (lv_at hl 2 rfl) ?_
                    refine lv_imul hx hb d_Mo_remember_163 ?_
                    refine lv_aload_n hx hb d_Mo_remember_164 rfl (lv_at hl 0 rfl) ?_
                    refine fw_getr C R ft_field_7_126 hk_v0 rfl rfl d_Mo_remember_165 (fun hq => ?_) (fun b38 hq hk_b38 => ?_)
                    · replace hE := fw_om_none hq hE
                      refine lv_iload hx hb d_Mo_remember_168 (lv_at hl 2 rfl) ?_
                      cases hE
                    · replace hE := fw_om_some hq hE
                      refine lv_iload hx hb d_Mo_remember_168 (lv_at hl 2 rfl) ?_
                      obtain ⟨hi39, hE⟩ := fw_ifn hE
                      refine fw_iald C R (by decide) hk_b38 hi39 d_Mo_remember_170 ?_
                      refine lv_iadd hx hb d_Mo_remember_171 ?_
                      refine lv_aload_n hx hb d_Mo_remember_172 rfl (lv_at hl 0 rfl) ?_
                      refine fw_getr C R ft_field_7_111 hk_v0 rfl rfl d_Mo_remember_173 (fun hq => ?_) (fun b40 hq hk_b40 => ?_)
                      · replace hE := fw_om_none hq hE
                        refine lv_iload hx hb d_Mo_remember_176 (lv_at hl 4 rfl) ?_
                        cases hE
                      · replace hE := fw_om_some hq hE
                        refine lv_iload hx hb d_Mo_remember_176 (lv_at hl 4 rfl) ?_
                        obtain ⟨hi41, hE⟩ := fw_ifn hE
                        refine fw_iald C R (by decide) hk_b40 hi41 d_Mo_remember_178 ?_
                        obtain ⟨hi42, hE⟩ := fw_ifn hE
                        refine fw_iast C R (by decide) hk_b33 hi42 d_Mo_remember_179 (fun H locs R => ?_)
                        obtain ⟨S43, eS43, hE⟩ := fw_let_ex hE
                        rw [← eS43] at R
                        clear eS43
                        refine lv_aload_n hx hb d_Mo_remember_180 rfl (lv_at hl 0 rfl) ?_
                        refine fw_getr C R ft_field_7_132 hk_v0 rfl rfl d_Mo_remember_181 (fun hq => ?_) (fun b44 hq hk_b44 => ?_)
                        · replace hE := fw_om_none hq hE
                          refine lv_bipush (v := 60) hx hb d_Mo_remember_184 (by decide) ?_
                          refine lv_iload hx hb d_Mo_remember_186 (lv_at hl 2 rfl) ?_
                          refine lv_imul hx hb d_Mo_remember_188 ?_
                          refine lv_aload_n hx hb d_Mo_remember_189 rfl (lv_at hl 0 rfl) ?_
                          refine fw_getr C R ft_field_7_126 hk_v0 rfl rfl d_Mo_remember_190 (fun hq => ?_) (fun b45 hq hk_b45 => ?_)
                          · replace hE := fw_om_none hq hE
                            refine lv_iload hx hb d_Mo_remember_193 (lv_at hl 2 rfl) ?_
                            cases hE
                          · replace hE := fw_om_some hq hE
                            refine lv_iload hx hb d_Mo_remember_193 (lv_at hl 2 rfl) ?_
                            obtain ⟨hi46, hE⟩ := fw_ifn hE
                            refine fw_iald C R (by decide) hk_b45 hi46 d_Mo_remember_195 ?_
                            refine lv_iadd hx hb d_Mo_remember_196 ?_
                            refine lv_aload_n hx hb d_Mo_remember_197 rfl (lv_at hl 0 rfl) ?_
                            refine fw_getr C R ft_field_7_114 hk_v0 rfl rfl d_Mo_remember_198 (fun hq => ?_) (fun b47 hq hk_b47 => ?_)
                            · replace hE := fw_om_none hq hE
                              refine lv_iload hx hb d_Mo_remember_201 (lv_at hl 4 rfl) ?_
                              cases hE
                            · replace hE := fw_om_some hq hE
                              refine lv_iload hx hb d_Mo_remember_201 (lv_at hl 4 rfl) ?_
                              obtain ⟨hi48, hE⟩ := fw_ifn hE
                              refine fw_iald C R (by decide) hk_b47 hi48 d_Mo_remember_203 ?_
                              cases hE
                        · replace hE := fw_om_some hq hE
                          refine lv_bipush (v := 60) hx hb d_Mo_remember_184 (by decide) ?_
                          refine lv_iload hx hb d_Mo_remember_186 (lv_at hl 2 rfl) ?_
                          refine lv_imul hx hb d_Mo_remember_188 ?_
                          refine lv_aload_n hx hb d_Mo_remember_189 rfl (lv_at hl 0 rfl) ?_
                          refine fw_getr C R ft_field_7_126 hk_v0 rfl rfl d_Mo_remember_190 (fun hq => ?_) (fun b49 hq hk_b49 => ?_)
                          · replace hE := fw_om_none hq hE
                            refine lv_iload hx hb d_Mo_remember_193 (lv_at hl 2 rfl) ?_
                            cases hE
                          · replace hE := fw_om_some hq hE
                            refine lv_iload hx hb d_Mo_remember_193 (lv_at hl 2 rfl) ?_
                            obtain ⟨hi50, hE⟩ := fw_ifn hE
                            refine fw_iald C R (by decide) hk_b49 hi50 d_Mo_remember_195 ?_
                            refine lv_iadd hx hb d_Mo_remember_196 ?_
                            refine lv_aload_n hx hb d_Mo_remember_197 rfl (lv_at hl 0 rfl) ?_
                            refine fw_getr C R ft_field_7_114 hk_v0 rfl rfl d_Mo_remember_198 (fun hq => ?_) (fun b51 hq hk_b51 => ?_)
                            · replace hE := fw_om_none hq hE
                              refine lv_iload hx hb d_Mo_remember_201 (lv_at hl 4 rfl) ?_
                              cases hE
                            · replace hE := fw_om_some hq hE
                              refine lv_iload hx hb d_Mo_remember_201 (lv_at hl 4 rfl) ?_
                              obtain ⟨hi52, hE⟩ := fw_ifn hE
                              refine fw_iald C R (by decide) hk_b51 hi52 d_Mo_remember_203 ?_
                              obtain ⟨hi53, hE⟩ := fw_ifn hE
                              refine fw_iast C R (by decide) hk_b44 hi53 d_Mo_remember_204 (fun H locs R => ?_)
                              obtain ⟨S54, eS54, hE⟩ := fw_let_ex hE
                              rw [← eS54] at R
                              clear eS54
                              refine lv_aload_n hx hb d_Mo_remember_205 rfl (lv_at hl 0 rfl) ?_
                              refine fw_getr C R ft_field_7_126 hk_v0 rfl rfl d_Mo_remember_206 (fun hq => ?_) (fun b55 hq hk_b55 => ?_)
                              · replace hE := fw_om_none hq hE
                                refine lv_iload hx hb d_Mo_remember_209 (lv_at hl 2 rfl) ?_
                                refine lv_dup2_11 hx hb d_Mo_remember_211 rfl rfl ?_
                                cases hE
                              · replace hE := fw_om_some hq hE
                                refine lv_iload hx hb d_Mo_remember_209 (lv_at hl 2 rfl) ?_
                                refine lv_dup2_11 hx hb d_Mo_remember_211 rfl rfl ?_
                                obtain ⟨hi56, hE⟩ := fw_ifn hE
                                refine fw_iald C R (by decide) hk_b55 hi56 d_Mo_remember_212 ?_
                                refine lv_iconst (v := 1) hx hb d_Mo_remember_213 (by decide) ?_
                                refine lv_iadd hx hb d_Mo_remember_214 ?_
                                obtain ⟨hi57, hE⟩ := fw_ifn hE
                                refine fw_iast C R (by decide) hk_b55 hi57 d_Mo_remember_215 (fun H locs R => ?_)
                                obtain ⟨S58, eS58, hE⟩ := fw_let_ex hE
                                rw [← eS58] at R
                                clear eS58
                                refine lv_iinc (v := (v6 + (1 : Int32))) (lv' := [(6, .int (v6 + (1 : Int32))), (0, .ref v0), (2, .int v2), (4, .int v4), (5, .int v5)]) hx hb d_Mo_remember_216 hl (k := 4) rfl rfl (by decide) rfl (fun ls hl => ?_)
                                refine lv_goto (tgt := 113) hx hb d_Mo_remember_219 (by decide) ?_
                                exact ih _ _ _ _ _ _ hk_v0 _ _ _ R (lv_sub hl [1, 2, 3, 4, 0] rfl) hE
  have h_l97 : ∀ (n : Nat), ∀ v0 : Nat, ∀ v2 : Int32, ∀ v4 : Int32, ∀ v5 : Int32, ∀ S0 : fw_S, kd0 v0 = some 7 → ∀ (H : Heap) (locs : List Loc) (ls : Array Slot), fw_R G kd0 S0 H locs → lv_has ls 7 [(0, .ref v0), (2, .int v2), (4, .int v4), (5, .int v5)] → F_Mo_remember_l97 n v0 v2 v4 v5 S0 = some S' → W p l e { frames := 2, cells := 0, slots := 0, locals := 45 } s m ([.ref a0, .int p1, .int p2] : List Value).toArray below meth c H locs 0 0 (MQ below (fw_Q G kd0 none S' (fun k => k = kd0)) ([.ref a0, .int p1, .int p2] : List Value).toArray s 0 0 (fw_A G)) (F0 m 97 ls []) := by
    intro n
    induction n with
    | zero =>
      intro v0 v2 v4 v5 S0 hk_v0 H locs ls R hl hE
      rw [F_Mo_remember_l97] at hE
      cases hE
    | succ n ih =>
      intro v0 v2 v4 v5 S0 hk_v0 H locs ls R hl hE
      rw [F_Mo_remember_l97] at hE
      refine lv_iload hx hb d_Mo_remember_97 (lv_at hl 3 rfl) ?_
      refine lv_aload_n hx hb d_Mo_remember_99 rfl (lv_at hl 0 rfl) ?_
      refine fw_getr C R ft_field_7_20 hk_v0 rfl rfl d_Mo_remember_100 (fun hq => ?_) (fun b25 hq hk_b25 => ?_)
      · replace hE := fw_om_none hq hE
        refine lv_iload_n hx hb d_Mo_remember_103 rfl (lv_at hl 1 rfl) ?_
        refine lv_iconst (v := 3) hx hb d_Mo_remember_104 (by decide) ?_
        refine lv_iadd hx hb d_Mo_remember_105 ?_
        cases hE
      · replace hE := fw_om_some hq hE
        refine lv_iload_n hx hb d_Mo_remember_103 rfl (lv_at hl 1 rfl) ?_
        refine lv_iconst (v := 3) hx hb d_Mo_remember_104 (by decide) ?_
        refine lv_iadd hx hb d_Mo_remember_105 ?_
        obtain ⟨hi26, hE⟩ := fw_ifn hE
        refine fw_iald C R (by decide) hk_b25 hi26 d_Mo_remember_106 ?_
        refine lv_icmp_ge (tgt := 228) hx hb d_Mo_remember_107 (by decide) (fun hc => ?_) (fun hc => ?_)
        · replace hE := fw_if_t hc hE
          cases hE
          exact fw_vret C fw_X.rf rfl R d_Mo_remember_228
        · replace hE := fw_if_f hc hE
          refine lv_iconst (v := 0) hx hb d_Mo_remember_110 (by decide) ?_
          refine lv_istore (lv' := [(6, .int (0 : Int32)), (0, .ref v0), (2, .int v2), (4, .int v4), (5, .int v5)]) hx hb d_Mo_remember_111 hl (by decide) rfl (fun ls hl => ?_)
          exact h_l113 _ ih _ _ _ _ _ _ _ hk_v0 _ _ _ R (lv_sub hl [1, 2, 3, 4, 0] rfl) hE
  have h_j32 : ∀ v0 : Nat, ∀ v1 : Int32, ∀ v2 : Int32, ∀ S0 : fw_S, kd0 v0 = some 7 → ∀ (H : Heap) (locs : List Loc) (ls : Array Slot), fw_R G kd0 S0 H locs → lv_has ls 7 [(0, .ref v0), (1, .int v1), (2, .int v2)] → F_Mo_remember_j32 v0 v1 v2 S0 = some S' → W p l e { frames := 2, cells := 0, slots := 0, locals := 45 } s m ([.ref a0, .int p1, .int p2] : List Value).toArray below meth c H locs 0 0 (MQ below (fw_Q G kd0 none S' (fun k => k = kd0)) ([.ref a0, .int p1, .int p2] : List Value).toArray s 0 0 (fw_A G)) (F0 m 32 ls []) := by
    intro v0 v1 v2 S0 hk_v0 H locs ls R hl hE
    unfold F_Mo_remember_j32 at hE
    refine lv_aload_n hx hb d_Mo_remember_32 rfl (lv_at hl 0 rfl) ?_
    refine fw_get (v := .int (fw_g S0 v0 41)) C R ft_field_7_187 hk_v0 rfl d_Mo_remember_33 ?_
    refine lv_topi (fun x3 ex3 => ?_)
    replace hE := fw_let_use ex3 hE
    clear ex3
    refine lv_istore (lv' := [(4, .int x3), (0, .ref v0), (1, .int v1), (2, .int v2)]) hx hb d_Mo_remember_36 hl (by decide) rfl (fun ls hl => ?_)
    refine lv_aload_n hx hb d_Mo_remember_38 rfl (lv_at hl 1 rfl) ?_
    refine lv_dup hx hb d_Mo_remember_39 rfl ?_
    refine fw_get (v := .int (fw_g S0 v0 41)) C R ft_field_7_187 hk_v0 rfl d_Mo_remember_40 ?_
    refine lv_iconst (v := 1) hx hb d_Mo_remember_43 (by decide) ?_
    refine lv_iadd hx hb d_Mo_remember_44 ?_
    refine fw_puti C R ft_field_7_187 rfl hk_v0 d_Mo_remember_45 (fun H locs R => ?_)
    obtain ⟨S4, eS4, hE⟩ := fw_let_ex hE
    rw [← eS4] at R
    clear eS4
    refine lv_aload_n hx hb d_Mo_remember_48 rfl (lv_at hl 1 rfl) ?_
    refine fw_getr C R ft_field_7_117 hk_v0 rfl rfl d_Mo_remember_49 (fun hq => ?_) (fun b5 hq hk_b5 => ?_)
    · replace hE := fw_om_none hq hE
      refine lv_iload hx hb d_Mo_remember_52 (lv_at hl 0 rfl) ?_
      refine lv_iload_n hx hb d_Mo_remember_54 rfl (lv_at hl 2 rfl) ?_
      cases hE
    · replace hE := fw_om_some hq hE
      refine lv_iload hx hb d_Mo_remember_52 (lv_at hl 0 rfl) ?_
      refine lv_iload_n hx hb d_Mo_remember_54 rfl (lv_at hl 2 rfl) ?_
      obtain ⟨hi6, hE⟩ := fw_ifn hE
      refine fw_iast C R (by decide) hk_b5 hi6 d_Mo_remember_55 (fun H locs R => ?_)
      obtain ⟨S7, eS7, hE⟩ := fw_let_ex hE
      rw [← eS7] at R
      clear eS7
      refine lv_aload_n hx hb d_Mo_remember_56 rfl (lv_at hl 1 rfl) ?_
      refine fw_getr C R ft_field_7_120 hk_v0 rfl rfl d_Mo_remember_57 (fun hq => ?_) (fun b8 hq hk_b8 => ?_)
      · replace hE := fw_om_none hq hE
        refine lv_iload hx hb d_Mo_remember_60 (lv_at hl 0 rfl) ?_
        refine lv_aload_n hx hb d_Mo_remember_62 rfl (lv_at hl 1 rfl) ?_
        refine fw_getr C R ft_field_7_20 hk_v0 rfl rfl d_Mo_remember_63 (fun hq => ?_) (fun b9 hq hk_b9 => ?_)
        · replace hE := fw_om_none hq hE
          refine lv_iload_n hx hb d_Mo_remember_66 rfl (lv_at hl 3 rfl) ?_
          refine lv_iconst (v := 4) hx hb d_Mo_remember_67 (by decide) ?_
          refine lv_iadd hx hb d_Mo_remember_68 ?_
          cases hE
        · replace hE := fw_om_some hq hE
          refine lv_iload_n hx hb d_Mo_remember_66 rfl (lv_at hl 3 rfl) ?_
          refine lv_iconst (v := 4) hx hb d_Mo_remember_67 (by decide) ?_
          refine lv_iadd hx hb d_Mo_remember_68 ?_
          obtain ⟨hi10, hE⟩ := fw_ifn hE
          refine fw_iald C R (by decide) hk_b9 hi10 d_Mo_remember_69 ?_
          cases hE
      · replace hE := fw_om_some hq hE
        refine lv_iload hx hb d_Mo_remember_60 (lv_at hl 0 rfl) ?_
        refine lv_aload_n hx hb d_Mo_remember_62 rfl (lv_at hl 1 rfl) ?_
        refine fw_getr C R ft_field_7_20 hk_v0 rfl rfl d_Mo_remember_63 (fun hq => ?_) (fun b11 hq hk_b11 => ?_)
        · replace hE := fw_om_none hq hE
          refine lv_iload_n hx hb d_Mo_remember_66 rfl (lv_at hl 3 rfl) ?_
          refine lv_iconst (v := 4) hx hb d_Mo_remember_67 (by decide) ?_
          refine lv_iadd hx hb d_Mo_remember_68 ?_
          cases hE
        · replace hE := fw_om_some hq hE
          refine lv_iload_n hx hb d_Mo_remember_66 rfl (lv_at hl 3 rfl) ?_
          refine lv_iconst (v := 4) hx hb d_Mo_remember_67 (by decide) ?_
          refine lv_iadd hx hb d_Mo_remember_68 ?_
          obtain ⟨hi12, hE⟩ := fw_ifn hE
          refine fw_iald C R (by decide) hk_b11 hi12 d_Mo_remember_69 ?_
          obtain ⟨hi13, hE⟩ := fw_ifn hE
          refine fw_iast C R (by decide) hk_b8 hi13 d_Mo_remember_70 (fun H locs R => ?_)
          obtain ⟨S14, eS14, hE⟩ := fw_let_ex hE
          rw [← eS14] at R
          clear eS14
          refine lv_aload_n hx hb d_Mo_remember_71 rfl (lv_at hl 1 rfl) ?_
          refine fw_getr C R ft_field_7_123 hk_v0 rfl rfl d_Mo_remember_72 (fun hq => ?_) (fun b15 hq hk_b15 => ?_)
          · replace hE := fw_om_none hq hE
            refine lv_iload hx hb d_Mo_remember_75 (lv_at hl 0 rfl) ?_
            refine lv_aload_n hx hb d_Mo_remember_77 rfl (lv_at hl 1 rfl) ?_
            refine fw_getr C R ft_field_7_20 hk_v0 rfl rfl d_Mo_remember_78 (fun hq => ?_) (fun b16 hq hk_b16 => ?_)
            · replace hE := fw_om_none hq hE
              refine lv_iload_n hx hb d_Mo_remember_81 rfl (lv_at hl 3 rfl) ?_
              refine lv_iconst (v := 4) hx hb d_Mo_remember_82 (by decide) ?_
              refine lv_iadd hx hb d_Mo_remember_83 ?_
              cases hE
            · replace hE := fw_om_some hq hE
              refine lv_iload_n hx hb d_Mo_remember_81 rfl (lv_at hl 3 rfl) ?_
              refine lv_iconst (v := 4) hx hb d_Mo_remember_82 (by decide) ?_
              refine lv_iadd hx hb d_Mo_remember_83 ?_
              obtain ⟨hi17, hE⟩ := fw_ifn hE
              refine fw_iald C R (by decide) hk_b16 hi17 d_Mo_remember_84 ?_
              cases hE
          · replace hE := fw_om_some hq hE
            refine lv_iload hx hb d_Mo_remember_75 (lv_at hl 0 rfl) ?_
            refine lv_aload_n hx hb d_Mo_remember_77 rfl (lv_at hl 1 rfl) ?_
            refine fw_getr C R ft_field_7_20 hk_v0 rfl rfl d_Mo_remember_78 (fun hq => ?_) (fun b18 hq hk_b18 => ?_)
            · replace hE := fw_om_none hq hE
              refine lv_iload_n hx hb d_Mo_remember_81 rfl (lv_at hl 3 rfl) ?_
              refine lv_iconst (v := 4) hx hb d_Mo_remember_82 (by decide) ?_
              refine lv_iadd hx hb d_Mo_remember_83 ?_
              cases hE
            · replace hE := fw_om_some hq hE
              refine lv_iload_n hx hb d_Mo_remember_81 rfl (lv_at hl 3 rfl) ?_
              refine lv_iconst (v := 4) hx hb d_Mo_remember_82 (by decide) ?_
              refine lv_iadd hx hb d_Mo_remember_83 ?_
              obtain ⟨hi19, hE⟩ := fw_ifn hE
              refine fw_iald C R (by decide) hk_b18 hi19 d_Mo_remember_84 ?_
              obtain ⟨hi20, hE⟩ := fw_ifn hE
              refine fw_iast C R (by decide) hk_b15 hi20 d_Mo_remember_85 (fun H locs R => ?_)
              obtain ⟨S21, eS21, hE⟩ := fw_let_ex hE
              rw [← eS21] at R
              clear eS21
              refine lv_aload_n hx hb d_Mo_remember_86 rfl (lv_at hl 1 rfl) ?_
              refine fw_getr C R ft_field_7_126 hk_v0 rfl rfl d_Mo_remember_87 (fun hq => ?_) (fun b22 hq hk_b22 => ?_)
              · replace hE := fw_om_none hq hE
                refine lv_iload hx hb d_Mo_remember_90 (lv_at hl 0 rfl) ?_
                refine lv_iconst (v := 0) hx hb d_Mo_remember_92 (by decide) ?_
                cases hE
              · replace hE := fw_om_some hq hE
                refine lv_iload hx hb d_Mo_remember_90 (lv_at hl 0 rfl) ?_
                refine lv_iconst (v := 0) hx hb d_Mo_remember_92 (by decide) ?_
                obtain ⟨hi23, hE⟩ := fw_ifn hE
                refine fw_iast C R (by decide) hk_b22 hi23 d_Mo_remember_93 (fun H locs R => ?_)
                obtain ⟨S24, eS24, hE⟩ := fw_let_ex hE
                rw [← eS24] at R
                clear eS24
                refine lv_iconst (v := 1) hx hb d_Mo_remember_94 (by decide) ?_
                refine lv_istore (lv' := [(5, .int (1 : Int32)), (4, .int x3), (0, .ref v0), (1, .int v1), (2, .int v2)]) hx hb d_Mo_remember_95 hl (by decide) rfl (fun ls hl => ?_)
                exact h_l97 _ _ _ _ _ _ hk_v0 _ _ _ R (lv_sub hl [2, 4, 1, 0] rfl) hE
  unfold F_Mo_remember at hE
  refine lv_aload_n hx hb d_Mo_remember_0 rfl (lv_at hl 0 rfl) ?_
  refine lv_iload_n hx hb d_Mo_remember_1 rfl (lv_at hl 1 rfl) ?_
  obtain ⟨x1, hF, hE⟩ := fw_bind hE
  refine fw_callV (As := [.int p1]) (rest := []) C R ft_callV_7_193 yi_Mo_placeOf ys_Mo_placeOf (ct_Mo_placeOf l G kd0 S0 _ _ _ hk_a0 hF) hk_a0 (by decide) rfl rfl hl.1 rfl (lv_room (Nat.le_of_ble_eq_true rfl)) ⟨Nat.le_of_ble_eq_true rfl, Nat.le_of_ble_eq_true rfl⟩ ⟨Nat.le_of_ble_eq_true rfl, Nat.le_of_ble_eq_true rfl⟩ d_Mo_remember_2 (fun H locs kd2 hxkd2 hP R => ?_)
  rw [hP] at R; clear hP hxkd2
  refine lv_istore_n (lv' := [(3, .int x1), (0, .ref a0), (1, .int p1), (2, .int p2)]) hx hb d_Mo_remember_5 rfl hl (by decide) rfl (fun ls hl => ?_)
  refine lv_iload_n hx hb d_Mo_remember_6 rfl (lv_at hl 0 rfl) ?_
  refine lv_if_lt (tgt := 18) hx hb d_Mo_remember_7 (by decide) (fun hc => ?_) (fun hc => ?_)
  · replace hE := fw_if_t hc hE
    refine lv_aload_n hx hb d_Mo_remember_18 rfl (lv_at hl 1 rfl) ?_
    refine fw_get (v := .int (fw_g S0 a0 41)) C R ft_field_7_187 hk_a0 rfl d_Mo_remember_19 ?_
    refine lv_bipush (v := 8) hx hb d_Mo_remember_22 (by decide) ?_
    refine lv_icmp_ne (tgt := 32) hx hb d_Mo_remember_24 (by decide) (fun hc => ?_) (fun hc => ?_)
    · replace hE := fw_if_f hc hE
      exact h_j32 _ _ _ _ hk_a0 _ _ _ R (lv_sub hl [1, 2, 3] rfl) hE
    · replace hE := fw_if_t hc hE
      refine lv_aload_n hx hb d_Mo_remember_27 rfl (lv_at hl 1 rfl) ?_
      refine lv_iconst (v := 0) hx hb d_Mo_remember_28 (by decide) ?_
      obtain ⟨S59, hF, hE⟩ := fw_bind hE
      refine fw_callV (As := [.int (0 : Int32)]) (rest := []) C R ft_callV_7_197 yi_Mo_forget ys_Mo_forget (ct_Mo_forget l G kd0 S0 _ _ _ hk_a0 hF) hk_a0 (by decide) rfl rfl hl.1 rfl (lv_room (Nat.le_of_ble_eq_true rfl)) ⟨Nat.le_of_ble_eq_true rfl, Nat.le_of_ble_eq_true rfl⟩ ⟨Nat.le_of_ble_eq_true rfl, Nat.le_of_ble_eq_true rfl⟩ d_Mo_remember_29 (fun H locs kd60 hxkd60 hP R => ?_)
      rw [hP] at R; clear hP hxkd60
      exact h_j32 _ _ _ _ hk_a0 _ _ _ R (lv_sub hl [1, 2, 3] rfl) hE
  · replace hE := fw_if_f hc hE
    refine lv_aload_n hx hb d_Mo_remember_10 rfl (lv_at hl 1 rfl) ?_
    refine lv_iload_n hx hb d_Mo_remember_11 rfl (lv_at hl 0 rfl) ?_
    obtain ⟨S61, hF, hE⟩ := fw_bind hE
    refine fw_callV (As := [.int x1]) (rest := []) C R ft_callV_7_197 yi_Mo_forget ys_Mo_forget (ct_Mo_forget l G kd0 S0 _ _ _ hk_a0 hF) hk_a0 (by decide) rfl rfl hl.1 rfl (lv_room (Nat.le_of_ble_eq_true rfl)) ⟨Nat.le_of_ble_eq_true rfl, Nat.le_of_ble_eq_true rfl⟩ ⟨Nat.le_of_ble_eq_true rfl, Nat.le_of_ble_eq_true rfl⟩ d_Mo_remember_12 (fun H locs kd62 hxkd62 hP R => ?_)
    rw [hP] at R; clear hP hxkd62
    refine lv_goto (tgt := 32) hx hb d_Mo_remember_15 (by decide) ?_
    exact h_j32 _ _ _ _ hk_a0 _ _ _ R (lv_sub hl [1, 2, 3] rfl) hE
set_option maxHeartbeats 4000000 in
set_option maxRecDepth 100000 in
theorem ct_Mo_isServed (l : Launch) (G : fw_G) (kd0 : Nat → Option Nat) (S0 : fw_S) (a0 : Nat) (p1 : Int32) (p2 : Int32) (p3 : Int32) (r0 : Int32) (S' : fw_S) (hk_a0 : kd0 a0 = some 7) (hE : F_Mo_isServed a0 p1 p2 p3 S0 = some (r0, S')) : fw_M l G y_Mo_isServed prog_9_method_22_code 7 (some .boolean) 3 71 0 0 kd0 S0 ([.ref a0, .int p1, .int p2, .int p3] : List Value) (some (.int r0)) S' (fun k => k = kd0) := by
  refine fw_start (by decide) (Nat.le_of_ble_eq_true rfl) ?_
  intro p e s m below meth c ls C hnm R hl
  clear hnm
  have hx := C.1
  have hb := C.2.1
  have hl : lv_has ls 7 [(0, .ref a0), (1, .int p1), (2, .int p2), (3, .int p3)] := hl
  have h_j138 : ∀ v0 : Nat, ∀ v2 : Int32, ∀ v3 : Int32, ∀ v4 : Int32, ∀ v5 : Int32, ∀ s0 : Int32, ∀ S0 : fw_S, kd0 v0 = some 7 → ∀ (H : Heap) (locs : List Loc) (ls : Array Slot), fw_R G kd0 S0 H locs → lv_has ls 7 [(0, .ref v0), (2, .int v2), (3, .int v3), (4, .int v4), (5, .int v5)] → F_Mo_isServed_j138 v0 v2 v3 v4 v5 s0 S0 = some (r0, S') → W p l e { frames := 3, cells := 0, slots := 0, locals := 71 } s m ([.ref a0, .int p1, .int p2, .int p3] : List Value).toArray below meth c H locs 0 0 (MQ below (fw_Q G kd0 (some (.int r0)) S' (fun k => k = kd0)) ([.ref a0, .int p1, .int p2, .int p3] : List Value).toArray s 0 0 (fw_A G)) (F0 m 138 ls [.int s0]) := by
    intro v0 v2 v3 v4 v5 s0 S0 hk_v0 H locs ls R hl hE
    unfold F_Mo_isServed_j138 at hE
    refine lv_istore (lv' := [(6, .int s0), (0, .ref v0), (2, .int v2), (3, .int v3), (4, .int v4), (5, .int v5)]) hx hb d_Mo_isServed_138 hl (by decide) rfl (fun ls hl => ?_)
    refine lv_iload hx hb d_Mo_isServed_140 (lv_at hl 0 rfl) ?_
    refine lv_if_eq (tgt := 174) hx hb d_Mo_isServed_142 (by decide) (fun hc => ?_) (fun hc => ?_)
    · replace hE := fw_if_t hc hE
      refine lv_aload_n hx hb d_Mo_isServed_174 rfl (lv_at hl 1 rfl) ?_
      refine lv_iconst (v := 0) hx hb d_Mo_isServed_175 (by decide) ?_
      refine fw_puti C R ft_field_7_138 rfl hk_v0 d_Mo_isServed_176 (fun H locs R => ?_)
      obtain ⟨S6, eS6, hE⟩ := fw_let_ex hE
      rw [← eS6] at R
      clear eS6
      refine lv_aload_n hx hb d_Mo_isServed_179 rfl (lv_at hl 1 rfl) ?_
      refine lv_iload hx hb d_Mo_isServed_180 (lv_at hl 4 rfl) ?_
      obtain ⟨S7, hF, hE⟩ := fw_bind hE
      refine fw_callV (As := [.int v4]) (rest := []) C R ft_callV_7_144 yi_Mo_put ys_Mo_put (ct_Mo_put l G kd0 S6 _ _ _ hk_v0 hF) hk_v0 (by decide) rfl rfl hl.1 rfl (lv_room (Nat.le_of_ble_eq_true rfl)) ⟨Nat.le_of_ble_eq_true rfl, Nat.le_of_ble_eq_true rfl⟩ ⟨Nat.le_of_ble_eq_true rfl, Nat.le_of_ble_eq_true rfl⟩ d_Mo_isServed_182 (fun H locs kd8 hxkd8 hP R => ?_)
      rw [hP] at R; clear hP hxkd8
      refine lv_aload_n hx hb d_Mo_isServed_185 rfl (lv_at hl 1 rfl) ?_
      refine lv_iconst (v := 4) hx hb d_Mo_isServed_186 (by decide) ?_
      refine lv_iconst (v := 4) hx hb d_Mo_isServed_187 (by decide) ?_
      refine lv_iload_n hx hb d_Mo_isServed_188 rfl (lv_at hl 2 rfl) ?_
      obtain ⟨x10, S9, hF, hE⟩ := fw_b2_ex hE
      refine fw_callV (As := [.int (4 : Int32), .int (4 : Int32), .int v2]) (rest := []) C R ft_callV_7_151 yi_Mo_send ys_Mo_send (ct_Mo_send l G kd0 S7 _ _ _ _ _ _ hk_v0 hF) hk_v0 (by decide) rfl rfl hl.1 rfl (lv_room (Nat.le_of_ble_eq_true rfl)) ⟨Nat.le_of_ble_eq_true rfl, Nat.le_of_ble_eq_true rfl⟩ ⟨Nat.le_of_ble_eq_true rfl, Nat.le_of_ble_eq_true rfl⟩ d_Mo_isServed_189 (fun H locs kd11 hxkd11 hP R => ?_)
      rw [hP] at R; clear hP hxkd11
      refine lv_pop hx hb d_Mo_isServed_192 rfl ?_
      refine lv_iconst (v := 1) hx hb d_Mo_isServed_193 (by decide) ?_
      cases hE
      exact fw_zret C (by decide) fw_X.rf rfl R d_Mo_isServed_194
    · replace hE := fw_if_f hc hE
      refine lv_aload_n hx hb d_Mo_isServed_145 rfl (lv_at hl 1 rfl) ?_
      refine fw_getr C R ft_field_7_123 hk_v0 rfl rfl d_Mo_isServed_146 (fun hq => ?_) (fun b12 hq hk_b12 => ?_)
      · replace hE := fw_om_none hq hE
        refine lv_iload hx hb d_Mo_isServed_149 (lv_at hl 5 rfl) ?_
        refine lv_iload hx hb d_Mo_isServed_151 (lv_at hl 4 rfl) ?_
        cases hE
      · replace hE := fw_om_some hq hE
        refine lv_iload hx hb d_Mo_isServed_149 (lv_at hl 5 rfl) ?_
        refine lv_iload hx hb d_Mo_isServed_151 (lv_at hl 4 rfl) ?_
        obtain ⟨hi13, hE⟩ := fw_ifn hE
        refine fw_iast C R (by decide) hk_b12 hi13 d_Mo_isServed_153 (fun H locs R => ?_)
        obtain ⟨S14, eS14, hE⟩ := fw_let_ex hE
        rw [← eS14] at R
        clear eS14
        refine lv_aload_n hx hb d_Mo_isServed_154 rfl (lv_at hl 1 rfl) ?_
        refine lv_iload hx hb d_Mo_isServed_155 (lv_at hl 5 rfl) ?_
        refine lv_iload_n hx hb d_Mo_isServed_157 rfl (lv_at hl 2 rfl) ?_
        refine lv_iload hx hb d_Mo_isServed_158 (lv_at hl 4 rfl) ?_
        refine lv_aload_n hx hb d_Mo_isServed_160 rfl (lv_at hl 1 rfl) ?_
        refine fw_getr C R ft_field_7_20 hk_v0 rfl rfl d_Mo_isServed_161 (fun hq => ?_) (fun b15 hq hk_b15 => ?_)
        · replace hE := fw_om_none hq hE
          refine lv_iload_n hx hb d_Mo_isServed_164 rfl (lv_at hl 3 rfl) ?_
          refine lv_iconst (v := 5) hx hb d_Mo_isServed_165 (by decide) ?_
          refine lv_iadd hx hb d_Mo_isServed_166 ?_
          cases hE
        · replace hE := fw_om_some hq hE
          refine lv_iload_n hx hb d_Mo_isServed_164 rfl (lv_at hl 3 rfl) ?_
          refine lv_iconst (v := 5) hx hb d_Mo_isServed_165 (by decide) ?_
          refine lv_iadd hx hb d_Mo_isServed_166 ?_
          obtain ⟨hi16, hE⟩ := fw_ifn hE
          refine fw_iald C R (by decide) hk_b15 hi16 d_Mo_isServed_167 ?_
          obtain ⟨S17, hF, hE⟩ := fw_bind hE
          refine fw_callV (As := [.int v5, .int v2, .int v4, .int (fw_g S14 b15 (v3 + (5 : Int32)).toNatClampNeg)]) (rest := []) C R ft_callV_7_206 yi_Mo_answer ys_Mo_answer (ct_Mo_answer l G kd0 S14 _ _ _ _ _ _ hk_v0 hF) hk_v0 (by decide) rfl rfl hl.1 rfl (lv_room (Nat.le_of_ble_eq_true rfl)) ⟨Nat.le_of_ble_eq_true rfl, Nat.le_of_ble_eq_true rfl⟩ ⟨Nat.le_of_ble_eq_true rfl, Nat.le_of_ble_eq_true rfl⟩ d_Mo_isServed_168 (fun H locs kd18 hxkd18 hP R => ?_)
          rw [hP] at R; clear hP hxkd18
          refine lv_goto (tgt := 193) hx hb d_Mo_isServed_171 (by decide) ?_
          refine lv_iconst (v := 1) hx hb d_Mo_isServed_193 (by decide) ?_
          cases hE
          exact fw_zret C (by decide) fw_X.rf rfl R d_Mo_isServed_194
  have h_j137 : ∀ v0 : Nat, ∀ v2 : Int32, ∀ v3 : Int32, ∀ v4 : Int32, ∀ v5 : Int32, ∀ S0 : fw_S, kd0 v0 = some 7 → ∀ (H : Heap) (locs : List Loc) (ls : Array Slot), fw_R G kd0 S0 H locs → lv_has ls 7 [(0, .ref v0), (2, .int v2), (3, .int v3), (4, .int v4), (5, .int v5)] → F_Mo_isServed_j137 v0 v2 v3 v4 v5 S0 = some (r0, S') → W p l e { frames := 3, cells := 0, slots := 0, locals := 71 } s m ([.ref a0, .int p1, .int p2, .int p3] : List Value).toArray below meth c H locs 0 0 (MQ below (fw_Q G kd0 (some (.int r0)) S' (fun k => k = kd0)) ([.ref a0, .int p1, .int p2, .int p3] : List Value).toArray s 0 0 (fw_A G)) (F0 m 137 ls []) := by
    intro v0 v2 v3 v4 v5 S0 hk_v0 H locs ls R hl hE
    unfold F_Mo_isServed_j137 at hE
    refine lv_iconst (v := 0) hx hb d_Mo_isServed_137 (by decide) ?_
    exact h_j138 _ _ _ _ _ _ _ hk_v0 _ _ _ R (lv_sub hl [0, 1, 2, 3, 4] rfl) hE
  have h_j133 : ∀ v0 : Nat, ∀ v2 : Int32, ∀ v3 : Int32, ∀ v4 : Int32, ∀ v5 : Int32, ∀ S0 : fw_S, kd0 v0 = some 7 → ∀ (H : Heap) (locs : List Loc) (ls : Array Slot), fw_R G kd0 S0 H locs → lv_has ls 7 [(0, .ref v0), (2, .int v2), (3, .int v3), (4, .int v4), (5, .int v5)] → F_Mo_isServed_j133 v0 v2 v3 v4 v5 S0 = some (r0, S') → W p l e { frames := 3, cells := 0, slots := 0, locals := 71 } s m ([.ref a0, .int p1, .int p2, .int p3] : List Value).toArray below meth c H locs 0 0 (MQ below (fw_Q G kd0 (some (.int r0)) S' (fun k => k = kd0)) ([.ref a0, .int p1, .int p2, .int p3] : List Value).toArray s 0 0 (fw_A G)) (F0 m 133 ls []) := by
    intro v0 v2 v3 v4 v5 S0 hk_v0 H locs ls R hl hE
    unfold F_Mo_isServed_j133 at hE
    refine lv_iconst (v := 1) hx hb d_Mo_isServed_133 (by decide) ?_
    refine lv_goto (tgt := 138) hx hb d_Mo_isServed_134 (by decide) ?_
    exact h_j138 _ _ _ _ _ _ _ hk_v0 _ _ _ R (lv_sub hl [0, 1, 2, 3, 4] rfl) hE
  have h_j52 : ∀ v0 : Nat, ∀ v2 : Int32, ∀ v3 : Int32, ∀ v4 : Int32, ∀ S0 : fw_S, kd0 v0 = some 7 → ∀ (H : Heap) (locs : List Loc) (ls : Array Slot), fw_R G kd0 S0 H locs → lv_has ls 7 [(0, .ref v0), (2, .int v2), (3, .int v3), (4, .int v4)] → F_Mo_isServed_j52 v0 v2 v3 v4 S0 = some (r0, S') → W p l e { frames := 3, cells := 0, slots := 0, locals := 71 } s m ([.ref a0, .int p1, .int p2, .int p3] : List Value).toArray below meth c H locs 0 0 (MQ below (fw_Q G kd0 (some (.int r0)) S' (fun k => k = kd0)) ([.ref a0, .int p1, .int p2, .int p3] : List Value).toArray s 0 0 (fw_A G)) (F0 m 52 ls []) := by
    intro v0 v2 v3 v4 S0 hk_v0 H locs ls R hl hE
    unfold F_Mo_isServed_j52 at hE
    refine lv_aload_n hx hb d_Mo_isServed_52 rfl (lv_at hl 0 rfl) ?_
    refine lv_iload_n hx hb d_Mo_isServed_53 rfl (lv_at hl 1 rfl) ?_
    refine lv_iload_n hx hb d_Mo_isServed_54 rfl (lv_at hl 2 rfl) ?_
    obtain ⟨S27, hF, hE⟩ := fw_bind hE
    refine fw_callV (As := [.int v2, .int v3]) (rest := []) C R ft_callV_7_203 yi_Mo_remember ys_Mo_remember (ct_Mo_remember l G kd0 S0 _ _ _ _ hk_v0 hF) hk_v0 (by decide) rfl rfl hl.1 rfl (lv_room (Nat.le_of_ble_eq_true rfl)) ⟨Nat.le_of_ble_eq_true rfl, Nat.le_of_ble_eq_true rfl⟩ ⟨Nat.le_of_ble_eq_true rfl, Nat.le_of_ble_eq_true rfl⟩ d_Mo_isServed_55 (fun H locs kd28 hxkd28 hP R => ?_)
    rw [hP] at R; clear hP hxkd28
    refine lv_aload_n hx hb d_Mo_isServed_58 rfl (lv_at hl 0 rfl) ?_
    refine lv_aload_n hx hb d_Mo_isServed_59 rfl (lv_at hl 0 rfl) ?_
    refine lv_iload_n hx hb d_Mo_isServed_60 rfl (lv_at hl 1 rfl) ?_
    obtain ⟨x29, hF, hE⟩ := fw_bind hE
    refine fw_callV (As := [.int v2]) (rest := [.ref v0]) C R ft_callV_7_193 yi_Mo_placeOf ys_Mo_placeOf (ct_Mo_placeOf l G kd0 S27 _ _ _ hk_v0 hF) hk_v0 (by decide) rfl rfl hl.1 rfl (lv_room (Nat.le_of_ble_eq_true rfl)) ⟨Nat.le_of_ble_eq_true rfl, Nat.le_of_ble_eq_true rfl⟩ ⟨Nat.le_of_ble_eq_true rfl, Nat.le_of_ble_eq_true rfl⟩ d_Mo_isServed_61 (fun H locs kd30 hxkd30 hP R => ?_)
    rw [hP] at R; clear hP hxkd30
    refine lv_iload_n hx hb d_Mo_isServed_64 rfl (lv_at hl 1 rfl) ?_
    refine lv_iload hx hb d_Mo_isServed_65 (lv_at hl 3 rfl) ?_
    refine lv_iconst (v := 0) hx hb d_Mo_isServed_67 (by decide) ?_
    obtain ⟨S31, hF, hE⟩ := fw_bind hE
    refine fw_callV (As := [.int x29, .int v2, .int v4, .int (0 : Int32)]) (rest := []) C R ft_callV_7_206 yi_Mo_answer ys_Mo_answer (ct_Mo_answer l G kd0 S27 _ _ _ _ _ _ hk_v0 hF) hk_v0 (by decide) rfl rfl hl.1 rfl (lv_room (Nat.le_of_ble_eq_true rfl)) ⟨Nat.le_of_ble_eq_true rfl, Nat.le_of_ble_eq_true rfl⟩ ⟨Nat.le_of_ble_eq_true rfl, Nat.le_of_ble_eq_true rfl⟩ d_Mo_isServed_68 (fun H locs kd32 hxkd32 hP R => ?_)
    rw [hP] at R; clear hP hxkd32
    refine lv_iconst (v := 1) hx hb d_Mo_isServed_71 (by decide) ?_
    cases hE
    exact fw_zret C (by decide) fw_X.rf rfl R d_Mo_isServed_72
  unfold F_Mo_isServed at hE
  refine lv_aload_n hx hb d_Mo_isServed_0 rfl (lv_at hl 0 rfl) ?_
  refine fw_getr C R ft_field_7_20 hk_a0 rfl rfl d_Mo_isServed_1 (fun hq => ?_) (fun b1 hq hk_b1 => ?_)
  · replace hE := fw_om_none hq hE
    refine lv_iload_n hx hb d_Mo_isServed_4 rfl (lv_at hl 3 rfl) ?_
    refine lv_iconst (v := 4) hx hb d_Mo_isServed_5 (by decide) ?_
    refine lv_iadd hx hb d_Mo_isServed_6 ?_
    cases hE
  · replace hE := fw_om_some hq hE
    refine lv_iload_n hx hb d_Mo_isServed_4 rfl (lv_at hl 3 rfl) ?_
    refine lv_iconst (v := 4) hx hb d_Mo_isServed_5 (by decide) ?_
    refine lv_iadd hx hb d_Mo_isServed_6 ?_
    obtain ⟨hi2, hE⟩ := fw_ifn hE
    refine fw_iald C R (by decide) hk_b1 hi2 d_Mo_isServed_7 ?_
    refine lv_topi (fun x3 ex3 => ?_)
    replace hE := fw_let_use ex3 hE
    clear ex3
    refine lv_istore (lv' := [(4, .int x3), (0, .ref a0), (1, .int p1), (2, .int p2), (3, .int p3)]) hx hb d_Mo_isServed_8 hl (by decide) rfl (fun ls hl => ?_)
    refine lv_aload_n hx hb d_Mo_isServed_10 rfl (lv_at hl 1 rfl) ?_
    refine lv_iload_n hx hb d_Mo_isServed_11 rfl (lv_at hl 3 rfl) ?_
    obtain ⟨x4, hF, hE⟩ := fw_bind hE
    refine fw_callV (As := [.int p2]) (rest := []) C R ft_callV_7_193 yi_Mo_placeOf ys_Mo_placeOf (ct_Mo_placeOf l G kd0 S0 _ _ _ hk_a0 hF) hk_a0 (by decide) rfl rfl hl.1 rfl (lv_room (Nat.le_of_ble_eq_true rfl)) ⟨Nat.le_of_ble_eq_true rfl, Nat.le_of_ble_eq_true rfl⟩ ⟨Nat.le_of_ble_eq_true rfl, Nat.le_of_ble_eq_true rfl⟩ d_Mo_isServed_12 (fun H locs kd5 hxkd5 hP R => ?_)
    rw [hP] at R; clear hP hxkd5
    refine lv_istore (lv' := [(5, .int x4), (4, .int x3), (0, .ref a0), (1, .int p1), (2, .int p2), (3, .int p3)]) hx hb d_Mo_isServed_15 hl (by decide) rfl (fun ls hl => ?_)
    refine lv_iload_n hx hb d_Mo_isServed_17 rfl (lv_at hl 3 rfl) ?_
    refine lv_iconst (v := 1) hx hb d_Mo_isServed_18 (by decide) ?_
    refine lv_icmp_ne (tgt := 73) hx hb d_Mo_isServed_19 (by decide) (fun hc => ?_) (fun hc => ?_)
    · replace hE := fw_if_f hc hE
      refine lv_iload_n hx hb d_Mo_isServed_73 rfl (lv_at hl 3 rfl) ?_
      refine lv_iconst (v := 3) hx hb d_Mo_isServed_74 (by decide) ?_
      refine lv_icmp_eq (tgt := 80) hx hb d_Mo_isServed_75 (by decide) (fun hc => ?_) (fun hc => ?_)
      · replace hE := fw_if_t hc hE
        refine lv_iload hx hb d_Mo_isServed_80 (lv_at hl 0 rfl) ?_
        refine lv_if_lt (tgt := 137) hx hb d_Mo_isServed_82 (by decide) (fun hc => ?_) (fun hc => ?_)
        · replace hE := fw_if_t hc hE
          exact h_j137 _ _ _ _ _ _ hk_a0 _ _ _ R (lv_sub hl [2, 4, 5, 1, 0] rfl) hE
        · replace hE := fw_if_f hc hE
          refine lv_aload_n hx hb d_Mo_isServed_85 rfl (lv_at hl 2 rfl) ?_
          refine fw_getr C R ft_field_7_20 hk_a0 rfl rfl d_Mo_isServed_86 (fun hq => ?_) (fun b19 hq hk_b19 => ?_)
          · replace hE := fw_om_none hq hE
            refine lv_iload_n hx hb d_Mo_isServed_89 rfl (lv_at hl 5 rfl) ?_
            refine lv_iconst (v := 5) hx hb d_Mo_isServed_90 (by decide) ?_
            refine lv_iadd hx hb d_Mo_isServed_91 ?_
            cases hE
          · replace hE := fw_om_some hq hE
            refine lv_iload_n hx hb d_Mo_isServed_89 rfl (lv_at hl 5 rfl) ?_
            refine lv_iconst (v := 5) hx hb d_Mo_isServed_90 (by decide) ?_
            refine lv_iadd hx hb d_Mo_isServed_91 ?_
            obtain ⟨hi20, hE⟩ := fw_ifn hE
            refine fw_iald C R (by decide) hk_b19 hi20 d_Mo_isServed_92 ?_
            refine lv_aload_n hx hb d_Mo_isServed_93 rfl (lv_at hl 2 rfl) ?_
            refine fw_getr C R ft_field_7_126 hk_a0 rfl rfl d_Mo_isServed_94 (fun hq => ?_) (fun b21 hq hk_b21 => ?_)
            · replace hE := fw_om_none hq hE
              refine lv_iload hx hb d_Mo_isServed_97 (lv_at hl 0 rfl) ?_
              cases hE
            · replace hE := fw_om_some hq hE
              refine lv_iload hx hb d_Mo_isServed_97 (lv_at hl 0 rfl) ?_
              obtain ⟨hi22, hE⟩ := fw_ifn hE
              refine fw_iald C R (by decide) hk_b21 hi22 d_Mo_isServed_99 ?_
              refine lv_icmp_gt (tgt := 137) hx hb d_Mo_isServed_100 (by decide) (fun hc => ?_) (fun hc => ?_)
              · replace hE := fw_if_t hc hE
                exact h_j137 _ _ _ _ _ _ hk_a0 _ _ _ R (lv_sub hl [2, 4, 5, 1, 0] rfl) hE
              · replace hE := fw_if_f hc hE
                refine lv_iload hx hb d_Mo_isServed_103 (lv_at hl 1 rfl) ?_
                refine lv_aload_n hx hb d_Mo_isServed_105 rfl (lv_at hl 2 rfl) ?_
                refine fw_getr C R ft_field_7_123 hk_a0 rfl rfl d_Mo_isServed_106 (fun hq => ?_) (fun b23 hq hk_b23 => ?_)
                · replace hE := fw_om_none hq hE
                  refine lv_iload hx hb d_Mo_isServed_109 (lv_at hl 0 rfl) ?_
                  cases hE
                · replace hE := fw_om_some hq hE
                  refine lv_iload hx hb d_Mo_isServed_109 (lv_at hl 0 rfl) ?_
                  obtain ⟨hi24, hE⟩ := fw_ifn hE
                  refine fw_iald C R (by decide) hk_b23 hi24 d_Mo_isServed_111 ?_
                  refine lv_icmp_eq (tgt := 133) hx hb d_Mo_isServed_112 (by decide) (fun hc => ?_) (fun hc => ?_)
                  · replace hE := fw_if_t hc hE
                    exact h_j133 _ _ _ _ _ _ hk_a0 _ _ _ R (lv_sub hl [2, 4, 5, 1, 0] rfl) hE
                  · replace hE := fw_if_f hc hE
                    refine lv_iload hx hb d_Mo_isServed_115 (lv_at hl 1 rfl) ?_
                    refine lv_aload_n hx hb d_Mo_isServed_117 rfl (lv_at hl 2 rfl) ?_
                    refine fw_getr C R ft_field_7_123 hk_a0 rfl rfl d_Mo_isServed_118 (fun hq => ?_) (fun b25 hq hk_b25 => ?_)
                    · replace hE := fw_om_none hq hE
                      refine lv_iload hx hb d_Mo_isServed_121 (lv_at hl 0 rfl) ?_
                      cases hE
                    · replace hE := fw_om_some hq hE
                      refine lv_iload hx hb d_Mo_isServed_121 (lv_at hl 0 rfl) ?_
                      obtain ⟨hi26, hE⟩ := fw_ifn hE
                      refine fw_iald C R (by decide) hk_b25 hi26 d_Mo_isServed_123 ?_
                      refine lv_iconst (v := 1) hx hb d_Mo_isServed_124 (by decide) ?_
                      refine lv_iadd hx hb d_Mo_isServed_125 ?_
                      refine lv_sipush (v := 255) hx hb d_Mo_isServed_126 (by decide) ?_
                      refine lv_iand hx hb d_Mo_isServed_129 ?_
                      refine lv_icmp_ne (tgt := 137) hx hb d_Mo_isServed_130 (by decide) (fun hc => ?_) (fun hc => ?_)
                      · replace hE := fw_if_f hc hE
                        exact h_j137 _ _ _ _ _ _ hk_a0 _ _ _ R (lv_sub hl [2, 4, 5, 1, 0] rfl) hE
                      · replace hE := fw_if_t hc hE
                        exact h_j133 _ _ _ _ _ _ hk_a0 _ _ _ R (lv_sub hl [2, 4, 5, 1, 0] rfl) hE
      · replace hE := fw_if_f hc hE
        refine lv_iconst (v := 0) hx hb d_Mo_isServed_78 (by decide) ?_
        cases hE
        exact fw_zret C (by decide) fw_X.rf rfl R d_Mo_isServed_79
    · replace hE := fw_if_t hc hE
      refine lv_iload hx hb d_Mo_isServed_22 (lv_at hl 0 rfl) ?_
      refine lv_if_lt (tgt := 52) hx hb d_Mo_isServed_24 (by decide) (fun hc => ?_) (fun hc => ?_)
      · replace hE := fw_if_t hc hE
        exact h_j52 _ _ _ _ _ hk_a0 _ _ _ R (lv_sub hl [2, 4, 5, 1] rfl) hE
      · replace hE := fw_if_f hc hE
        refine lv_aload_n hx hb d_Mo_isServed_27 rfl (lv_at hl 2 rfl) ?_
        refine fw_getr C R ft_field_7_120 hk_a0 rfl rfl d_Mo_isServed_28 (fun hq => ?_) (fun b33 hq hk_b33 => ?_)
        · replace hE := fw_om_none hq hE
          refine lv_iload hx hb d_Mo_isServed_31 (lv_at hl 0 rfl) ?_
          cases hE
        · replace hE := fw_om_some hq hE
          refine lv_iload hx hb d_Mo_isServed_31 (lv_at hl 0 rfl) ?_
          obtain ⟨hi34, hE⟩ := fw_ifn hE
          refine fw_iald C R (by decide) hk_b33 hi34 d_Mo_isServed_33 ?_
          refine lv_iload hx hb d_Mo_isServed_34 (lv_at hl 1 rfl) ?_
          refine lv_icmp_ne (tgt := 52) hx hb d_Mo_isServed_36 (by decide) (fun hc => ?_) (fun hc => ?_)
          · replace hE := fw_if_f hc hE
            exact h_j52 _ _ _ _ _ hk_a0 _ _ _ R (lv_sub hl [2, 4, 5, 1] rfl) hE
          · replace hE := fw_if_t hc hE
            refine lv_aload_n hx hb d_Mo_isServed_39 rfl (lv_at hl 2 rfl) ?_
            refine lv_dup hx hb d_Mo_isServed_40 rfl ?_
            refine fw_get (v := .int (fw_g S0 a0 42)) C R ft_field_7_200 hk_a0 rfl d_Mo_isServed_41 ?_
            refine lv_iconst (v := 1) hx hb d_Mo_isServed_44 (by decide) ?_
            refine lv_iadd hx hb d_Mo_isServed_45 ?_
            refine fw_puti C R ft_field_7_200 rfl hk_a0 d_Mo_isServed_46 (fun H locs R => ?_)
            obtain ⟨S35, eS35, hE⟩ := fw_let_ex hE
            rw [← eS35] at R
            clear eS35
            refine lv_goto (tgt := 58) hx hb d_Mo_isServed_49 (by decide) ?_
            refine lv_aload_n hx hb d_Mo_isServed_58 rfl (lv_at hl 2 rfl) ?_
            refine lv_aload_n hx hb d_Mo_isServed_59 rfl (lv_at hl 2 rfl) ?_
            refine lv_iload_n hx hb d_Mo_isServed_60 rfl (lv_at hl 4 rfl) ?_
            obtain ⟨x36, hF, hE⟩ := fw_bind hE
            refine fw_callV (As := [.int p2]) (rest := [.ref a0]) C R ft_callV_7_193 yi_Mo_placeOf ys_Mo_placeOf (ct_Mo_placeOf l G kd0 S35 _ _ _ hk_a0 hF) hk_a0 (by decide) rfl rfl hl.1 rfl (lv_room (Nat.le_of_ble_eq_true rfl)) ⟨Nat.le_of_ble_eq_true rfl, Nat.le_of_ble_eq_true rfl⟩ ⟨Nat.le_of_ble_eq_true rfl, Nat.le_of_ble_eq_true rfl⟩ d_Mo_isServed_61 (fun H locs kd37 hxkd37 hP R => ?_)
            rw [hP] at R; clear hP hxkd37
            refine lv_iload_n hx hb d_Mo_isServed_64 rfl (lv_at hl 4 rfl) ?_
            refine lv_iload hx hb d_Mo_isServed_65 (lv_at hl 1 rfl) ?_
            refine lv_iconst (v := 0) hx hb d_Mo_isServed_67 (by decide) ?_
            obtain ⟨S38, hF, hE⟩ := fw_bind hE
            refine fw_callV (As := [.int x36, .int p2, .int x3, .int (0 : Int32)]) (rest := []) C R ft_callV_7_206 yi_Mo_answer ys_Mo_answer (ct_Mo_answer l G kd0 S35 _ _ _ _ _ _ hk_a0 hF) hk_a0 (by decide) rfl rfl hl.1 rfl (lv_room (Nat.le_of_ble_eq_true rfl)) ⟨Nat.le_of_ble_eq_true rfl, Nat.le_of_ble_eq_true rfl⟩ ⟨Nat.le_of_ble_eq_true rfl, Nat.le_of_ble_eq_true rfl⟩ d_Mo_isServed_68 (fun H locs kd39 hxkd39 hP R => ?_)
            rw [hP] at R; clear hP hxkd39
            refine lv_iconst (v := 1) hx hb d_Mo_isServed_71 (by decide) ?_
            cases hE
            exact fw_zret C (by decide) fw_X.rf rfl R d_Mo_isServed_72
