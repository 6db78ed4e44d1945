set_option maxHeartbeats 4000000 in
set_option maxRecDepth 100000 in
theorem ct_Mo_down (l : Launch) (G : fw_G) (kd0 : Nat → Option Nat) (S0 : fw_S) (a0 : Nat) (p1 : Int32) (r0 : Int32) (S' : fw_S) (hk_a0 : kd0 a0 = some 7) (hE : F_Mo_down a0 p1 S0 = some (r0, S')) : fw_M l G y_Mo_down prog_9_method_32_code 2 (some .int) 1 22 0 0 kd0 S0 ([.ref a0, .int p1] : List Value) (some (.int r0)) S' (fun k => k = kd0) := by
  refine fw_start (by decide) (Nat.le_of_ble_eq_true rfl) ?_
  intro p e s m below meth c ls C hnm R hl
  clear hnm
  have hx := C.1
  have hb := C.2.1
  have hl : lv_has ls 2 [(0, .ref a0), (1, .int p1)] := hl
  unfold F_Mo_down at hE
  refine lv_iload_n hx hb d_Mo_down_0 rfl (lv_at hl 1 rfl) ?_
  refine lv_iconst (v := 0) hx hb d_Mo_down_1 (by decide) ?_
  refine lv_iconst (v := 3) hx hb d_Mo_down_2 (by decide) ?_
  obtain ⟨x1, hF, hE⟩ := fw_bind hE
  refine fw_callS (As := [.int p1, .int (0 : Int32), .int (3 : Int32)]) (rest := []) C R ft_callS_7_163 yt_Mo_isIn (ct_Mo_isIn l G kd0 S0 _ _ _ _  hF) rfl hl.1 rfl (lv_room (Nat.le_of_ble_eq_true rfl)) ⟨Nat.le_of_ble_eq_true rfl, Nat.le_of_ble_eq_true rfl⟩ ⟨Nat.le_of_ble_eq_true rfl, Nat.le_of_ble_eq_true rfl⟩ d_Mo_down_3 (fun H locs kd2 hxkd2 hP R => ?_)
  rw [hP] at R; clear hP hxkd2
  refine lv_if_ne (tgt := 11) hx hb d_Mo_down_6 (by decide) (fun hc => ?_) (fun hc => ?_)
  · replace hE := fw_if_f hc hE
    refine lv_aload_n hx hb d_Mo_down_11 rfl (lv_at hl 0 rfl) ?_
    refine fw_getr C R ft_field_7_7 hk_a0 rfl rfl d_Mo_down_12 (fun hq => ?_) (fun b3 hq hk_b3 => ?_)
    · replace hE := fw_om_none hq hE
      refine lv_iload_n hx hb d_Mo_down_15 rfl (lv_at hl 1 rfl) ?_
      cases hE
    · replace hE := fw_om_some hq hE
      refine lv_iload_n hx hb d_Mo_down_15 rfl (lv_at hl 1 rfl) ?_
      obtain ⟨hi4, hE⟩ := fw_ifn hE
      refine fw_zald C R (by decide) hk_b3 hi4 d_Mo_down_16 ?_
      refine lv_if_ne (tgt := 23) hx hb d_Mo_down_17 (by decide) (fun hc => ?_) (fun hc => ?_)
      · replace hE := fw_if_f hc hE
        refine lv_aload_n hx hb d_Mo_down_23 rfl (lv_at hl 0 rfl) ?_
        refine lv_iload_n hx hb d_Mo_down_24 rfl (lv_at hl 1 rfl) ?_
        obtain ⟨S5, hF, hE⟩ := fw_bind hE
        refine fw_callV (As := [.int p1]) (rest := []) C R ft_callV_7_217 yi_Mo_end ys_Mo_end (ct_Mo_end l G kd0 S0 _ _ _ hk_a0 hF) hk_a0 (by decide) rfl rfl hl.1 rfl (lv_room (Nat.le_of_ble_eq_true rfl)) ⟨Nat.le_of_ble_eq_true rfl, Nat.le_of_ble_eq_true rfl⟩ ⟨Nat.le_of_ble_eq_true rfl, Nat.le_of_ble_eq_true rfl⟩ d_Mo_down_25 (fun H locs kd6 hxkd6 hP R => ?_)
        rw [hP] at R; clear hP hxkd6
        refine lv_iconst (v := 1) hx hb d_Mo_down_28 (by decide) ?_
        cases hE
        exact fw_iret C fw_X.rf rfl R d_Mo_down_29
      · replace hE := fw_if_t hc hE
        refine lv_bipush (v := -2) hx hb d_Mo_down_20 (by decide) ?_
        cases hE
        exact fw_iret C fw_X.rf rfl R d_Mo_down_22
  · replace hE := fw_if_t hc hE
    refine lv_iconst (v := -1) hx hb d_Mo_down_9 (by decide) ?_
    cases hE
    exact fw_iret C fw_X.rf rfl R d_Mo_down_10
set_option maxHeartbeats 4000000 in
set_option maxRecDepth 100000 in
theorem ct_Mo_tick (l : Launch) (G : fw_G) (kd0 : Nat → Option Nat) (S0 : fw_S) (a0 : Nat) (p1 : Int32) (r0 : Int32) (S' : fw_S) (hk_a0 : kd0 a0 = some 7) (hE : F_Mo_tick a0 p1 S0 = some (r0, S')) : fw_M l G y_Mo_tick prog_9_method_33_code 5 (some .int) 2 48 0 0 kd0 S0 ([.ref a0, .int p1] : List Value) (some (.int r0)) S' (fun k => k = kd0) := by
  refine fw_start (by decide) (Nat.le_of_ble_eq_true rfl) ?_
  intro p e s m below meth c ls C hnm R hl
  clear hnm
  have hx := C.1
  have hb := C.2.1
  have hl : lv_has ls 5 [(0, .ref a0), (1, .int p1)] := hl
  have h_l35 : ∀ (k17 : Nat → Int32 → Int32 → Int32 → fw_S → Option (Int32 × fw_S)), (∀ v0 : Nat, ∀ v1 : Int32, ∀ v2 : Int32, ∀ v3 : Int32, ∀ S0 : fw_S, kd0 v0 = some 7 → ∀ (H : Heap) (locs : List Loc) (ls : Array Slot), fw_R G kd0 S0 H locs → lv_has ls 5 [(0, .ref v0), (1, .int v1), (2, .int v2), (3, .int v3)] → k17 v0 v1 v2 v3 S0 = some (r0, S') → W p l e { frames := 2, cells := 0, slots := 0, locals := 48 } s m ([.ref a0, .int p1] : List Value).toArray below meth c H locs 0 0 (MQ below (fw_Q G kd0 (some (.int r0)) S' (fun k => k = kd0)) ([.ref a0, .int p1] : List Value).toArray s 0 0 (fw_A G)) (F0 m 17 ls [])) → ∀ (n : Nat), ∀ v0 : Nat, ∀ v1 : Int32, ∀ v2 : Int32, ∀ v3 : Int32, ∀ v4 : Int32, ∀ S0 : fw_S, kd0 v0 = some 7 → ∀ (H : Heap) (locs : List Loc) (ls : Array Slot), fw_R G kd0 S0 H locs → lv_has ls 5 [(0, .ref v0), (1, .int v1), (2, .int v2), (3, .int v3), (4, .int v4)] → F_Mo_tick_l35 k17 n v0 v1 v2 v3 v4 S0 = some (r0, S') → W p l e { frames := 2, cells := 0, slots := 0, locals := 48 } s m ([.ref a0, .int p1] : List Value).toArray below meth c H locs 0 0 (MQ below (fw_Q G kd0 (some (.int r0)) S' (fun k => k = kd0)) ([.ref a0, .int p1] : List Value).toArray s 0 0 (fw_A G)) (F0 m 35 ls []) := by
    intro k17 hk17 n
    induction n with
    | zero =>
      intro v0 v1 v2 v3 v4 S0 hk_v0 H locs ls R hl hE
      rw [F_Mo_tick_l35] at hE
      cases hE
    | succ n ih =>
      intro v0 v1 v2 v3 v4 S0 hk_v0 H locs ls R hl hE
      rw [F_Mo_tick_l35] at hE
      refine lv_iload hx hb d_Mo_tick_35 (lv_at hl 4 rfl) ?_
      refine lv_aload_n hx hb d_Mo_tick_37 rfl (lv_at hl 0 rfl) ?_
      refine fw_get (v := .int (fw_g S0 v0 14)) C R ft_field_7_169 hk_v0 rfl d_Mo_tick_38 ?_
      refine lv_icmp_ge (tgt := 124) hx hb d_Mo_tick_41 (by decide) (fun hc => ?_) (fun hc => ?_)
      · replace hE := fw_if_t hc hE
        refine lv_iinc (v := (v3 + (1 : Int32))) (lv' := [(3, .int (v3 + (1 : Int32))), (0, .ref v0), (1, .int v1), (2, .int v2), (4, .int v4)]) hx hb d_Mo_tick_124 hl (k := 3) rfl rfl (by decide) rfl (fun ls hl => ?_)
        refine lv_goto (tgt := 17) hx hb d_Mo_tick_127 (by decide) ?_
        exact hk17 _ _ _ _ _ hk_v0 _ _ _ R (lv_sub hl [1, 2, 3, 0] rfl) hE
      · replace hE := fw_if_f hc hE
        refine lv_aload_n hx hb d_Mo_tick_44 rfl (lv_at hl 0 rfl) ?_
        refine fw_getr C R ft_field_7_48 hk_v0 rfl rfl d_Mo_tick_45 (fun hq => ?_) (fun b4 hq hk_b4 => ?_)
        · replace hE := fw_om_none hq hE
          refine lv_iload hx hb d_Mo_tick_48 (lv_at hl 4 rfl) ?_
          cases hE
        · replace hE := fw_om_some hq hE
          refine lv_iload hx hb d_Mo_tick_48 (lv_at hl 4 rfl) ?_
          obtain ⟨hi5, hE⟩ := fw_ifn hE
          refine fw_iald C R (by decide) hk_b4 hi5 d_Mo_tick_50 ?_
          refine lv_if_ne (tgt := 118) hx hb d_Mo_tick_51 (by decide) (fun hc => ?_) (fun hc => ?_)
          · replace hE := fw_if_f hc hE
            refine lv_iinc (v := (v4 + (1 : Int32))) (lv' := [(4, .int (v4 + (1 : Int32))), (0, .ref v0), (1, .int v1), (2, .int v2), (3, .int v3)]) hx hb d_Mo_tick_118 hl (k := 4) rfl rfl (by decide) rfl (fun ls hl => ?_)
            refine lv_goto (tgt := 35) hx hb d_Mo_tick_121 (by decide) ?_
            exact ih _ _ _ _ _ _ hk_v0 _ _ _ R (lv_sub hl [1, 2, 3, 4, 0] rfl) hE
          · replace hE := fw_if_t hc hE
            refine lv_aload_n hx hb d_Mo_tick_54 rfl (lv_at hl 0 rfl) ?_
            refine fw_get (v := .int (fw_g S0 v0 8)) C R ft_field_7_148 hk_v0 rfl d_Mo_tick_55 ?_
            refine lv_aload_n hx hb d_Mo_tick_58 rfl (lv_at hl 0 rfl) ?_
            refine fw_getr C R ft_field_7_93 hk_v0 rfl rfl d_Mo_tick_59 (fun hq => ?_) (fun b6 hq hk_b6 => ?_)
            · replace hE := fw_om_none hq hE
              refine lv_iload hx hb d_Mo_tick_62 (lv_at hl 4 rfl) ?_
              cases hE
            · replace hE := fw_om_some hq hE
              refine lv_iload hx hb d_Mo_tick_62 (lv_at hl 4 rfl) ?_
              obtain ⟨hi7, hE⟩ := fw_ifn hE
              refine fw_iald C R (by decide) hk_b6 hi7 d_Mo_tick_64 ?_
              refine lv_isub hx hb d_Mo_tick_65 ?_
              refine lv_aload_n hx hb d_Mo_tick_66 rfl (lv_at hl 0 rfl) ?_
              refine fw_get (v := .int (fw_g S0 v0 6)) C R ft_field_7_30 hk_v0 rfl d_Mo_tick_67 ?_
              refine lv_icmp_lt (tgt := 118) hx hb d_Mo_tick_70 (by decide) (fun hc => ?_) (fun hc => ?_)
              · replace hE := fw_if_t hc hE
                refine lv_iinc (v := (v4 + (1 : Int32))) (lv' := [(4, .int (v4 + (1 : Int32))), (0, .ref v0), (1, .int v1), (2, .int v2), (3, .int v3)]) hx hb d_Mo_tick_118 hl (k := 4) rfl rfl (by decide) rfl (fun ls hl => ?_)
                refine lv_goto (tgt := 35) hx hb d_Mo_tick_121 (by decide) ?_
                exact ih _ _ _ _ _ _ hk_v0 _ _ _ R (lv_sub hl [1, 2, 3, 4, 0] rfl) hE
              · replace hE := fw_if_f hc hE
                refine lv_aload_n hx hb d_Mo_tick_73 rfl (lv_at hl 0 rfl) ?_
                refine fw_getr C R ft_field_7_90 hk_v0 rfl rfl d_Mo_tick_74 (fun hq => ?_) (fun b8 hq hk_b8 => ?_)
                · replace hE := fw_om_none hq hE
                  refine lv_iload hx hb d_Mo_tick_77 (lv_at hl 4 rfl) ?_
                  cases hE
                · replace hE := fw_om_some hq hE
                  refine lv_iload hx hb d_Mo_tick_77 (lv_at hl 4 rfl) ?_
                  obtain ⟨hi9, hE⟩ := fw_ifn hE
                  refine fw_iald C R (by decide) hk_b8 hi9 d_Mo_tick_79 ?_
                  refine lv_aload_n hx hb d_Mo_tick_80 rfl (lv_at hl 0 rfl) ?_
                  refine fw_get (v := .int (fw_g S0 v0 7)) C R ft_field_7_33 hk_v0 rfl d_Mo_tick_81 ?_
                  refine lv_icmp_lt (tgt := 100) hx hb d_Mo_tick_84 (by decide) (fun hc => ?_) (fun hc => ?_)
                  · replace hE := fw_if_t hc hE
                    refine lv_aload_n hx hb d_Mo_tick_100 rfl (lv_at hl 0 rfl) ?_
                    refine fw_getr C R ft_field_7_90 hk_v0 rfl rfl d_Mo_tick_101 (fun hq => ?_) (fun b10 hq hk_b10 => ?_)
                    · replace hE := fw_om_none hq hE
                      refine lv_iload hx hb d_Mo_tick_104 (lv_at hl 4 rfl) ?_
                      refine lv_dup2_11 hx hb d_Mo_tick_106 rfl rfl ?_
                      cases hE
                    · replace hE := fw_om_some hq hE
                      refine lv_iload hx hb d_Mo_tick_104 (lv_at hl 4 rfl) ?_
                      refine lv_dup2_11 hx hb d_Mo_tick_106 rfl rfl ?_
                      obtain ⟨hi11, hE⟩ := fw_ifn hE
                      refine fw_iald C R (by decide) hk_b10 hi11 d_Mo_tick_107 ?_
                      refine lv_iconst (v := 1) hx hb d_Mo_tick_108 (by decide) ?_
                      refine lv_iadd hx hb d_Mo_tick_109 ?_
                      obtain ⟨hi12, hE⟩ := fw_ifn hE
                      refine fw_iast C R (by decide) hk_b10 hi12 d_Mo_tick_110 (fun H locs R => ?_)
                      obtain ⟨S13, eS13, hE⟩ := fw_let_ex hE
                      rw [← eS13] at R
                      clear eS13
                      refine lv_aload_n hx hb d_Mo_tick_111 rfl (lv_at hl 0 rfl) ?_
                      refine lv_iload hx hb d_Mo_tick_112 (lv_at hl 4 rfl) ?_
                      obtain ⟨x15, S14, hF, hE⟩ := fw_b2_ex hE
                      refine fw_callV (As := [.int v4]) (rest := []) C R ft_callV_7_155 yi_Mo_sendLast ys_Mo_sendLast (ct_Mo_sendLast l G kd0 S13 _ _ _ _ hk_v0 hF) hk_v0 (by decide) rfl rfl hl.1 rfl (lv_room (Nat.le_of_ble_eq_true rfl)) ⟨Nat.le_of_ble_eq_true rfl, Nat.le_of_ble_eq_true rfl⟩ ⟨Nat.le_of_ble_eq_true rfl, Nat.le_of_ble_eq_true rfl⟩ d_Mo_tick_114 (fun H locs kd16 hxkd16 hP R => ?_)
                      rw [hP] at R; clear hP hxkd16
                      refine lv_pop hx hb d_Mo_tick_117 rfl ?_
                      refine lv_iinc (v := (v4 + (1 : Int32))) (lv' := [(4, .int (v4 + (1 : Int32))), (0, .ref v0), (1, .int v1), (2, .int v2), (3, .int v3)]) hx hb d_Mo_tick_118 hl (k := 4) rfl rfl (by decide) rfl (fun ls hl => ?_)
                      refine lv_goto (tgt := 35) hx hb d_Mo_tick_121 (by decide) ?_
                      exact ih _ _ _ _ _ _ hk_v0 _ _ _ R (lv_sub hl [1, 2, 3, 4, 0] rfl) hE
                  · replace hE := fw_if_f hc hE
                    refine lv_aload_n hx hb d_Mo_tick_87 rfl (lv_at hl 0 rfl) ?_
                    refine lv_iload hx hb d_Mo_tick_88 (lv_at hl 4 rfl) ?_
                    refine lv_iconst (v := 1) hx hb d_Mo_tick_90 (by decide) ?_
                    obtain ⟨S17, hF, hE⟩ := fw_bind hE
                    refine fw_callV (As := [.int v4, .int (1 : Int32)]) (rest := []) C R ft_callV_7_178 yi_Mo_fail ys_Mo_fail (ct_Mo_fail l G kd0 S0 _ _ _ _ hk_v0 hF) hk_v0 (by decide) rfl rfl hl.1 rfl (lv_room (Nat.le_of_ble_eq_true rfl)) ⟨Nat.le_of_ble_eq_true rfl, Nat.le_of_ble_eq_true rfl⟩ ⟨Nat.le_of_ble_eq_true rfl, Nat.le_of_ble_eq_true rfl⟩ d_Mo_tick_91 (fun H locs kd18 hxkd18 hP R => ?_)
                    rw [hP] at R; clear hP hxkd18
                    refine lv_iinc (v := (v2 + (1 : Int32))) (lv' := [(2, .int (v2 + (1 : Int32))), (0, .ref v0), (1, .int v1), (3, .int v3), (4, .int v4)]) hx hb d_Mo_tick_94 hl (k := 2) rfl rfl (by decide) rfl (fun ls hl => ?_)
                    refine lv_goto (tgt := 118) hx hb d_Mo_tick_97 (by decide) ?_
                    refine lv_iinc (v := (v4 + (1 : Int32))) (lv' := [(4, .int (v4 + (1 : Int32))), (2, .int (v2 + (1 : Int32))), (0, .ref v0), (1, .int v1), (3, .int v3)]) hx hb d_Mo_tick_118 hl (k := 4) rfl rfl (by decide) rfl (fun ls hl => ?_)
                    refine lv_goto (tgt := 35) hx hb d_Mo_tick_121 (by decide) ?_
                    exact ih _ _ _ _ _ _ hk_v0 _ _ _ R (lv_sub hl [2, 3, 1, 4, 0] rfl) hE
  have h_l17 : ∀ (n : Nat), ∀ v0 : Nat, ∀ v1 : Int32, ∀ v2 : Int32, ∀ v3 : Int32, ∀ S0 : fw_S, kd0 v0 = some 7 → ∀ (H : Heap) (locs : List Loc) (ls : Array Slot), fw_R G kd0 S0 H locs → lv_has ls 5 [(0, .ref v0), (1, .int v1), (2, .int v2), (3, .int v3)] → F_Mo_tick_l17 n v0 v1 v2 v3 S0 = some (r0, S') → W p l e { frames := 2, cells := 0, slots := 0, locals := 48 } s m ([.ref a0, .int p1] : List Value).toArray below meth c H locs 0 0 (MQ below (fw_Q G kd0 (some (.int r0)) S' (fun k => k = kd0)) ([.ref a0, .int p1] : List Value).toArray s 0 0 (fw_A G)) (F0 m 17 ls []) := by
    intro n
    induction n with
    | zero =>
      intro v0 v1 v2 v3 S0 hk_v0 H locs ls R hl hE
      rw [F_Mo_tick_l17] at hE
      cases hE
    | succ n ih =>
      intro v0 v1 v2 v3 S0 hk_v0 H locs ls R hl hE
      rw [F_Mo_tick_l17] at hE
      refine lv_iload_n hx hb d_Mo_tick_17 rfl (lv_at hl 3 rfl) ?_
      refine lv_iload_n hx hb d_Mo_tick_18 rfl (lv_at hl 1 rfl) ?_
      refine lv_icmp_ge (tgt := 130) hx hb d_Mo_tick_19 (by decide) (fun hc => ?_) (fun hc => ?_)
      · replace hE := fw_if_t hc hE
        refine lv_iload_n hx hb d_Mo_tick_130 rfl (lv_at hl 2 rfl) ?_
        cases hE
        exact fw_iret C fw_X.rf rfl R d_Mo_tick_131
      · replace hE := fw_if_f hc hE
        refine lv_aload_n hx hb d_Mo_tick_22 rfl (lv_at hl 0 rfl) ?_
        refine lv_dup hx hb d_Mo_tick_23 rfl ?_
        refine fw_get (v := .int (fw_g S0 v0 8)) C R ft_field_7_148 hk_v0 rfl d_Mo_tick_24 ?_
        refine lv_iconst (v := 1) hx hb d_Mo_tick_27 (by decide) ?_
        refine lv_iadd hx hb d_Mo_tick_28 ?_
        refine fw_puti C R ft_field_7_148 rfl hk_v0 d_Mo_tick_29 (fun H locs R => ?_)
        obtain ⟨S3, eS3, hE⟩ := fw_let_ex hE
        rw [← eS3] at R
        clear eS3
        refine lv_iconst (v := 0) hx hb d_Mo_tick_32 (by decide) ?_
        refine lv_istore (lv' := [(4, .int (0 : Int32)), (0, .ref v0), (1, .int v1), (2, .int v2), (3, .int v3)]) hx hb d_Mo_tick_33 hl (by decide) rfl (fun ls hl => ?_)
        exact h_l35 _ ih _ _ _ _ _ _ _ hk_v0 _ _ _ R (lv_sub hl [1, 2, 3, 4, 0] rfl) hE
  unfold F_Mo_tick at hE
  refine lv_iload_n hx hb d_Mo_tick_0 rfl (lv_at hl 1 rfl) ?_
  refine lv_iconst (v := 0) hx hb d_Mo_tick_1 (by decide) ?_
  refine lv_sipush (v := 1000) hx hb d_Mo_tick_2 (by decide) ?_
  obtain ⟨x1, hF, hE⟩ := fw_bind hE
  refine fw_callS (As := [.int p1, .int (0 : Int32), .int (1000 : Int32)]) (rest := []) C R ft_callS_7_163 yt_Mo_isIn (ct_Mo_isIn l G kd0 S0 _ _ _ _  hF) rfl hl.1 rfl (lv_room (Nat.le_of_ble_eq_true rfl)) ⟨Nat.le_of_ble_eq_true rfl, Nat.le_of_ble_eq_true rfl⟩ ⟨Nat.le_of_ble_eq_true rfl, Nat.le_of_ble_eq_true rfl⟩ d_Mo_tick_5 (fun H locs kd2 hxkd2 hP R => ?_)
  rw [hP] at R; clear hP hxkd2
  refine lv_if_ne (tgt := 13) hx hb d_Mo_tick_8 (by decide) (fun hc => ?_) (fun hc => ?_)
  · replace hE := fw_if_f hc hE
    refine lv_iconst (v := 0) hx hb d_Mo_tick_13 (by decide) ?_
    refine lv_istore_n (lv' := [(2, .int (0 : Int32)), (0, .ref a0), (1, .int p1)]) hx hb d_Mo_tick_14 rfl hl (by decide) rfl (fun ls hl => ?_)
    refine lv_iconst (v := 0) hx hb d_Mo_tick_15 (by decide) ?_
    refine lv_istore_n (lv' := [(3, .int (0 : Int32)), (2, .int (0 : Int32)), (0, .ref a0), (1, .int p1)]) hx hb d_Mo_tick_16 rfl hl (by decide) rfl (fun ls hl => ?_)
    exact h_l17 _ _ _ _ _ _ hk_a0 _ _ _ R (lv_sub hl [2, 3, 1, 0] rfl) hE
  · replace hE := fw_if_t hc hE
    refine lv_iconst (v := -1) hx hb d_Mo_tick_11 (by decide) ?_
    cases hE
    exact fw_iret C fw_X.rf rfl R d_Mo_tick_12
set_option maxHeartbeats 4000000 in
set_option maxRecDepth 100000 in
theorem ct_Mo_joinedOnes (l : Launch) (G : fw_G) (kd0 : Nat → Option Nat) (S0 : fw_S) (a0 : Nat) (p1 : Int32) (p2 : Int32) (p3 : Int32) (r0 : Int32) (hk_a0 : kd0 a0 = some 7) (hE : F_Mo_joinedOnes a0 p1 p2 p3 S0 = some r0) : fw_M l G y_Mo_joinedOnes prog_9_method_34_code 7 (some .int) 1 21 0 0 kd0 S0 ([.ref a0, .int p1, .int p2, .int p3] : List Value) (some (.int r0)) S0 (fun k => k = kd0) := by
  refine fw_start (by decide) (Nat.le_of_ble_eq_true rfl) ?_
  intro p e s m below meth c ls C hnm R hl
  clear hnm
  have hx := C.1
  have hb := C.2.1
  have hl : lv_has ls 7 [(0, .ref a0), (1, .int p1), (2, .int p2), (3, .int p3)] := hl
  have h_j102 : ∀ v0 : Nat, ∀ v1 : Int32, ∀ v3 : Int32, ∀ v5 : Int32, ∀ v6 : Int32, kd0 v0 = some 7 → ∀ (H : Heap) (locs : List Loc) (ls : Array Slot), fw_R G kd0 S0 H locs → lv_has ls 7 [(0, .ref v0), (1, .int v1), (3, .int v3), (5, .int v5), (6, .int v6)] → F_Mo_joinedOnes_j102 S0 v0 v1 v3 v5 v6 = some r0 → W p l e { frames := 1, cells := 0, slots := 0, locals := 21 } s m ([.ref a0, .int p1, .int p2, .int p3] : List Value).toArray below meth c H locs 0 0 (MQ below (fw_Q G kd0 (some (.int r0)) S0 (fun k => k = kd0)) ([.ref a0, .int p1, .int p2, .int p3] : List Value).toArray s 0 0 (fw_A G)) (F0 m 102 ls []) := by
    intro v0 v1 v3 v5 v6 hk_v0 H locs ls R hl hE
    unfold F_Mo_joinedOnes_j102 at hE
    refine lv_iload_n hx hb d_Mo_joinedOnes_102 rfl (lv_at hl 2 rfl) ?_
    refine lv_if_ne (tgt := 121) hx hb d_Mo_joinedOnes_103 (by decide) (fun hc => ?_) (fun hc => ?_)
    · replace hE := fw_if_f hc hE
      refine lv_aload_n hx hb d_Mo_joinedOnes_121 rfl (lv_at hl 0 rfl) ?_
      refine fw_getr C R ft_field_7_81 hk_v0 rfl rfl d_Mo_joinedOnes_122 (fun hq => ?_) (fun b11 hq hk_b11 => ?_)
      · replace hE := fw_om_none hq hE
        refine lv_bipush (v := 60) hx hb d_Mo_joinedOnes_125 (by decide) ?_
        refine lv_iload_n hx hb d_Mo_joinedOnes_127 rfl (lv_at hl 1 rfl) ?_
        refine lv_imul hx hb d_Mo_joinedOnes_128 ?_
        refine lv_iload hx hb d_Mo_joinedOnes_129 (lv_at hl 4 rfl) ?_
        refine lv_iadd hx hb d_Mo_joinedOnes_131 ?_
        cases hE
      · replace hE := fw_om_some hq hE
        refine lv_bipush (v := 60) hx hb d_Mo_joinedOnes_125 (by decide) ?_
        refine lv_iload_n hx hb d_Mo_joinedOnes_127 rfl (lv_at hl 1 rfl) ?_
        refine lv_imul hx hb d_Mo_joinedOnes_128 ?_
        refine lv_iload hx hb d_Mo_joinedOnes_129 (lv_at hl 4 rfl) ?_
        refine lv_iadd hx hb d_Mo_joinedOnes_131 ?_
        obtain ⟨hi12, hE⟩ := fw_ifn hE
        refine fw_iald C R (by decide) hk_b11 hi12 d_Mo_joinedOnes_132 ?_
        cases hE
        exact fw_iret C fw_X.rf rfl R d_Mo_joinedOnes_133
    · replace hE := fw_if_t hc hE
      refine lv_aload_n hx hb d_Mo_joinedOnes_106 rfl (lv_at hl 0 rfl) ?_
      refine fw_getr C R ft_field_7_60 hk_v0 rfl rfl d_Mo_joinedOnes_107 (fun hq => ?_) (fun b13 hq hk_b13 => ?_)
      · replace hE := fw_om_none hq hE
        refine lv_bipush (v := 20) hx hb d_Mo_joinedOnes_110 (by decide) ?_
        refine lv_iload_n hx hb d_Mo_joinedOnes_112 rfl (lv_at hl 1 rfl) ?_
        refine lv_imul hx hb d_Mo_joinedOnes_113 ?_
        refine lv_iload hx hb d_Mo_joinedOnes_114 (lv_at hl 3 rfl) ?_
        refine lv_iadd hx hb d_Mo_joinedOnes_116 ?_
        cases hE
      · replace hE := fw_om_some hq hE
        refine lv_bipush (v := 20) hx hb d_Mo_joinedOnes_110 (by decide) ?_
        refine lv_iload_n hx hb d_Mo_joinedOnes_112 rfl (lv_at hl 1 rfl) ?_
        refine lv_imul hx hb d_Mo_joinedOnes_113 ?_
        refine lv_iload hx hb d_Mo_joinedOnes_114 (lv_at hl 3 rfl) ?_
        refine lv_iadd hx hb d_Mo_joinedOnes_116 ?_
        obtain ⟨hi14, hE⟩ := fw_ifn hE
        refine fw_iald C R (by decide) hk_b13 hi14 d_Mo_joinedOnes_117 ?_
        refine lv_goto (tgt := 133) hx hb d_Mo_joinedOnes_118 (by decide) ?_
        cases hE
        exact fw_iret C fw_X.rf rfl R d_Mo_joinedOnes_133
  have h_l58 : ∀ (k6 : Nat → Int32 → Int32 → Int32 → Int32 → Int32 → Option (Int32)), (∀ v0 : Nat, ∀ v1 : Int32, ∀ v2 : Int32, ∀ v3 : Int32, ∀ v4 : Int32, ∀ v5 : Int32, kd0 v0 = some 7 → ∀ (H : Heap) (locs : List Loc) (ls : Array Slot), fw_R G kd0 S0 H locs → lv_has ls 7 [(0, .ref v0), (1, .int v1), (2, .int v2), (3, .int v3), (4, .int v4), (5, .int v5)] → k6 v0 v1 v2 v3 v4 v5 = some r0 → W p l e { frames := 1, cells := 0, slots := 0, locals := 21 } s m ([.ref a0, .int p1, .int p2, .int p3] : List Value).toArray below meth c H locs 0 0 (MQ below (fw_Q G kd0 (some (.int r0)) S0 (fun k => k = kd0)) ([.ref a0, .int p1, .int p2, .int p3] : List Value).toArray s 0 0 (fw_A G)) (F0 m 6 ls [])) → ∀ (n : Nat), ∀ v0 : Nat, ∀ v1 : Int32, ∀ v2 : Int32, ∀ v3 : Int32, ∀ v4 : Int32, ∀ v5 : Int32, ∀ v6 : Int32, kd0 v0 = some 7 → ∀ (H : Heap) (locs : List Loc) (ls : Array Slot), fw_R G kd0 S0 H locs → lv_has ls 7 [(0, .ref v0), (1, .int v1), (2, .int v2), (3, .int v3), (4, .int v4), (5, .int v5), (6, .int v6)] → F_Mo_joinedOnes_l58 S0 k6 n v0 v1 v2 v3 v4 v5 v6 = some r0 → W p l e { frames := 1, cells := 0, slots := 0, locals := 21 } s m ([.ref a0, .int p1, .int p2, .int p3] : List Value).toArray below meth c H locs 0 0 (MQ below (fw_Q G kd0 (some (.int r0)) S0 (fun k => k = kd0)) ([.ref a0, .int p1, .int p2, .int p3] : List Value).toArray s 0 0 (fw_A G)) (F0 m 58 ls []) := by
    intro k6 hk6 n
    induction n with
    | zero =>
      intro v0 v1 v2 v3 v4 v5 v6 hk_v0 H locs ls R hl hE
      rw [F_Mo_joinedOnes_l58] at hE
      cases hE
    | succ n ih =>
      intro v0 v1 v2 v3 v4 v5 v6 hk_v0 H locs ls R hl hE
      rw [F_Mo_joinedOnes_l58] at hE
      refine lv_iload hx hb d_Mo_joinedOnes_58 (lv_at hl 6 rfl) ?_
      refine lv_aload_n hx hb d_Mo_joinedOnes_60 rfl (lv_at hl 0 rfl) ?_
      refine fw_getr C R ft_field_7_75 hk_v0 rfl rfl d_Mo_joinedOnes_61 (fun hq => ?_) (fun b5 hq hk_b5 => ?_)
      · replace hE := fw_om_none hq hE
        refine lv_iload_n hx hb d_Mo_joinedOnes_64 rfl (lv_at hl 1 rfl) ?_
        cases hE
      · replace hE := fw_om_some hq hE
        refine lv_iload_n hx hb d_Mo_joinedOnes_64 rfl (lv_at hl 1 rfl) ?_
        obtain ⟨hi6, hE⟩ := fw_ifn hE
        refine fw_iald C R (by decide) hk_b5 hi6 d_Mo_joinedOnes_65 ?_
        refine lv_icmp_ge (tgt := 143) hx hb d_Mo_joinedOnes_66 (by decide) (fun hc => ?_) (fun hc => ?_)
        · replace hE := fw_if_t hc hE
          refine lv_iinc (v := (v5 + (1 : Int32))) (lv' := [(5, .int (v5 + (1 : Int32))), (0, .ref v0), (1, .int v1), (2, .int v2), (3, .int v3), (4, .int v4), (6, .int v6)]) hx hb d_Mo_joinedOnes_143 hl (k := 5) rfl rfl (by decide) rfl (fun ls hl => ?_)
          refine lv_goto (tgt := 6) hx hb d_Mo_joinedOnes_146 (by decide) ?_
          exact hk6 _ _ _ _ _ _ hk_v0 _ _ _ R (lv_sub hl [1, 2, 3, 4, 5, 0] rfl) hE
        · replace hE := fw_if_f hc hE
          refine lv_aload_n hx hb d_Mo_joinedOnes_69 rfl (lv_at hl 0 rfl) ?_
          refine fw_getr C R ft_field_7_78 hk_v0 rfl rfl d_Mo_joinedOnes_70 (fun hq => ?_) (fun b7 hq hk_b7 => ?_)
          · replace hE := fw_om_none hq hE
            refine lv_bipush (v := 60) hx hb d_Mo_joinedOnes_73 (by decide) ?_
            refine lv_iload_n hx hb d_Mo_joinedOnes_75 rfl (lv_at hl 1 rfl) ?_
            refine lv_imul hx hb d_Mo_joinedOnes_76 ?_
            refine lv_iload hx hb d_Mo_joinedOnes_77 (lv_at hl 6 rfl) ?_
            refine lv_iadd hx hb d_Mo_joinedOnes_79 ?_
            cases hE
          · replace hE := fw_om_some hq hE
            refine lv_bipush (v := 60) hx hb d_Mo_joinedOnes_73 (by decide) ?_
            refine lv_iload_n hx hb d_Mo_joinedOnes_75 rfl (lv_at hl 1 rfl) ?_
            refine lv_imul hx hb d_Mo_joinedOnes_76 ?_
            refine lv_iload hx hb d_Mo_joinedOnes_77 (lv_at hl 6 rfl) ?_
            refine lv_iadd hx hb d_Mo_joinedOnes_79 ?_
            obtain ⟨hi8, hE⟩ := fw_ifn hE
            refine fw_iald C R (by decide) hk_b7 hi8 d_Mo_joinedOnes_80 ?_
            refine lv_aload_n hx hb d_Mo_joinedOnes_81 rfl (lv_at hl 0 rfl) ?_
            refine fw_getr C R ft_field_7_57 hk_v0 rfl rfl d_Mo_joinedOnes_82 (fun hq => ?_) (fun b9 hq hk_b9 => ?_)
            · replace hE := fw_om_none hq hE
              refine lv_bipush (v := 20) hx hb d_Mo_joinedOnes_85 (by decide) ?_
              refine lv_iload_n hx hb d_Mo_joinedOnes_87 rfl (lv_at hl 1 rfl) ?_
              refine lv_imul hx hb d_Mo_joinedOnes_88 ?_
              refine lv_iload hx hb d_Mo_joinedOnes_89 (lv_at hl 5 rfl) ?_
              refine lv_iadd hx hb d_Mo_joinedOnes_91 ?_
              cases hE
            · replace hE := fw_om_some hq hE
              refine lv_bipush (v := 20) hx hb d_Mo_joinedOnes_85 (by decide) ?_
              refine lv_iload_n hx hb d_Mo_joinedOnes_87 rfl (lv_at hl 1 rfl) ?_
              refine lv_imul hx hb d_Mo_joinedOnes_88 ?_
              refine lv_iload hx hb d_Mo_joinedOnes_89 (lv_at hl 5 rfl) ?_
              refine lv_iadd hx hb d_Mo_joinedOnes_91 ?_
              obtain ⟨hi10, hE⟩ := fw_ifn hE
              refine fw_iald C R (by decide) hk_b9 hi10 d_Mo_joinedOnes_92 ?_
              refine lv_icmp_ne (tgt := 137) hx hb d_Mo_joinedOnes_93 (by decide) (fun hc => ?_) (fun hc => ?_)
              · replace hE := fw_if_f hc hE
                refine lv_iinc (v := (v6 + (1 : Int32))) (lv' := [(6, .int (v6 + (1 : Int32))), (0, .ref v0), (1, .int v1), (2, .int v2), (3, .int v3), (4, .int v4), (5, .int v5)]) hx hb d_Mo_joinedOnes_137 hl (k := 6) rfl rfl (by decide) rfl (fun ls hl => ?_)
                refine lv_goto (tgt := 58) hx hb d_Mo_joinedOnes_140 (by decide) ?_
                exact ih _ _ _ _ _ _ _ hk_v0 _ _ _ R (lv_sub hl [1, 2, 3, 4, 5, 6, 0] rfl) hE
              · replace hE := fw_if_t hc hE
                refine lv_iload hx hb d_Mo_joinedOnes_96 (lv_at hl 4 rfl) ?_
                refine lv_iload_n hx hb d_Mo_joinedOnes_98 rfl (lv_at hl 2 rfl) ?_
                refine lv_icmp_ne (tgt := 134) hx hb d_Mo_joinedOnes_99 (by decide) (fun hc => ?_) (fun hc => ?_)
                · replace hE := fw_if_f hc hE
                  refine lv_iinc (v := (v4 + (1 : Int32))) (lv' := [(4, .int (v4 + (1 : Int32))), (0, .ref v0), (1, .int v1), (2, .int v2), (3, .int v3), (5, .int v5), (6, .int v6)]) hx hb d_Mo_joinedOnes_134 hl (k := 4) rfl rfl (by decide) rfl (fun ls hl => ?_)
                  refine lv_iinc (v := (v6 + (1 : Int32))) (lv' := [(6, .int (v6 + (1 : Int32))), (4, .int (v4 + (1 : Int32))), (0, .ref v0), (1, .int v1), (2, .int v2), (3, .int v3), (5, .int v5)]) hx hb d_Mo_joinedOnes_137 hl (k := 6) rfl rfl (by decide) rfl (fun ls hl => ?_)
                  refine lv_goto (tgt := 58) hx hb d_Mo_joinedOnes_140 (by decide) ?_
                  exact ih _ _ _ _ _ _ _ hk_v0 _ _ _ R (lv_sub hl [2, 3, 4, 5, 1, 6, 0] rfl) hE
                · replace hE := fw_if_t hc hE
                  exact h_j102 _ _ _ _ _ hk_v0 _ _ _ R (lv_sub hl [0, 1, 3, 5, 6] rfl) hE
  have h_j31 : ∀ v0 : Nat, ∀ v1 : Int32, ∀ v3 : Int32, ∀ v5 : Int32, kd0 v0 = some 7 → ∀ (H : Heap) (locs : List Loc) (ls : Array Slot), fw_R G kd0 S0 H locs → lv_has ls 7 [(0, .ref v0), (1, .int v1), (3, .int v3), (5, .int v5)] → F_Mo_joinedOnes_j31 S0 v0 v1 v3 v5 = some r0 → W p l e { frames := 1, cells := 0, slots := 0, locals := 21 } s m ([.ref a0, .int p1, .int p2, .int p3] : List Value).toArray below meth c H locs 0 0 (MQ below (fw_Q G kd0 (some (.int r0)) S0 (fun k => k = kd0)) ([.ref a0, .int p1, .int p2, .int p3] : List Value).toArray s 0 0 (fw_A G)) (F0 m 31 ls []) := by
    intro v0 v1 v3 v5 hk_v0 H locs ls R hl hE
    unfold F_Mo_joinedOnes_j31 at hE
    refine lv_iload_n hx hb d_Mo_joinedOnes_31 rfl (lv_at hl 2 rfl) ?_
    refine lv_if_ne (tgt := 50) hx hb d_Mo_joinedOnes_32 (by decide) (fun hc => ?_) (fun hc => ?_)
    · replace hE := fw_if_f hc hE
      refine lv_iconst (v := -1) hx hb d_Mo_joinedOnes_50 (by decide) ?_
      cases hE
      exact fw_iret C fw_X.rf rfl R d_Mo_joinedOnes_51
    · replace hE := fw_if_t hc hE
      refine lv_aload_n hx hb d_Mo_joinedOnes_35 rfl (lv_at hl 0 rfl) ?_
      refine fw_getr C R ft_field_7_60 hk_v0 rfl rfl d_Mo_joinedOnes_36 (fun hq => ?_) (fun b15 hq hk_b15 => ?_)
      · replace hE := fw_om_none hq hE
        refine lv_bipush (v := 20) hx hb d_Mo_joinedOnes_39 (by decide) ?_
        refine lv_iload_n hx hb d_Mo_joinedOnes_41 rfl (lv_at hl 1 rfl) ?_
        refine lv_imul hx hb d_Mo_joinedOnes_42 ?_
        refine lv_iload hx hb d_Mo_joinedOnes_43 (lv_at hl 3 rfl) ?_
        refine lv_iadd hx hb d_Mo_joinedOnes_45 ?_
        cases hE
      · replace hE := fw_om_some hq hE
        refine lv_bipush (v := 20) hx hb d_Mo_joinedOnes_39 (by decide) ?_
        refine lv_iload_n hx hb d_Mo_joinedOnes_41 rfl (lv_at hl 1 rfl) ?_
        refine lv_imul hx hb d_Mo_joinedOnes_42 ?_
        refine lv_iload hx hb d_Mo_joinedOnes_43 (lv_at hl 3 rfl) ?_
        refine lv_iadd hx hb d_Mo_joinedOnes_45 ?_
        obtain ⟨hi16, hE⟩ := fw_ifn hE
        refine fw_iald C R (by decide) hk_b15 hi16 d_Mo_joinedOnes_46 ?_
        refine lv_goto (tgt := 51) hx hb d_Mo_joinedOnes_47 (by decide) ?_
        cases hE
        exact fw_iret C fw_X.rf rfl R d_Mo_joinedOnes_51
  have h_l6 : ∀ (n : Nat), ∀ v0 : Nat, ∀ v1 : Int32, ∀ v2 : Int32, ∀ v3 : Int32, ∀ v4 : Int32, ∀ v5 : Int32, kd0 v0 = some 7 → ∀ (H : Heap) (locs : List Loc) (ls : Array Slot), fw_R G kd0 S0 H locs → lv_has ls 7 [(0, .ref v0), (1, .int v1), (2, .int v2), (3, .int v3), (4, .int v4), (5, .int v5)] → F_Mo_joinedOnes_l6 S0 n v0 v1 v2 v3 v4 v5 = some r0 → W p l e { frames := 1, cells := 0, slots := 0, locals := 21 } s m ([.ref a0, .int p1, .int p2, .int p3] : List Value).toArray below meth c H locs 0 0 (MQ below (fw_Q G kd0 (some (.int r0)) S0 (fun k => k = kd0)) ([.ref a0, .int p1, .int p2, .int p3] : List Value).toArray s 0 0 (fw_A G)) (F0 m 6 ls []) := by
    intro n
    induction n with
    | zero =>
      intro v0 v1 v2 v3 v4 v5 hk_v0 H locs ls R hl hE
      rw [F_Mo_joinedOnes_l6] at hE
      cases hE
    | succ n ih =>
      intro v0 v1 v2 v3 v4 v5 hk_v0 H locs ls R hl hE
      rw [F_Mo_joinedOnes_l6] at hE
      refine lv_iload hx hb d_Mo_joinedOnes_6 (lv_at hl 5 rfl) ?_
      refine lv_aload_n hx hb d_Mo_joinedOnes_8 rfl (lv_at hl 0 rfl) ?_
      refine fw_getr C R ft_field_7_54 hk_v0 rfl rfl d_Mo_joinedOnes_9 (fun hq => ?_) (fun b1 hq hk_b1 => ?_)
      · replace hE := fw_om_none hq hE
        refine lv_iload_n hx hb d_Mo_joinedOnes_12 rfl (lv_at hl 1 rfl) ?_
        cases hE
      · replace hE := fw_om_some hq hE
        refine lv_iload_n hx hb d_Mo_joinedOnes_12 rfl (lv_at hl 1 rfl) ?_
        obtain ⟨hi2, hE⟩ := fw_ifn hE
        refine fw_iald C R (by decide) hk_b1 hi2 d_Mo_joinedOnes_13 ?_
        refine lv_icmp_ge (tgt := 149) hx hb d_Mo_joinedOnes_14 (by decide) (fun hc => ?_) (fun hc => ?_)
        · replace hE := fw_if_t hc hE
          refine lv_iload hx hb d_Mo_joinedOnes_149 (lv_at hl 4 rfl) ?_
          cases hE
          exact fw_iret C fw_X.rf rfl R d_Mo_joinedOnes_151
        · replace hE := fw_if_f hc hE
          refine lv_aload_n hx hb d_Mo_joinedOnes_17 rfl (lv_at hl 0 rfl) ?_
          refine lv_iload_n hx hb d_Mo_joinedOnes_18 rfl (lv_at hl 1 rfl) ?_
          obtain ⟨x3, hF, hE⟩ := fw_bind hE
          refine fw_callV (As := [.int v1]) (rest := []) C R ft_callV_7_237 yi_Mo_isFailedSilently ys_Mo_isFailedSilently (ct_Mo_isFailedSilently l G kd0 S0 _ _ _ hk_v0 hF) hk_v0 (by decide) rfl rfl hl.1 rfl (lv_room (Nat.le_of_ble_eq_true rfl)) ⟨Nat.le_of_ble_eq_true rfl, Nat.le_of_ble_eq_true rfl⟩ ⟨Nat.le_of_ble_eq_true rfl, Nat.le_of_ble_eq_true rfl⟩ d_Mo_joinedOnes_19 (fun H locs kd4 hxkd4 hP R => ?_)
          rw [hP] at R; clear hP hxkd4
          refine lv_if_eq (tgt := 55) hx hb d_Mo_joinedOnes_22 (by decide) (fun hc => ?_) (fun hc => ?_)
          · replace hE := fw_if_t hc hE
            refine lv_iconst (v := 0) hx hb d_Mo_joinedOnes_55 (by decide) ?_
            refine lv_istore (lv' := [(6, .int (0 : Int32)), (0, .ref v0), (1, .int v1), (2, .int v2), (3, .int v3), (4, .int v4), (5, .int v5)]) hx hb d_Mo_joinedOnes_56 hl (by decide) rfl (fun ls hl => ?_)
            exact h_l58 _ ih _ _ _ _ _ _ _ _ hk_v0 _ _ _ R (lv_sub hl [1, 2, 3, 4, 5, 6, 0] rfl) hE
          · replace hE := fw_if_f hc hE
            refine lv_iload hx hb d_Mo_joinedOnes_25 (lv_at hl 4 rfl) ?_
            refine lv_iload_n hx hb d_Mo_joinedOnes_27 rfl (lv_at hl 2 rfl) ?_
            refine lv_icmp_ne (tgt := 52) hx hb d_Mo_joinedOnes_28 (by decide) (fun hc => ?_) (fun hc => ?_)
            · replace hE := fw_if_f hc hE
              refine lv_iinc (v := (v4 + (1 : Int32))) (lv' := [(4, .int (v4 + (1 : Int32))), (0, .ref v0), (1, .int v1), (2, .int v2), (3, .int v3), (5, .int v5)]) hx hb d_Mo_joinedOnes_52 hl (k := 4) rfl rfl (by decide) rfl (fun ls hl => ?_)
              refine lv_iconst (v := 0) hx hb d_Mo_joinedOnes_55 (by decide) ?_
              refine lv_istore (lv' := [(6, .int (0 : Int32)), (4, .int (v4 + (1 : Int32))), (0, .ref v0), (1, .int v1), (2, .int v2), (3, .int v3), (5, .int v5)]) hx hb d_Mo_joinedOnes_56 hl (by decide) rfl (fun ls hl => ?_)
              exact h_l58 _ ih _ _ _ _ _ _ _ _ hk_v0 _ _ _ R (lv_sub hl [2, 3, 4, 5, 1, 6, 0] rfl) hE
            · replace hE := fw_if_t hc hE
              exact h_j31 _ _ _ _ hk_v0 _ _ _ R (lv_sub hl [0, 1, 3, 5] rfl) hE
  unfold F_Mo_joinedOnes at hE
  refine lv_iconst (v := 0) hx hb d_Mo_joinedOnes_0 (by decide) ?_
  refine lv_istore (lv' := [(4, .int (0 : Int32)), (0, .ref a0), (1, .int p1), (2, .int p2), (3, .int p3)]) hx hb d_Mo_joinedOnes_1 hl (by decide) rfl (fun ls hl => ?_)
  refine lv_iconst (v := 0) hx hb d_Mo_joinedOnes_3 (by decide) ?_
  refine lv_istore (lv' := [(5, .int (0 : Int32)), (4, .int (0 : Int32)), (0, .ref a0), (1, .int p1), (2, .int p2), (3, .int p3)]) hx hb d_Mo_joinedOnes_4 hl (by decide) rfl (fun ls hl => ?_)
  exact h_l6 _ _ _ _ _ _ _ hk_a0 _ _ _ R (lv_sub hl [2, 3, 4, 5, 1, 0] rfl) hE
set_option maxHeartbeats 4000000 in
set_option maxRecDepth 100000 in
theorem ct_Mo_told (l : Launch) (G : fw_G) (kd0 : Nat → Option Nat) (S0 : fw_S) (a0 : Nat) (p1 : Int32) (p2 : Int32) (r0 : Int32) (hk_a0 : kd0 a0 = some 7) (hE : F_Mo_told a0 p1 p2 S0 = some r0) : fw_M l G y_Mo_told prog_9_method_35_code 3 (some .int) 2 47 0 0 kd0 S0 ([.ref a0, .int p1, .int p2] : List Value) (some (.int r0)) S0 (fun k => k = kd0) := by
  refine fw_start (by decide) (Nat.le_of_ble_eq_true rfl) ?_
  intro p e s m below meth c ls C hnm R hl
  clear hnm
  have hx := C.1
  have hb := C.2.1
  have hl : lv_has ls 3 [(0, .ref a0), (1, .int p1), (2, .int p2)] := hl
  unfold F_Mo_told at hE
  refine lv_iload_n hx hb d_Mo_told_0 rfl (lv_at hl 1 rfl) ?_
  refine lv_iconst (v := 0) hx hb d_Mo_told_1 (by decide) ?_
  refine lv_aload_n hx hb d_Mo_told_2 rfl (lv_at hl 0 rfl) ?_
  refine fw_get (v := .int (fw_g S0 a0 14)) C R ft_field_7_169 hk_a0 rfl d_Mo_told_3 ?_
  refine lv_iconst (v := 1) hx hb d_Mo_told_6 (by decide) ?_
  refine lv_isub hx hb d_Mo_told_7 ?_
  obtain ⟨x1, hF, hE⟩ := fw_bind hE
  refine fw_callS (As := [.int p1, .int (0 : Int32), .int ((fw_g S0 a0 14) - (1 : Int32))]) (rest := []) C R ft_callS_7_163 yt_Mo_isIn (ct_Mo_isIn l G kd0 S0 _ _ _ _  hF) rfl hl.1 rfl (lv_room (Nat.le_of_ble_eq_true rfl)) ⟨Nat.le_of_ble_eq_true rfl, Nat.le_of_ble_eq_true rfl⟩ ⟨Nat.le_of_ble_eq_true rfl, Nat.le_of_ble_eq_true rfl⟩ d_Mo_told_8 (fun H locs kd2 hxkd2 hP R => ?_)
  rw [hP] at R; clear hP hxkd2
  refine lv_if_ne (tgt := 16) hx hb d_Mo_told_11 (by decide) (fun hc => ?_) (fun hc => ?_)
  · replace hE := fw_if_f hc hE
    refine lv_iload_n hx hb d_Mo_told_16 rfl (lv_at hl 2 rfl) ?_
    by_cases hs21 : p2 = (0 : Int32)
    · replace hE := fw_if_t hs21 hE
      refine lv_tableIn (off := 47) (tgt := 64) hx hb d_Mo_told_17 (by rw [hs21]; decide) (by rw [hs21]; decide) (by rw [hs21]; rfl) (by decide) ?_
      refine lv_aload_n hx hb d_Mo_told_64 rfl (lv_at hl 0 rfl) ?_
      refine fw_getr C R ft_field_7_42 hk_a0 rfl rfl d_Mo_told_65 (fun hq => ?_) (fun b3 hq hk_b3 => ?_)
      · replace hE := fw_om_none hq hE
        refine lv_iload_n hx hb d_Mo_told_68 rfl (lv_at hl 1 rfl) ?_
        cases hE
      · replace hE := fw_om_some hq hE
        refine lv_iload_n hx hb d_Mo_told_68 rfl (lv_at hl 1 rfl) ?_
        obtain ⟨hi4, hE⟩ := fw_ifn hE
        refine fw_iald C R (by decide) hk_b3 hi4 d_Mo_told_69 ?_
        cases hE
        exact fw_iret C fw_X.rf rfl R d_Mo_told_70
    · replace hE := fw_if_f hs21 hE
      by_cases hs22 : p2 = (1 : Int32)
      · replace hE := fw_if_t hs22 hE
        refine lv_tableIn (off := 54) (tgt := 71) hx hb d_Mo_told_17 (by rw [hs22]; decide) (by rw [hs22]; decide) (by rw [hs22]; rfl) (by decide) ?_
        refine lv_aload_n hx hb d_Mo_told_71 rfl (lv_at hl 0 rfl) ?_
        refine fw_getr C R ft_field_7_48 hk_a0 rfl rfl d_Mo_told_72 (fun hq => ?_) (fun b5 hq hk_b5 => ?_)
        · replace hE := fw_om_none hq hE
          refine lv_iload_n hx hb d_Mo_told_75 rfl (lv_at hl 1 rfl) ?_
          cases hE
        · replace hE := fw_om_some hq hE
          refine lv_iload_n hx hb d_Mo_told_75 rfl (lv_at hl 1 rfl) ?_
          obtain ⟨hi6, hE⟩ := fw_ifn hE
          refine fw_iald C R (by decide) hk_b5 hi6 d_Mo_told_76 ?_
          cases hE
          exact fw_iret C fw_X.rf rfl R d_Mo_told_77
      · replace hE := fw_if_f hs22 hE
        by_cases hs23 : p2 = (2 : Int32)
        · replace hE := fw_if_t hs23 hE
          refine lv_tableIn (off := 61) (tgt := 78) hx hb d_Mo_told_17 (by rw [hs23]; decide) (by rw [hs23]; decide) (by rw [hs23]; rfl) (by decide) ?_
          refine lv_aload_n hx hb d_Mo_told_78 rfl (lv_at hl 0 rfl) ?_
          refine fw_getr C R ft_field_7_51 hk_a0 rfl rfl d_Mo_told_79 (fun hq => ?_) (fun b7 hq hk_b7 => ?_)
          · replace hE := fw_om_none hq hE
            refine lv_iload_n hx hb d_Mo_told_82 rfl (lv_at hl 1 rfl) ?_
            cases hE
          · replace hE := fw_om_some hq hE
            refine lv_iload_n hx hb d_Mo_told_82 rfl (lv_at hl 1 rfl) ?_
            obtain ⟨hi8, hE⟩ := fw_ifn hE
            refine fw_iald C R (by decide) hk_b7 hi8 d_Mo_told_83 ?_
            cases hE
            exact fw_iret C fw_X.rf rfl R d_Mo_told_84
        · replace hE := fw_if_f hs23 hE
          by_cases hs24 : p2 = (3 : Int32)
          · replace hE := fw_if_t hs24 hE
            refine lv_tableIn (off := 68) (tgt := 85) hx hb d_Mo_told_17 (by rw [hs24]; decide) (by rw [hs24]; decide) (by rw [hs24]; rfl) (by decide) ?_
            refine lv_aload_n hx hb d_Mo_told_85 rfl (lv_at hl 0 rfl) ?_
            refine fw_getr C R ft_field_7_75 hk_a0 rfl rfl d_Mo_told_86 (fun hq => ?_) (fun b9 hq hk_b9 => ?_)
            · replace hE := fw_om_none hq hE
              refine lv_iload_n hx hb d_Mo_told_89 rfl (lv_at hl 1 rfl) ?_
              cases hE
            · replace hE := fw_om_some hq hE
              refine lv_iload_n hx hb d_Mo_told_89 rfl (lv_at hl 1 rfl) ?_
              obtain ⟨hi10, hE⟩ := fw_ifn hE
              refine fw_iald C R (by decide) hk_b9 hi10 d_Mo_told_90 ?_
              cases hE
              exact fw_iret C fw_X.rf rfl R d_Mo_told_91
          · replace hE := fw_if_f hs24 hE
            by_cases hs25 : p2 = (4 : Int32)
            · replace hE := fw_if_t hs25 hE
              refine lv_tableIn (off := 75) (tgt := 92) hx hb d_Mo_told_17 (by rw [hs25]; decide) (by rw [hs25]; decide) (by rw [hs25]; rfl) (by decide) ?_
              refine lv_aload_n hx hb d_Mo_told_92 rfl (lv_at hl 0 rfl) ?_
              refine fw_getr C R ft_field_7_48 hk_a0 rfl rfl d_Mo_told_93 (fun hq => ?_) (fun b11 hq hk_b11 => ?_)
              · replace hE := fw_om_none hq hE
                refine lv_iload_n hx hb d_Mo_told_96 rfl (lv_at hl 1 rfl) ?_
                cases hE
              · replace hE := fw_om_some hq hE
                refine lv_iload_n hx hb d_Mo_told_96 rfl (lv_at hl 1 rfl) ?_
                obtain ⟨hi12, hE⟩ := fw_ifn hE
                refine fw_iald C R (by decide) hk_b11 hi12 d_Mo_told_97 ?_
                refine lv_iconst (v := 1) hx hb d_Mo_told_98 (by decide) ?_
                refine lv_icmp_ne (tgt := 112) hx hb d_Mo_told_99 (by decide) (fun hc => ?_) (fun hc => ?_)
                · replace hE := fw_if_f hc hE
                  refine lv_iconst (v := 0) hx hb d_Mo_told_112 (by decide) ?_
                  cases hE
                  exact fw_iret C fw_X.rf rfl R d_Mo_told_113
                · replace hE := fw_if_t hc hE
                  refine lv_aload_n hx hb d_Mo_told_102 rfl (lv_at hl 0 rfl) ?_
                  refine lv_iload_n hx hb d_Mo_told_103 rfl (lv_at hl 1 rfl) ?_
                  refine lv_iconst (v := -1) hx hb d_Mo_told_104 (by decide) ?_
                  refine lv_iconst (v := 0) hx hb d_Mo_told_105 (by decide) ?_
                  obtain ⟨x13, hF, hE⟩ := fw_bind hE
                  refine fw_callV (As := [.int p1, .int (-1 : Int32), .int (0 : Int32)]) (rest := []) C R ft_callV_7_240 yi_Mo_joinedOnes ys_Mo_joinedOnes (ct_Mo_joinedOnes l G kd0 S0 _ _ _ _ _ hk_a0 hF) hk_a0 (by decide) rfl rfl hl.1 rfl (lv_room (Nat.le_of_ble_eq_true rfl)) ⟨Nat.le_of_ble_eq_true rfl, Nat.le_of_ble_eq_true rfl⟩ ⟨Nat.le_of_ble_eq_true rfl, Nat.le_of_ble_eq_true rfl⟩ d_Mo_told_106 (fun H locs kd14 hxkd14 hP R => ?_)
                  rw [hP] at R; clear hP hxkd14
                  refine lv_goto (tgt := 113) hx hb d_Mo_told_109 (by decide) ?_
                  cases hE
                  exact fw_iret C fw_X.rf rfl R d_Mo_told_113
            · replace hE := fw_if_f hs25 hE
              by_cases hs26 : p2 = (5 : Int32)
              · replace hE := fw_if_t hs26 hE
                refine lv_tableIn (off := 97) (tgt := 114) hx hb d_Mo_told_17 (by rw [hs26]; decide) (by rw [hs26]; decide) (by rw [hs26]; rfl) (by decide) ?_
                refine lv_aload_n hx hb d_Mo_told_114 rfl (lv_at hl 0 rfl) ?_
                refine fw_getr C R ft_field_7_87 hk_a0 rfl rfl d_Mo_told_115 (fun hq => ?_) (fun b15 hq hk_b15 => ?_)
                · replace hE := fw_om_none hq hE
                  refine lv_iload_n hx hb d_Mo_told_118 rfl (lv_at hl 1 rfl) ?_
                  cases hE
                · replace hE := fw_om_some hq hE
                  refine lv_iload_n hx hb d_Mo_told_118 rfl (lv_at hl 1 rfl) ?_
                  obtain ⟨hi16, hE⟩ := fw_ifn hE
                  refine fw_iald C R (by decide) hk_b15 hi16 d_Mo_told_119 ?_
                  cases hE
                  exact fw_iret C fw_X.rf rfl R d_Mo_told_120
              · replace hE := fw_if_f hs26 hE
                by_cases hs27 : p2 = (6 : Int32)
                · replace hE := fw_if_t hs27 hE
                  refine lv_tableIn (off := 104) (tgt := 121) hx hb d_Mo_told_17 (by rw [hs27]; decide) (by rw [hs27]; decide) (by rw [hs27]; rfl) (by decide) ?_
                  refine lv_aload_n hx hb d_Mo_told_121 rfl (lv_at hl 0 rfl) ?_
                  refine fw_getr C R ft_field_7_90 hk_a0 rfl rfl d_Mo_told_122 (fun hq => ?_) (fun b17 hq hk_b17 => ?_)
                  · replace hE := fw_om_none hq hE
                    refine lv_iload_n hx hb d_Mo_told_125 rfl (lv_at hl 1 rfl) ?_
                    cases hE
                  · replace hE := fw_om_some hq hE
                    refine lv_iload_n hx hb d_Mo_told_125 rfl (lv_at hl 1 rfl) ?_
                    obtain ⟨hi18, hE⟩ := fw_ifn hE
                    refine fw_iald C R (by decide) hk_b17 hi18 d_Mo_told_126 ?_
                    cases hE
                    exact fw_iret C fw_X.rf rfl R d_Mo_told_127
                · replace hE := fw_if_f hs27 hE
                  by_cases hs28 : p2 = (7 : Int32)
                  · replace hE := fw_if_t hs28 hE
                    refine lv_tableIn (off := 111) (tgt := 128) hx hb d_Mo_told_17 (by rw [hs28]; decide) (by rw [hs28]; decide) (by rw [hs28]; rfl) (by decide) ?_
                    refine lv_aload_n hx hb d_Mo_told_128 rfl (lv_at hl 0 rfl) ?_
                    refine fw_getr C R ft_field_7_63 hk_a0 rfl rfl d_Mo_told_129 (fun hq => ?_) (fun b19 hq hk_b19 => ?_)
                    · replace hE := fw_om_none hq hE
                      refine lv_iload_n hx hb d_Mo_told_132 rfl (lv_at hl 1 rfl) ?_
                      cases hE
                    · replace hE := fw_om_some hq hE
                      refine lv_iload_n hx hb d_Mo_told_132 rfl (lv_at hl 1 rfl) ?_
                      obtain ⟨hi20, hE⟩ := fw_ifn hE
                      refine fw_iald C R (by decide) hk_b19 hi20 d_Mo_told_133 ?_
                      cases hE
                      exact fw_iret C fw_X.rf rfl R d_Mo_told_134
                  · replace hE := fw_if_f hs28 hE
                    refine lv_tableOut (tgt := 135) hx hb d_Mo_told_17 (fw_tout 0 7 (fun k h1 h2 hk => ?_)) (by decide) ?_
                    · have h3 : k = 0 ∨ k = 1 ∨ k = 2 ∨ k = 3 ∨ k = 4 ∨ k = 5 ∨ k = 6 ∨ k = 7 := by omega
                      rcases h3 with rfl | rfl | rfl | rfl | rfl | rfl | rfl | rfl
                      · exact hs21 (by rw [hk]; rfl)
                      · exact hs22 (by rw [hk]; rfl)
                      · exact hs23 (by rw [hk]; rfl)
                      · exact hs24 (by rw [hk]; rfl)
                      · exact hs25 (by rw [hk]; rfl)
                      · exact hs26 (by rw [hk]; rfl)
                      · exact hs27 (by rw [hk]; rfl)
                      · exact hs28 (by rw [hk]; rfl)
                    · refine lv_iconst (v := -1) hx hb d_Mo_told_135 (by decide) ?_
                      cases hE
                      exact fw_iret C fw_X.rf rfl R d_Mo_told_136
  · replace hE := fw_if_t hc hE
    refine lv_iconst (v := -1) hx hb d_Mo_told_14 (by decide) ?_
    cases hE
    exact fw_iret C fw_X.rf rfl R d_Mo_told_15
set_option maxHeartbeats 4000000 in
set_option maxRecDepth 100000 in
theorem ct_Mo_row (l : Launch) (G : fw_G) (kd0 : Nat → Option Nat) (S0 : fw_S) (a0 : Nat) (p1 : Int32) (p2 : Int32) (p3 : Int32) (r0 : Int32) (hk_a0 : kd0 a0 = some 7) (hE : F_Mo_row a0 p1 p2 p3 S0 = some r0) : fw_M l G y_Mo_row prog_9_method_36_code 4 (some .int) 1 22 0 0 kd0 S0 ([.ref a0, .int p1, .int p2, .int p3] : List Value) (some (.int r0)) S0 (fun k => k = kd0) := by
  refine fw_start (by decide) (Nat.le_of_ble_eq_true rfl) ?_
  intro p e s m below meth c ls C hnm R hl
  clear hnm
  have hx := C.1
  have hb := C.2.1
  have hl : lv_has ls 4 [(0, .ref a0), (1, .int p1), (2, .int p2), (3, .int p3)] := hl
  unfold F_Mo_row at hE
  refine lv_iload_n hx hb d_Mo_row_0 rfl (lv_at hl 1 rfl) ?_
  refine lv_iconst (v := 0) hx hb d_Mo_row_1 (by decide) ?_
  refine lv_aload_n hx hb d_Mo_row_2 rfl (lv_at hl 0 rfl) ?_
  refine fw_get (v := .int (fw_g S0 a0 14)) C R ft_field_7_169 hk_a0 rfl d_Mo_row_3 ?_
  refine lv_iconst (v := 1) hx hb d_Mo_row_6 (by decide) ?_
  refine lv_isub hx hb d_Mo_row_7 ?_
  obtain ⟨x1, hF, hE⟩ := fw_bind hE
  refine fw_callS (As := [.int p1, .int (0 : Int32), .int ((fw_g S0 a0 14) - (1 : Int32))]) (rest := []) C R ft_callS_7_163 yt_Mo_isIn (ct_Mo_isIn l G kd0 S0 _ _ _ _  hF) rfl hl.1 rfl (lv_room (Nat.le_of_ble_eq_true rfl)) ⟨Nat.le_of_ble_eq_true rfl, Nat.le_of_ble_eq_true rfl⟩ ⟨Nat.le_of_ble_eq_true rfl, Nat.le_of_ble_eq_true rfl⟩ d_Mo_row_8 (fun H locs kd2 hxkd2 hP R => ?_)
  rw [hP] at R; clear hP hxkd2
  refine lv_if_eq (tgt := 23) hx hb d_Mo_row_11 (by decide) (fun hc => ?_) (fun hc => ?_)
  · replace hE := fw_if_t hc hE
    refine lv_iconst (v := -1) hx hb d_Mo_row_23 (by decide) ?_
    cases hE
    exact fw_iret C fw_X.rf rfl R d_Mo_row_24
  · replace hE := fw_if_f hc hE
    refine lv_iload_n hx hb d_Mo_row_14 rfl (lv_at hl 3 rfl) ?_
    refine lv_iconst (v := 0) hx hb d_Mo_row_15 (by decide) ?_
    refine lv_iconst (v := 1) hx hb d_Mo_row_16 (by decide) ?_
    obtain ⟨x3, hF, hE⟩ := fw_bind hE
    refine fw_callS (As := [.int p3, .int (0 : Int32), .int (1 : Int32)]) (rest := []) C R ft_callS_7_163 yt_Mo_isIn (ct_Mo_isIn l G kd0 S0 _ _ _ _  hF) rfl hl.1 rfl (lv_room (Nat.le_of_ble_eq_true rfl)) ⟨Nat.le_of_ble_eq_true rfl, Nat.le_of_ble_eq_true rfl⟩ ⟨Nat.le_of_ble_eq_true rfl, Nat.le_of_ble_eq_true rfl⟩ d_Mo_row_17 (fun H locs kd4 hxkd4 hP R => ?_)
    rw [hP] at R; clear hP hxkd4
    refine lv_if_ne (tgt := 25) hx hb d_Mo_row_20 (by decide) (fun hc => ?_) (fun hc => ?_)
    · replace hE := fw_if_f hc hE
      refine lv_iload_n hx hb d_Mo_row_25 rfl (lv_at hl 2 rfl) ?_
      refine lv_iconst (v := 0) hx hb d_Mo_row_26 (by decide) ?_
      refine lv_aload_n hx hb d_Mo_row_27 rfl (lv_at hl 0 rfl) ?_
      refine fw_getr C R ft_field_7_75 hk_a0 rfl rfl d_Mo_row_28 (fun hq => ?_) (fun b5 hq hk_b5 => ?_)
      · replace hE := fw_om_none hq hE
        refine lv_iload_n hx hb d_Mo_row_31 rfl (lv_at hl 1 rfl) ?_
        cases hE
      · replace hE := fw_om_some hq hE
        refine lv_iload_n hx hb d_Mo_row_31 rfl (lv_at hl 1 rfl) ?_
        obtain ⟨hi6, hE⟩ := fw_ifn hE
        refine fw_iald C R (by decide) hk_b5 hi6 d_Mo_row_32 ?_
        refine lv_iconst (v := 1) hx hb d_Mo_row_33 (by decide) ?_
        refine lv_isub hx hb d_Mo_row_34 ?_
        obtain ⟨x7, hF, hE⟩ := fw_bind hE
        refine fw_callS (As := [.int p2, .int (0 : Int32), .int ((fw_g S0 b5 p1.toNatClampNeg) - (1 : Int32))]) (rest := []) C R ft_callS_7_163 yt_Mo_isIn (ct_Mo_isIn l G kd0 S0 _ _ _ _  hF) rfl hl.1 rfl (lv_room (Nat.le_of_ble_eq_true rfl)) ⟨Nat.le_of_ble_eq_true rfl, Nat.le_of_ble_eq_true rfl⟩ ⟨Nat.le_of_ble_eq_true rfl, Nat.le_of_ble_eq_true rfl⟩ d_Mo_row_35 (fun H locs kd8 hxkd8 hP R => ?_)
        rw [hP] at R; clear hP hxkd8
        refine lv_if_ne (tgt := 44) hx hb d_Mo_row_38 (by decide) (fun hc => ?_) (fun hc => ?_)
        · replace hE := fw_if_f hc hE
          refine lv_iload_n hx hb d_Mo_row_44 rfl (lv_at hl 3 rfl) ?_
          refine lv_if_ne (tgt := 62) hx hb d_Mo_row_45 (by decide) (fun hc => ?_) (fun hc => ?_)
          · replace hE := fw_if_f hc hE
            refine lv_aload_n hx hb d_Mo_row_62 rfl (lv_at hl 0 rfl) ?_
            refine fw_getr C R ft_field_7_81 hk_a0 rfl rfl d_Mo_row_63 (fun hq => ?_) (fun b9 hq hk_b9 => ?_)
            · replace hE := fw_om_none hq hE
              refine lv_bipush (v := 60) hx hb d_Mo_row_66 (by decide) ?_
              refine lv_iload_n hx hb d_Mo_row_68 rfl (lv_at hl 1 rfl) ?_
              refine lv_imul hx hb d_Mo_row_69 ?_
              refine lv_iload_n hx hb d_Mo_row_70 rfl (lv_at hl 2 rfl) ?_
              refine lv_iadd hx hb d_Mo_row_71 ?_
              cases hE
            · replace hE := fw_om_some hq hE
              refine lv_bipush (v := 60) hx hb d_Mo_row_66 (by decide) ?_
              refine lv_iload_n hx hb d_Mo_row_68 rfl (lv_at hl 1 rfl) ?_
              refine lv_imul hx hb d_Mo_row_69 ?_
              refine lv_iload_n hx hb d_Mo_row_70 rfl (lv_at hl 2 rfl) ?_
              refine lv_iadd hx hb d_Mo_row_71 ?_
              obtain ⟨hi10, hE⟩ := fw_ifn hE
              refine fw_iald C R (by decide) hk_b9 hi10 d_Mo_row_72 ?_
              cases hE
              exact fw_iret C fw_X.rf rfl R d_Mo_row_73
          · replace hE := fw_if_t hc hE
            refine lv_aload_n hx hb d_Mo_row_48 rfl (lv_at hl 0 rfl) ?_
            refine fw_getr C R ft_field_7_78 hk_a0 rfl rfl d_Mo_row_49 (fun hq => ?_) (fun b11 hq hk_b11 => ?_)
            · replace hE := fw_om_none hq hE
              refine lv_bipush (v := 60) hx hb d_Mo_row_52 (by decide) ?_
              refine lv_iload_n hx hb d_Mo_row_54 rfl (lv_at hl 1 rfl) ?_
              refine lv_imul hx hb d_Mo_row_55 ?_
              refine lv_iload_n hx hb d_Mo_row_56 rfl (lv_at hl 2 rfl) ?_
              refine lv_iadd hx hb d_Mo_row_57 ?_
              cases hE
            · replace hE := fw_om_some hq hE
              refine lv_bipush (v := 60) hx hb d_Mo_row_52 (by decide) ?_
              refine lv_iload_n hx hb d_Mo_row_54 rfl (lv_at hl 1 rfl) ?_
              refine lv_imul hx hb d_Mo_row_55 ?_
              refine lv_iload_n hx hb d_Mo_row_56 rfl (lv_at hl 2 rfl) ?_
              refine lv_iadd hx hb d_Mo_row_57 ?_
              obtain ⟨hi12, hE⟩ := fw_ifn hE
              refine fw_iald C R (by decide) hk_b11 hi12 d_Mo_row_58 ?_
              refine lv_goto (tgt := 73) hx hb d_Mo_row_59 (by decide) ?_
              cases hE
              exact fw_iret C fw_X.rf rfl R d_Mo_row_73
        · replace hE := fw_if_t hc hE
          refine lv_bipush (v := -2) hx hb d_Mo_row_41 (by decide) ?_
          cases hE
          exact fw_iret C fw_X.rf rfl R d_Mo_row_43
    · replace hE := fw_if_t hc hE
      refine lv_iconst (v := -1) hx hb d_Mo_row_23 (by decide) ?_
      cases hE
      exact fw_iret C fw_X.rf rfl R d_Mo_row_24
set_option maxHeartbeats 4000000 in
set_option maxRecDepth 100000 in
theorem ct_Mo_joined (l : Launch) (G : fw_G) (kd0 : Nat → Option Nat) (S0 : fw_S) (a0 : Nat) (p1 : Int32) (p2 : Int32) (p3 : Int32) (r0 : Int32) (hk_a0 : kd0 a0 = some 7) (hE : F_Mo_joined a0 p1 p2 p3 S0 = some r0) : fw_M l G y_Mo_joined prog_9_method_37_code 4 (some .int) 2 47 0 0 kd0 S0 ([.ref a0, .int p1, .int p2, .int p3] : List Value) (some (.int r0)) S0 (fun k => k = kd0) := by
  refine fw_start (by decide) (Nat.le_of_ble_eq_true rfl) ?_
  intro p e s m below meth c ls C hnm R hl
  clear hnm
  have hx := C.1
  have hb := C.2.1
  have hl : lv_has ls 4 [(0, .ref a0), (1, .int p1), (2, .int p2), (3, .int p3)] := hl
  unfold F_Mo_joined at hE
  refine lv_iload_n hx hb d_Mo_joined_0 rfl (lv_at hl 1 rfl) ?_
  refine lv_iconst (v := 0) hx hb d_Mo_joined_1 (by decide) ?_
  refine lv_aload_n hx hb d_Mo_joined_2 rfl (lv_at hl 0 rfl) ?_
  refine fw_get (v := .int (fw_g S0 a0 14)) C R ft_field_7_169 hk_a0 rfl d_Mo_joined_3 ?_
  refine lv_iconst (v := 1) hx hb d_Mo_joined_6 (by decide) ?_
  refine lv_isub hx hb d_Mo_joined_7 ?_
  obtain ⟨x1, hF, hE⟩ := fw_bind hE
  refine fw_callS (As := [.int p1, .int (0 : Int32), .int ((fw_g S0 a0 14) - (1 : Int32))]) (rest := []) C R ft_callS_7_163 yt_Mo_isIn (ct_Mo_isIn l G kd0 S0 _ _ _ _  hF) rfl hl.1 rfl (lv_room (Nat.le_of_ble_eq_true rfl)) ⟨Nat.le_of_ble_eq_true rfl, Nat.le_of_ble_eq_true rfl⟩ ⟨Nat.le_of_ble_eq_true rfl, Nat.le_of_ble_eq_true rfl⟩ d_Mo_joined_8 (fun H locs kd2 hxkd2 hP R => ?_)
  rw [hP] at R; clear hP hxkd2
  refine lv_if_eq (tgt := 23) hx hb d_Mo_joined_11 (by decide) (fun hc => ?_) (fun hc => ?_)
  · replace hE := fw_if_t hc hE
    refine lv_iconst (v := -1) hx hb d_Mo_joined_23 (by decide) ?_
    cases hE
    exact fw_iret C fw_X.rf rfl R d_Mo_joined_24
  · replace hE := fw_if_f hc hE
    refine lv_iload_n hx hb d_Mo_joined_14 rfl (lv_at hl 3 rfl) ?_
    refine lv_iconst (v := 0) hx hb d_Mo_joined_15 (by decide) ?_
    refine lv_iconst (v := 1) hx hb d_Mo_joined_16 (by decide) ?_
    obtain ⟨x3, hF, hE⟩ := fw_bind hE
    refine fw_callS (As := [.int p3, .int (0 : Int32), .int (1 : Int32)]) (rest := []) C R ft_callS_7_163 yt_Mo_isIn (ct_Mo_isIn l G kd0 S0 _ _ _ _  hF) rfl hl.1 rfl (lv_room (Nat.le_of_ble_eq_true rfl)) ⟨Nat.le_of_ble_eq_true rfl, Nat.le_of_ble_eq_true rfl⟩ ⟨Nat.le_of_ble_eq_true rfl, Nat.le_of_ble_eq_true rfl⟩ d_Mo_joined_17 (fun H locs kd4 hxkd4 hP R => ?_)
    rw [hP] at R; clear hP hxkd4
    refine lv_if_ne (tgt := 25) hx hb d_Mo_joined_20 (by decide) (fun hc => ?_) (fun hc => ?_)
    · replace hE := fw_if_f hc hE
      refine lv_aload_n hx hb d_Mo_joined_25 rfl (lv_at hl 0 rfl) ?_
      refine fw_getr C R ft_field_7_48 hk_a0 rfl rfl d_Mo_joined_26 (fun hq => ?_) (fun b5 hq hk_b5 => ?_)
      · replace hE := fw_om_none hq hE
        refine lv_iload_n hx hb d_Mo_joined_29 rfl (lv_at hl 1 rfl) ?_
        cases hE
      · replace hE := fw_om_some hq hE
        refine lv_iload_n hx hb d_Mo_joined_29 rfl (lv_at hl 1 rfl) ?_
        obtain ⟨hi6, hE⟩ := fw_ifn hE
        refine fw_iald C R (by decide) hk_b5 hi6 d_Mo_joined_30 ?_
        refine lv_iconst (v := 1) hx hb d_Mo_joined_31 (by decide) ?_
        refine lv_icmp_ne (tgt := 52) hx hb d_Mo_joined_32 (by decide) (fun hc => ?_) (fun hc => ?_)
        · replace hE := fw_if_f hc hE
          refine lv_bipush (v := -2) hx hb d_Mo_joined_52 (by decide) ?_
          refine lv_goto (tgt := 64) hx hb d_Mo_joined_54 (by decide) ?_
          cases hE
          exact fw_iret C fw_X.rf rfl R d_Mo_joined_64
        · replace hE := fw_if_t hc hE
          refine lv_iload_n hx hb d_Mo_joined_35 rfl (lv_at hl 2 rfl) ?_
          refine lv_iconst (v := 0) hx hb d_Mo_joined_36 (by decide) ?_
          refine lv_aload_n hx hb d_Mo_joined_37 rfl (lv_at hl 0 rfl) ?_
          refine lv_iload_n hx hb d_Mo_joined_38 rfl (lv_at hl 1 rfl) ?_
          refine lv_iconst (v := -1) hx hb d_Mo_joined_39 (by decide) ?_
          refine lv_iconst (v := 0) hx hb d_Mo_joined_40 (by decide) ?_
          obtain ⟨x7, hF, hE⟩ := fw_bind hE
          refine fw_callV (As := [.int p1, .int (-1 : Int32), .int (0 : Int32)]) (rest := [.int (0 : Int32), .int p2]) C R ft_callV_7_240 yi_Mo_joinedOnes ys_Mo_joinedOnes (ct_Mo_joinedOnes l G kd0 S0 _ _ _ _ _ hk_a0 hF) hk_a0 (by decide) rfl rfl hl.1 rfl (lv_room (Nat.le_of_ble_eq_true rfl)) ⟨Nat.le_of_ble_eq_true rfl, Nat.le_of_ble_eq_true rfl⟩ ⟨Nat.le_of_ble_eq_true rfl, Nat.le_of_ble_eq_true rfl⟩ d_Mo_joined_41 (fun H locs kd8 hxkd8 hP R => ?_)
          rw [hP] at R; clear hP hxkd8
          refine lv_iconst (v := 1) hx hb d_Mo_joined_44 (by decide) ?_
          refine lv_isub hx hb d_Mo_joined_45 ?_
          obtain ⟨x9, hF, hE⟩ := fw_bind hE
          refine fw_callS (As := [.int p2, .int (0 : Int32), .int (x7 - (1 : Int32))]) (rest := []) C R ft_callS_7_163 yt_Mo_isIn (ct_Mo_isIn l G kd0 S0 _ _ _ _  hF) rfl hl.1 rfl (lv_room (Nat.le_of_ble_eq_true rfl)) ⟨Nat.le_of_ble_eq_true rfl, Nat.le_of_ble_eq_true rfl⟩ ⟨Nat.le_of_ble_eq_true rfl, Nat.le_of_ble_eq_true rfl⟩ d_Mo_joined_46 (fun H locs kd10 hxkd10 hP R => ?_)
          rw [hP] at R; clear hP hxkd10
          refine lv_if_ne (tgt := 57) hx hb d_Mo_joined_49 (by decide) (fun hc => ?_) (fun hc => ?_)
          · replace hE := fw_if_f hc hE
            refine lv_aload_n hx hb d_Mo_joined_57 rfl (lv_at hl 0 rfl) ?_
            refine lv_iload_n hx hb d_Mo_joined_58 rfl (lv_at hl 1 rfl) ?_
            refine lv_iload_n hx hb d_Mo_joined_59 rfl (lv_at hl 2 rfl) ?_
            refine lv_iload_n hx hb d_Mo_joined_60 rfl (lv_at hl 3 rfl) ?_
            obtain ⟨x11, hF, hE⟩ := fw_bind hE
            refine fw_callV (As := [.int p1, .int p2, .int p3]) (rest := []) C R ft_callV_7_240 yi_Mo_joinedOnes ys_Mo_joinedOnes (ct_Mo_joinedOnes l G kd0 S0 _ _ _ _ _ hk_a0 hF) hk_a0 (by decide) rfl rfl hl.1 rfl (lv_room (Nat.le_of_ble_eq_true rfl)) ⟨Nat.le_of_ble_eq_true rfl, Nat.le_of_ble_eq_true rfl⟩ ⟨Nat.le_of_ble_eq_true rfl, Nat.le_of_ble_eq_true rfl⟩ d_Mo_joined_61 (fun H locs kd12 hxkd12 hP R => ?_)
            rw [hP] at R; clear hP hxkd12
            cases hE
            exact fw_iret C fw_X.rf rfl R d_Mo_joined_64
          · replace hE := fw_if_t hc hE
            refine lv_bipush (v := -2) hx hb d_Mo_joined_52 (by decide) ?_
            refine lv_goto (tgt := 64) hx hb d_Mo_joined_54 (by decide) ?_
            cases hE
            exact fw_iret C fw_X.rf rfl R d_Mo_joined_64
    · replace hE := fw_if_t hc hE
      refine lv_iconst (v := -1) hx hb d_Mo_joined_23 (by decide) ?_
      cases hE
      exact fw_iret C fw_X.rf rfl R d_Mo_joined_24
set_option maxHeartbeats 4000000 in
set_option maxRecDepth 100000 in
theorem ct_Mo_estimate (l : Launch) (G : fw_G) (kd0 : Nat → Option Nat) (S0 : fw_S) (a0 : Nat) (p1 : Int32) (r0 : Int32) (hk_a0 : kd0 a0 = some 7) (hE : F_Mo_estimate a0 p1 S0 = some r0) : fw_M l G y_Mo_estimate prog_9_method_38_code 2 (some .int) 1 22 0 0 kd0 S0 ([.ref a0, .int p1] : List Value) (some (.int r0)) S0 (fun k => k = kd0) := by
  refine fw_start (by decide) (Nat.le_of_ble_eq_true rfl) ?_
  intro p e s m below meth c ls C hnm R hl
  clear hnm
  have hx := C.1
  have hb := C.2.1
  have hl : lv_has ls 2 [(0, .ref a0), (1, .int p1)] := hl
  unfold F_Mo_estimate at hE
  refine lv_iload_n hx hb d_Mo_estimate_0 rfl (lv_at hl 1 rfl) ?_
  refine lv_iconst (v := 0) hx hb d_Mo_estimate_1 (by decide) ?_
  refine lv_iconst (v := 3) hx hb d_Mo_estimate_2 (by decide) ?_
  obtain ⟨x1, hF, hE⟩ := fw_bind hE
  refine fw_callS (As := [.int p1, .int (0 : Int32), .int (3 : Int32)]) (rest := []) C R ft_callS_7_163 yt_Mo_isIn (ct_Mo_isIn l G kd0 S0 _ _ _ _  hF) rfl hl.1 rfl (lv_room (Nat.le_of_ble_eq_true rfl)) ⟨Nat.le_of_ble_eq_true rfl, Nat.le_of_ble_eq_true rfl⟩ ⟨Nat.le_of_ble_eq_true rfl, Nat.le_of_ble_eq_true rfl⟩ d_Mo_estimate_3 (fun H locs kd2 hxkd2 hP R => ?_)
  rw [hP] at R; clear hP hxkd2
  refine lv_if_eq (tgt := 18) hx hb d_Mo_estimate_6 (by decide) (fun hc => ?_) (fun hc => ?_)
  · replace hE := fw_if_t hc hE
    refine lv_iconst (v := -1) hx hb d_Mo_estimate_18 (by decide) ?_
    cases hE
    exact fw_iret C fw_X.rf rfl R d_Mo_estimate_19
  · replace hE := fw_if_f hc hE
    refine lv_aload_n hx hb d_Mo_estimate_9 rfl (lv_at hl 0 rfl) ?_
    refine fw_getr C R ft_field_7_105 hk_a0 rfl rfl d_Mo_estimate_10 (fun hq => ?_) (fun b3 hq hk_b3 => ?_)
    · replace hE := fw_om_none hq hE
      refine lv_iload_n hx hb d_Mo_estimate_13 rfl (lv_at hl 1 rfl) ?_
      cases hE
    · replace hE := fw_om_some hq hE
      refine lv_iload_n hx hb d_Mo_estimate_13 rfl (lv_at hl 1 rfl) ?_
      obtain ⟨hi4, hE⟩ := fw_ifn hE
      refine fw_iald C R (by decide) hk_b3 hi4 d_Mo_estimate_14 ?_
      refine lv_goto (tgt := 19) hx hb d_Mo_estimate_15 (by decide) ?_
      cases hE
      exact fw_iret C fw_X.rf rfl R d_Mo_estimate_19
set_option maxHeartbeats 4000000 in
set_option maxRecDepth 100000 in
theorem ct_Mo_count (l : Launch) (G : fw_G) (kd0 : Nat → Option Nat) (S0 : fw_S) (a0 : Nat) (p1 : Int32) (r0 : Int32) (hk_a0 : kd0 a0 = some 7) (hE : F_Mo_count a0 p1 S0 = some r0) : fw_M l G y_Mo_count prog_9_method_39_code 2 (some .int) 0 0 0 0 kd0 S0 ([.ref a0, .int p1] : List Value) (some (.int r0)) S0 (fun k => k = kd0) := by
  refine fw_start (by decide) (Nat.le_of_ble_eq_true rfl) ?_
  intro p e s m below meth c ls C hnm R hl
  clear hnm
  have hx := C.1
  have hb := C.2.1
  have hl : lv_has ls 2 [(0, .ref a0), (1, .int p1)] := hl
  unfold F_Mo_count at hE
  refine lv_iload_n hx hb d_Mo_count_0 rfl (lv_at hl 1 rfl) ?_
  by_cases hs1 : p1 = (0 : Int32)
  · replace hE := fw_if_t hs1 hE
    refine lv_tableIn (off := 47) (tgt := 48) hx hb d_Mo_count_1 (by rw [hs1]; decide) (by rw [hs1]; decide) (by rw [hs1]; rfl) (by decide) ?_
    refine lv_aload_n hx hb d_Mo_count_48 rfl (lv_at hl 0 rfl) ?_
    refine fw_get (v := .int (fw_g S0 a0 14)) C R ft_field_7_169 hk_a0 rfl d_Mo_count_49 ?_
    cases hE
    exact fw_iret C fw_X.rf rfl R d_Mo_count_52
  · replace hE := fw_if_f hs1 hE
    by_cases hs2 : p1 = (1 : Int32)
    · replace hE := fw_if_t hs2 hE
      refine lv_tableIn (off := 52) (tgt := 53) hx hb d_Mo_count_1 (by rw [hs2]; decide) (by rw [hs2]; decide) (by rw [hs2]; rfl) (by decide) ?_
      refine lv_aload_n hx hb d_Mo_count_53 rfl (lv_at hl 0 rfl) ?_
      refine fw_get (v := .int (fw_g S0 a0 38)) C R ft_field_7_184 hk_a0 rfl d_Mo_count_54 ?_
      cases hE
      exact fw_iret C fw_X.rf rfl R d_Mo_count_57
    · replace hE := fw_if_f hs2 hE
      by_cases hs3 : p1 = (2 : Int32)
      · replace hE := fw_if_t hs3 hE
        refine lv_tableIn (off := 57) (tgt := 58) hx hb d_Mo_count_1 (by rw [hs3]; decide) (by rw [hs3]; decide) (by rw [hs3]; rfl) (by decide) ?_
        refine lv_aload_n hx hb d_Mo_count_58 rfl (lv_at hl 0 rfl) ?_
        refine fw_get (v := .int (fw_g S0 a0 11)) C R ft_field_7_166 hk_a0 rfl d_Mo_count_59 ?_
        cases hE
        exact fw_iret C fw_X.rf rfl R d_Mo_count_62
      · replace hE := fw_if_f hs3 hE
        by_cases hs4 : p1 = (3 : Int32)
        · replace hE := fw_if_t hs4 hE
          refine lv_tableIn (off := 62) (tgt := 63) hx hb d_Mo_count_1 (by rw [hs4]; decide) (by rw [hs4]; decide) (by rw [hs4]; rfl) (by decide) ?_
          refine lv_aload_n hx hb d_Mo_count_63 rfl (lv_at hl 0 rfl) ?_
          refine fw_get (v := .int (fw_g S0 a0 8)) C R ft_field_7_148 hk_a0 rfl d_Mo_count_64 ?_
          cases hE
          exact fw_iret C fw_X.rf rfl R d_Mo_count_67
        · replace hE := fw_if_f hs4 hE
          by_cases hs5 : p1 = (4 : Int32)
          · replace hE := fw_if_t hs5 hE
            refine lv_tableIn (off := 67) (tgt := 68) hx hb d_Mo_count_1 (by rw [hs5]; decide) (by rw [hs5]; decide) (by rw [hs5]; rfl) (by decide) ?_
            refine lv_aload_n hx hb d_Mo_count_68 rfl (lv_at hl 0 rfl) ?_
            refine fw_get (v := .int (fw_g S0 a0 9)) C R ft_field_7_227 hk_a0 rfl d_Mo_count_69 ?_
            cases hE
            exact fw_iret C fw_X.rf rfl R d_Mo_count_72
          · replace hE := fw_if_f hs5 hE
            by_cases hs6 : p1 = (5 : Int32)
            · replace hE := fw_if_t hs6 hE
              refine lv_tableIn (off := 72) (tgt := 73) hx hb d_Mo_count_1 (by rw [hs6]; decide) (by rw [hs6]; decide) (by rw [hs6]; rfl) (by decide) ?_
              refine lv_aload_n hx hb d_Mo_count_73 rfl (lv_at hl 0 rfl) ?_
              refine fw_get (v := .int (fw_g S0 a0 10)) C R ft_field_7_141 hk_a0 rfl d_Mo_count_74 ?_
              cases hE
              exact fw_iret C fw_X.rf rfl R d_Mo_count_77
            · replace hE := fw_if_f hs6 hE
              by_cases hs7 : p1 = (6 : Int32)
              · replace hE := fw_if_t hs7 hE
                refine lv_tableIn (off := 77) (tgt := 78) hx hb d_Mo_count_1 (by rw [hs7]; decide) (by rw [hs7]; decide) (by rw [hs7]; rfl) (by decide) ?_
                refine lv_aload_n hx hb d_Mo_count_78 rfl (lv_at hl 0 rfl) ?_
                refine fw_get (v := .int (fw_g S0 a0 42)) C R ft_field_7_200 hk_a0 rfl d_Mo_count_79 ?_
                cases hE
                exact fw_iret C fw_X.rf rfl R d_Mo_count_82
              · replace hE := fw_if_f hs7 hE
                by_cases hs8 : p1 = (7 : Int32)
                · replace hE := fw_if_t hs8 hE
                  refine lv_tableIn (off := 82) (tgt := 83) hx hb d_Mo_count_1 (by rw [hs8]; decide) (by rw [hs8]; decide) (by rw [hs8]; rfl) (by decide) ?_
                  refine lv_aload_n hx hb d_Mo_count_83 rfl (lv_at hl 0 rfl) ?_
                  refine fw_get (v := .int (fw_g S0 a0 41)) C R ft_field_7_187 hk_a0 rfl d_Mo_count_84 ?_
                  cases hE
                  exact fw_iret C fw_X.rf rfl R d_Mo_count_87
                · replace hE := fw_if_f hs8 hE
                  refine lv_tableOut (tgt := 88) hx hb d_Mo_count_1 (fw_tout 0 7 (fun k h1 h2 hk => ?_)) (by decide) ?_
                  · have h3 : k = 0 ∨ k = 1 ∨ k = 2 ∨ k = 3 ∨ k = 4 ∨ k = 5 ∨ k = 6 ∨ k = 7 := by omega
                    rcases h3 with rfl | rfl | rfl | rfl | rfl | rfl | rfl | rfl
                    · exact hs1 (by rw [hk]; rfl)
                    · exact hs2 (by rw [hk]; rfl)
                    · exact hs3 (by rw [hk]; rfl)
                    · exact hs4 (by rw [hk]; rfl)
                    · exact hs5 (by rw [hk]; rfl)
                    · exact hs6 (by rw [hk]; rfl)
                    · exact hs7 (by rw [hk]; rfl)
                    · exact hs8 (by rw [hk]; rfl)
                  · refine lv_iconst (v := -1) hx hb d_Mo_count_88 (by decide) ?_
                    cases hE
                    exact fw_iret C fw_X.rf rfl R d_Mo_count_89
set_option maxHeartbeats 4000000 in
set_option maxRecDepth 100000 in
theorem ct_Mo_line (l : Launch) (G : fw_G) (kd0 : Nat → Option Nat) (S0 : fw_S) (a0 : Nat) (p1 : Int32) (p2 : Int32) (r0 : Int32) (hk_a0 : kd0 a0 = some 7) (hE : F_Mo_line a0 p1 p2 S0 = some r0) : fw_M l G y_Mo_line prog_9_method_40_code 3 (some .int) 1 22 0 0 kd0 S0 ([.ref a0, .int p1, .int p2] : List Value) (some (.int r0)) S0 (fun k => k = kd0) := by
  refine fw_start (by decide) (Nat.le_of_ble_eq_true rfl) ?_
  intro p e s m below meth c ls C hnm R hl
  clear hnm
  have hx := C.1
  have hb := C.2.1
  have hl : lv_has ls 3 [(0, .ref a0), (1, .int p1), (2, .int p2)] := hl
  unfold F_Mo_line at hE
  refine lv_iload_n hx hb d_Mo_line_0 rfl (lv_at hl 1 rfl) ?_
  refine lv_iconst (v := 0) hx hb d_Mo_line_1 (by decide) ?_
  refine lv_iconst (v := 4) hx hb d_Mo_line_2 (by decide) ?_
  obtain ⟨x1, hF, hE⟩ := fw_bind hE
  refine fw_callS (As := [.int p1, .int (0 : Int32), .int (4 : Int32)]) (rest := []) C R ft_callS_7_163 yt_Mo_isIn (ct_Mo_isIn l G kd0 S0 _ _ _ _  hF) rfl hl.1 rfl (lv_room (Nat.le_of_ble_eq_true rfl)) ⟨Nat.le_of_ble_eq_true rfl, Nat.le_of_ble_eq_true rfl⟩ ⟨Nat.le_of_ble_eq_true rfl, Nat.le_of_ble_eq_true rfl⟩ d_Mo_line_3 (fun H locs kd2 hxkd2 hP R => ?_)
  rw [hP] at R; clear hP hxkd2
  refine lv_if_eq (tgt := 18) hx hb d_Mo_line_6 (by decide) (fun hc => ?_) (fun hc => ?_)
  · replace hE := fw_if_t hc hE
    refine lv_iconst (v := -1) hx hb d_Mo_line_18 (by decide) ?_
    cases hE
    exact fw_iret C fw_X.rf rfl R d_Mo_line_19
  · replace hE := fw_if_f hc hE
    refine lv_iload_n hx hb d_Mo_line_9 rfl (lv_at hl 2 rfl) ?_
    refine lv_iconst (v := 0) hx hb d_Mo_line_10 (by decide) ?_
    refine lv_iconst (v := 2) hx hb d_Mo_line_11 (by decide) ?_
    obtain ⟨x3, hF, hE⟩ := fw_bind hE
    refine fw_callS (As := [.int p2, .int (0 : Int32), .int (2 : Int32)]) (rest := []) C R ft_callS_7_163 yt_Mo_isIn (ct_Mo_isIn l G kd0 S0 _ _ _ _  hF) rfl hl.1 rfl (lv_room (Nat.le_of_ble_eq_true rfl)) ⟨Nat.le_of_ble_eq_true rfl, Nat.le_of_ble_eq_true rfl⟩ ⟨Nat.le_of_ble_eq_true rfl, Nat.le_of_ble_eq_true rfl⟩ d_Mo_line_12 (fun H locs kd4 hxkd4 hP R => ?_)
    rw [hP] at R; clear hP hxkd4
    refine lv_if_ne (tgt := 20) hx hb d_Mo_line_15 (by decide) (fun hc => ?_) (fun hc => ?_)
    · replace hE := fw_if_f hc hE
      refine lv_iload_n hx hb d_Mo_line_20 rfl (lv_at hl 2 rfl) ?_
      refine lv_if_ne (tgt := 41) hx hb d_Mo_line_21 (by decide) (fun hc => ?_) (fun hc => ?_)
      · replace hE := fw_if_f hc hE
        refine lv_iload_n hx hb d_Mo_line_41 rfl (lv_at hl 2 rfl) ?_
        refine lv_iconst (v := 1) hx hb d_Mo_line_42 (by decide) ?_
        refine lv_icmp_ne (tgt := 55) hx hb d_Mo_line_43 (by decide) (fun hc => ?_) (fun hc => ?_)
        · replace hE := fw_if_f hc hE
          refine lv_aload_n hx hb d_Mo_line_55 rfl (lv_at hl 0 rfl) ?_
          refine fw_getr C R ft_field_7_23 hk_a0 rfl rfl d_Mo_line_56 (fun hq => ?_) (fun b5 hq hk_b5 => ?_)
          · replace hE := fw_om_none hq hE
            refine lv_iload_n hx hb d_Mo_line_59 rfl (lv_at hl 1 rfl) ?_
            cases hE
          · replace hE := fw_om_some hq hE
            refine lv_iload_n hx hb d_Mo_line_59 rfl (lv_at hl 1 rfl) ?_
            obtain ⟨hi6, hE⟩ := fw_ifn hE
            refine fw_iald C R (by decide) hk_b5 hi6 d_Mo_line_60 ?_
            cases hE
            exact fw_iret C fw_X.rf rfl R d_Mo_line_61
        · replace hE := fw_if_t hc hE
          refine lv_aload_n hx hb d_Mo_line_46 rfl (lv_at hl 0 rfl) ?_
          refine fw_getr C R ft_field_7_17 hk_a0 rfl rfl d_Mo_line_47 (fun hq => ?_) (fun b7 hq hk_b7 => ?_)
          · replace hE := fw_om_none hq hE
            refine lv_iload_n hx hb d_Mo_line_50 rfl (lv_at hl 1 rfl) ?_
            cases hE
          · replace hE := fw_om_some hq hE
            refine lv_iload_n hx hb d_Mo_line_50 rfl (lv_at hl 1 rfl) ?_
            obtain ⟨hi8, hE⟩ := fw_ifn hE
            refine fw_iald C R (by decide) hk_b7 hi8 d_Mo_line_51 ?_
            refine lv_goto (tgt := 61) hx hb d_Mo_line_52 (by decide) ?_
            cases hE
            exact fw_iret C fw_X.rf rfl R d_Mo_line_61
      · replace hE := fw_if_t hc hE
        refine lv_aload_n hx hb d_Mo_line_24 rfl (lv_at hl 0 rfl) ?_
        refine fw_getr C R ft_field_7_7 hk_a0 rfl rfl d_Mo_line_25 (fun hq => ?_) (fun b9 hq hk_b9 => ?_)
        · replace hE := fw_om_none hq hE
          refine lv_iload_n hx hb d_Mo_line_28 rfl (lv_at hl 1 rfl) ?_
          cases hE
        · replace hE := fw_om_some hq hE
          refine lv_iload_n hx hb d_Mo_line_28 rfl (lv_at hl 1 rfl) ?_
          obtain ⟨hi10, hE⟩ := fw_ifn hE
          refine fw_zald C R (by decide) hk_b9 hi10 d_Mo_line_29 ?_
          refine lv_if_eq (tgt := 37) hx hb d_Mo_line_30 (by decide) (fun hc => ?_) (fun hc => ?_)
          · replace hE := fw_if_t hc hE
            refine lv_iconst (v := 0) hx hb d_Mo_line_37 (by decide) ?_
            refine lv_goto (tgt := 61) hx hb d_Mo_line_38 (by decide) ?_
            cases hE
            exact fw_iret C fw_X.rf rfl R d_Mo_line_61
          · replace hE := fw_if_f hc hE
            refine lv_iconst (v := 1) hx hb d_Mo_line_33 (by decide) ?_
            refine lv_goto (tgt := 61) hx hb d_Mo_line_34 (by decide) ?_
            cases hE
            exact fw_iret C fw_X.rf rfl R d_Mo_line_61
    · replace hE := fw_if_t hc hE
      refine lv_iconst (v := -1) hx hb d_Mo_line_18 (by decide) ?_
      cases hE
      exact fw_iret C fw_X.rf rfl R d_Mo_line_19
