set_option maxHeartbeats 4000000 in
set_option maxRecDepth 100000 in
theorem ct_Mo_end (l : Launch) (G : fw_G) (kd0 : Nat → Option Nat) (S0 : fw_S) (a0 : Nat) (p1 : Int32) (S' : fw_S) (hk_a0 : kd0 a0 = some 7) (hE : F_Mo_end a0 p1 S0 = some S') : fw_M l G y_Mo_end prog_9_method_23_code 2 none 0 0 0 0 kd0 S0 ([.ref a0, .int p1] : List Value) none S' (fun k => k = kd0) := by
  refine fw_start (by decide) (Nat.le_of_ble_eq_true rfl) ?_
  intro p e s m below meth c ls C hnm R hl
  clear hnm
  have hx := C.1
  have hb := C.2.1
  have hl : lv_has ls 2 [(0, .ref a0), (1, .int p1)] := hl
  unfold F_Mo_end at hE
  refine lv_aload_n hx hb d_Mo_end_0 rfl (lv_at hl 0 rfl) ?_
  refine fw_getr C R ft_field_7_23 hk_a0 rfl rfl d_Mo_end_1 (fun hq => ?_) (fun b1 hq hk_b1 => ?_)
  · replace hE := fw_om_none hq hE
    refine lv_iload_n hx hb d_Mo_end_4 rfl (lv_at hl 1 rfl) ?_
    refine lv_iconst (v := 0) hx hb d_Mo_end_5 (by decide) ?_
    cases hE
  · replace hE := fw_om_some hq hE
    refine lv_iload_n hx hb d_Mo_end_4 rfl (lv_at hl 1 rfl) ?_
    refine lv_iconst (v := 0) hx hb d_Mo_end_5 (by decide) ?_
    obtain ⟨hi2, hE⟩ := fw_ifn hE
    refine fw_iast C R (by decide) hk_b1 hi2 d_Mo_end_6 (fun H locs R => ?_)
    obtain ⟨S3, eS3, hE⟩ := fw_let_ex hE
    rw [← eS3] at R
    clear eS3
    refine lv_iload_n hx hb d_Mo_end_7 rfl (lv_at hl 1 rfl) ?_
    refine lv_iconst (v := 4) hx hb d_Mo_end_8 (by decide) ?_
    refine lv_icmp_ge (tgt := 26) hx hb d_Mo_end_9 (by decide) (fun hc => ?_) (fun hc => ?_)
    · replace hE := fw_if_t hc hE
      cases hE
      exact fw_vret C fw_X.rf rfl R d_Mo_end_26
    · replace hE := fw_if_f hc hE
      refine lv_aload_n hx hb d_Mo_end_12 rfl (lv_at hl 0 rfl) ?_
      refine fw_getr C R ft_field_7_7 hk_a0 rfl rfl d_Mo_end_13 (fun hq => ?_) (fun b4 hq hk_b4 => ?_)
      · replace hE := fw_om_none hq hE
        refine lv_iload_n hx hb d_Mo_end_16 rfl (lv_at hl 1 rfl) ?_
        refine lv_iconst (v := 0) hx hb d_Mo_end_17 (by decide) ?_
        cases hE
      · replace hE := fw_om_some hq hE
        refine lv_iload_n hx hb d_Mo_end_16 rfl (lv_at hl 1 rfl) ?_
        refine lv_iconst (v := 0) hx hb d_Mo_end_17 (by decide) ?_
        obtain ⟨hi5, hE⟩ := fw_ifn hE
        refine fw_zast C R (by decide) hk_b4 (by decide) hi5 d_Mo_end_18 (fun H locs R => ?_)
        obtain ⟨S6, eS6, hE⟩ := fw_let_ex hE
        rw [← eS6] at R
        clear eS6
        refine lv_aload_n hx hb d_Mo_end_19 rfl (lv_at hl 0 rfl) ?_
        refine fw_getr C R ft_field_7_17 hk_a0 rfl rfl d_Mo_end_20 (fun hq => ?_) (fun b7 hq hk_b7 => ?_)
        · replace hE := fw_om_none hq hE
          refine lv_iload_n hx hb d_Mo_end_23 rfl (lv_at hl 1 rfl) ?_
          refine lv_iconst (v := 0) hx hb d_Mo_end_24 (by decide) ?_
          cases hE
        · replace hE := fw_om_some hq hE
          refine lv_iload_n hx hb d_Mo_end_23 rfl (lv_at hl 1 rfl) ?_
          refine lv_iconst (v := 0) hx hb d_Mo_end_24 (by decide) ?_
          obtain ⟨hi8, hE⟩ := fw_ifn hE
          refine fw_iast C R (by decide) hk_b7 hi8 d_Mo_end_25 (fun H locs R => ?_)
          obtain ⟨S9, eS9, hE⟩ := fw_let_ex hE
          rw [← eS9] at R
          clear eS9
          cases hE
          exact fw_vret C fw_X.rf rfl R d_Mo_end_26
set_option maxHeartbeats 4000000 in
set_option maxRecDepth 100000 in
theorem ct_Mo_isLength (l : Launch) (G : fw_G) (kd0 : Nat → Option Nat) (S0 : fw_S) (p0 : Int32) (p1 : Int32) (r0 : Int32) (hE : F_Mo_isLength p0 p1 S0 = some r0) : fw_M l G y_Mo_isLength prog_9_method_24_code 2 (some .boolean) 1 22 0 0 kd0 S0 ([.int p0, .int p1] : List Value) (some (.int r0)) S0 (fun k => k = kd0) := by
  refine fw_start (by decide) (Nat.le_of_ble_eq_true rfl) ?_
  intro p e s m below meth c ls C hnm R hl
  clear hnm
  have hx := C.1
  have hb := C.2.1
  have hl : lv_has ls 2 [(0, .int p0), (1, .int p1)] := hl
  unfold F_Mo_isLength at hE
  refine lv_iload_n hx hb d_Mo_isLength_0 rfl (lv_at hl 0 rfl) ?_
  refine lv_iconst (v := 1) hx hb d_Mo_isLength_1 (by decide) ?_
  refine lv_icmp_ne (tgt := 15) hx hb d_Mo_isLength_2 (by decide) (fun hc => ?_) (fun hc => ?_)
  · replace hE := fw_if_f hc hE
    refine lv_iload_n hx hb d_Mo_isLength_15 rfl (lv_at hl 0 rfl) ?_
    refine lv_iconst (v := 2) hx hb d_Mo_isLength_16 (by decide) ?_
    refine lv_icmp_ne (tgt := 44) hx hb d_Mo_isLength_17 (by decide) (fun hc => ?_) (fun hc => ?_)
    · replace hE := fw_if_f hc hE
      refine lv_iload_n hx hb d_Mo_isLength_44 rfl (lv_at hl 0 rfl) ?_
      refine lv_iconst (v := 3) hx hb d_Mo_isLength_45 (by decide) ?_
      refine lv_icmp_ne (tgt := 62) hx hb d_Mo_isLength_46 (by decide) (fun hc => ?_) (fun hc => ?_)
      · replace hE := fw_if_f hc hE
        refine lv_iload_n hx hb d_Mo_isLength_62 rfl (lv_at hl 1 rfl) ?_
        refine lv_iconst (v := 1) hx hb d_Mo_isLength_63 (by decide) ?_
        refine lv_icmp_ne (tgt := 71) hx hb d_Mo_isLength_64 (by decide) (fun hc => ?_) (fun hc => ?_)
        · replace hE := fw_if_f hc hE
          refine lv_iconst (v := 0) hx hb d_Mo_isLength_71 (by decide) ?_
          cases hE
          exact fw_zret C (by decide) fw_X.rf rfl R d_Mo_isLength_72
        · replace hE := fw_if_t hc hE
          refine lv_iconst (v := 1) hx hb d_Mo_isLength_67 (by decide) ?_
          refine lv_goto (tgt := 72) hx hb d_Mo_isLength_68 (by decide) ?_
          cases hE
          exact fw_zret C (by decide) fw_X.rf rfl R d_Mo_isLength_72
      · replace hE := fw_if_t hc hE
        refine lv_iload_n hx hb d_Mo_isLength_49 rfl (lv_at hl 1 rfl) ?_
        refine lv_iconst (v := 2) hx hb d_Mo_isLength_50 (by decide) ?_
        refine lv_icmp_ne (tgt := 58) hx hb d_Mo_isLength_51 (by decide) (fun hc => ?_) (fun hc => ?_)
        · replace hE := fw_if_f hc hE
          refine lv_iconst (v := 0) hx hb d_Mo_isLength_58 (by decide) ?_
          refine lv_goto (tgt := 72) hx hb d_Mo_isLength_59 (by decide) ?_
          cases hE
          exact fw_zret C (by decide) fw_X.rf rfl R d_Mo_isLength_72
        · replace hE := fw_if_t hc hE
          refine lv_iconst (v := 1) hx hb d_Mo_isLength_54 (by decide) ?_
          refine lv_goto (tgt := 72) hx hb d_Mo_isLength_55 (by decide) ?_
          cases hE
          exact fw_zret C (by decide) fw_X.rf rfl R d_Mo_isLength_72
    · replace hE := fw_if_t hc hE
      refine lv_iload_n hx hb d_Mo_isLength_20 rfl (lv_at hl 1 rfl) ?_
      refine lv_iconst (v := 2) hx hb d_Mo_isLength_21 (by decide) ?_
      refine lv_bipush (v := 18) hx hb d_Mo_isLength_22 (by decide) ?_
      obtain ⟨x1, hF, hE⟩ := fw_bind hE
      refine fw_callS (As := [.int p1, .int (2 : Int32), .int (18 : Int32)]) (rest := []) C R ft_callS_7_163 yt_Mo_isIn (ct_Mo_isIn l G kd0 S0 _ _ _ _  hF) rfl hl.1 rfl (lv_room (Nat.le_of_ble_eq_true rfl)) ⟨Nat.le_of_ble_eq_true rfl, Nat.le_of_ble_eq_true rfl⟩ ⟨Nat.le_of_ble_eq_true rfl, Nat.le_of_ble_eq_true rfl⟩ d_Mo_isLength_24 (fun H locs kd2 hxkd2 hP R => ?_)
      rw [hP] at R; clear hP hxkd2
      refine lv_if_eq (tgt := 40) hx hb d_Mo_isLength_27 (by decide) (fun hc => ?_) (fun hc => ?_)
      · replace hE := fw_if_t hc hE
        refine lv_iconst (v := 0) hx hb d_Mo_isLength_40 (by decide) ?_
        refine lv_goto (tgt := 72) hx hb d_Mo_isLength_41 (by decide) ?_
        cases hE
        exact fw_zret C (by decide) fw_X.rf rfl R d_Mo_isLength_72
      · replace hE := fw_if_f hc hE
        refine lv_iload_n hx hb d_Mo_isLength_30 rfl (lv_at hl 1 rfl) ?_
        refine lv_iconst (v := 2) hx hb d_Mo_isLength_31 (by decide) ?_
        refine lv_irem hx hb d_Mo_isLength_32 (by decide) ?_
        refine lv_if_ne (tgt := 40) hx hb d_Mo_isLength_33 (by decide) (fun hc => ?_) (fun hc => ?_)
        · replace hE := fw_if_f hc hE
          refine lv_iconst (v := 0) hx hb d_Mo_isLength_40 (by decide) ?_
          refine lv_goto (tgt := 72) hx hb d_Mo_isLength_41 (by decide) ?_
          cases hE
          exact fw_zret C (by decide) fw_X.rf rfl R d_Mo_isLength_72
        · replace hE := fw_if_t hc hE
          refine lv_iconst (v := 1) hx hb d_Mo_isLength_36 (by decide) ?_
          refine lv_goto (tgt := 72) hx hb d_Mo_isLength_37 (by decide) ?_
          cases hE
          exact fw_zret C (by decide) fw_X.rf rfl R d_Mo_isLength_72
  · replace hE := fw_if_t hc hE
    refine lv_iload_n hx hb d_Mo_isLength_5 rfl (lv_at hl 1 rfl) ?_
    refine lv_iconst (v := 2) hx hb d_Mo_isLength_6 (by decide) ?_
    refine lv_bipush (v := 9) hx hb d_Mo_isLength_7 (by decide) ?_
    obtain ⟨x3, hF, hE⟩ := fw_bind hE
    refine fw_callS (As := [.int p1, .int (2 : Int32), .int (9 : Int32)]) (rest := []) C R ft_callS_7_163 yt_Mo_isIn (ct_Mo_isIn l G kd0 S0 _ _ _ _  hF) rfl hl.1 rfl (lv_room (Nat.le_of_ble_eq_true rfl)) ⟨Nat.le_of_ble_eq_true rfl, Nat.le_of_ble_eq_true rfl⟩ ⟨Nat.le_of_ble_eq_true rfl, Nat.le_of_ble_eq_true rfl⟩ d_Mo_isLength_9 (fun H locs kd4 hxkd4 hP R => ?_)
    rw [hP] at R; clear hP hxkd4
    refine lv_goto (tgt := 72) hx hb d_Mo_isLength_12 (by decide) ?_
    obtain ⟨hz5, hE⟩ := fw_ifp hE
    cases hE
    exact fw_zret C hz5 fw_X.rf rfl R d_Mo_isLength_72
set_option maxHeartbeats 4000000 in
set_option maxRecDepth 100000 in
theorem ct_Mo_fits (l : Launch) (G : fw_G) (kd0 : Nat → Option Nat) (S0 : fw_S) (a0 : Nat) (p1 : Int32) (p2 : Int32) (p3 : Int32) (r0 : Int32) (hk_a0 : kd0 a0 = some 7) (hE : F_Mo_fits a0 p1 p2 p3 S0 = some r0) : fw_M l G y_Mo_fits prog_9_method_25_code 6 (some .boolean) 2 43 0 0 kd0 S0 ([.ref a0, .int p1, .int p2, .int p3] : List Value) (some (.int r0)) S0 (fun k => k = kd0) := by
  refine fw_start (by decide) (Nat.le_of_ble_eq_true rfl) ?_
  intro p e s m below meth c ls C hnm R hl
  clear hnm
  have hx := C.1
  have hb := C.2.1
  have hl : lv_has ls 6 [(0, .ref a0), (1, .int p1), (2, .int p2), (3, .int p3)] := hl
  have h_j127 : ∀ v3 : Int32, ∀ v4 : Int32, ∀ (H : Heap) (locs : List Loc) (ls : Array Slot), fw_R G kd0 S0 H locs → lv_has ls 6 [(3, .int v3), (4, .int v4)] → F_Mo_fits_j127 S0 v3 v4 = some r0 → W p l e { frames := 2, cells := 0, slots := 0, locals := 43 } s m ([.ref a0, .int p1, .int p2, .int p3] : List Value).toArray below meth c H locs 0 0 (MQ below (fw_Q G kd0 (some (.int r0)) S0 (fun k => k = kd0)) ([.ref a0, .int p1, .int p2, .int p3] : List Value).toArray s 0 0 (fw_A G)) (F0 m 127 ls []) := by
    intro v3 v4 H locs ls R hl hE
    unfold F_Mo_fits_j127 at hE
    refine lv_iload hx hb d_Mo_fits_127 (lv_at hl 1 rfl) ?_
    refine lv_iload_n hx hb d_Mo_fits_129 rfl (lv_at hl 0 rfl) ?_
    refine lv_icmp_ne (tgt := 137) hx hb d_Mo_fits_130 (by decide) (fun hc => ?_) (fun hc => ?_)
    · replace hE := fw_if_f hc hE
      refine lv_iconst (v := 0) hx hb d_Mo_fits_137 (by decide) ?_
      cases hE
      exact fw_zret C (by decide) fw_X.rf rfl R d_Mo_fits_138
    · replace hE := fw_if_t hc hE
      refine lv_iconst (v := 1) hx hb d_Mo_fits_133 (by decide) ?_
      refine lv_goto (tgt := 138) hx hb d_Mo_fits_134 (by decide) ?_
      cases hE
      exact fw_zret C (by decide) fw_X.rf rfl R d_Mo_fits_138
  have h_l101 : ∀ (n : Nat), ∀ v0 : Nat, ∀ v1 : Int32, ∀ v2 : Int32, ∀ v3 : Int32, ∀ v4 : Int32, ∀ v5 : Int32, kd0 v0 = some 7 → ∀ (H : Heap) (locs : List Loc) (ls : Array Slot), fw_R G kd0 S0 H locs → lv_has ls 6 [(0, .ref v0), (1, .int v1), (2, .int v2), (3, .int v3), (4, .int v4), (5, .int v5)] → F_Mo_fits_l101 S0 n v0 v1 v2 v3 v4 v5 = some r0 → W p l e { frames := 2, cells := 0, slots := 0, locals := 43 } s m ([.ref a0, .int p1, .int p2, .int p3] : List Value).toArray below meth c H locs 0 0 (MQ below (fw_Q G kd0 (some (.int r0)) S0 (fun k => k = kd0)) ([.ref a0, .int p1, .int p2, .int p3] : List Value).toArray s 0 0 (fw_A G)) (F0 m 101 ls []) := by
    intro n
    induction n with
    | zero =>
      intro v0 v1 v2 v3 v4 v5 hk_v0 H locs ls R hl hE
      rw [F_Mo_fits_l101] at hE
      cases hE
    | succ n ih =>
      intro v0 v1 v2 v3 v4 v5 hk_v0 H locs ls R hl hE
      rw [F_Mo_fits_l101] at hE
      refine lv_iload hx hb d_Mo_fits_101 (lv_at hl 5 rfl) ?_
      refine lv_iload_n hx hb d_Mo_fits_103 rfl (lv_at hl 2 rfl) ?_
      refine lv_icmp_ge (tgt := 127) hx hb d_Mo_fits_104 (by decide) (fun hc => ?_) (fun hc => ?_)
      · replace hE := fw_if_t hc hE
        exact h_j127 _ _ _ _ _ R (lv_sub hl [3, 4] rfl) hE
      · replace hE := fw_if_f hc hE
        refine lv_iload hx hb d_Mo_fits_107 (lv_at hl 4 rfl) ?_
        refine lv_aload_n hx hb d_Mo_fits_109 rfl (lv_at hl 0 rfl) ?_
        refine fw_getr C R ft_field_7_20 hk_v0 rfl rfl d_Mo_fits_110 (fun hq => ?_) (fun b3 hq hk_b3 => ?_)
        · replace hE := fw_om_none hq hE
          refine lv_iload_n hx hb d_Mo_fits_113 rfl (lv_at hl 1 rfl) ?_
          refine lv_iload hx hb d_Mo_fits_114 (lv_at hl 5 rfl) ?_
          refine lv_iadd hx hb d_Mo_fits_116 ?_
          cases hE
        · replace hE := fw_om_some hq hE
          refine lv_iload_n hx hb d_Mo_fits_113 rfl (lv_at hl 1 rfl) ?_
          refine lv_iload hx hb d_Mo_fits_114 (lv_at hl 5 rfl) ?_
          refine lv_iadd hx hb d_Mo_fits_116 ?_
          obtain ⟨hi4, hE⟩ := fw_ifn hE
          refine fw_iald C R (by decide) hk_b3 hi4 d_Mo_fits_117 ?_
          refine lv_ixor hx hb d_Mo_fits_118 ?_
          refine lv_topi (fun x5 ex5 => ?_)
          replace hE := fw_let_use ex5 hE
          clear ex5
          refine lv_istore (lv' := [(4, .int x5), (0, .ref v0), (1, .int v1), (2, .int v2), (3, .int v3), (5, .int v5)]) hx hb d_Mo_fits_119 hl (by decide) rfl (fun ls hl => ?_)
          refine lv_iinc (v := (v5 + (1 : Int32))) (lv' := [(5, .int (v5 + (1 : Int32))), (4, .int x5), (0, .ref v0), (1, .int v1), (2, .int v2), (3, .int v3)]) hx hb d_Mo_fits_121 hl (k := 5) rfl rfl (by decide) rfl (fun ls hl => ?_)
          refine lv_goto (tgt := 101) hx hb d_Mo_fits_124 (by decide) ?_
          exact ih _ _ _ _ _ _ hk_v0 _ _ _ R (lv_sub hl [2, 3, 4, 5, 1, 0] rfl) hE
  have h_j74 : ∀ v0 : Nat, ∀ v1 : Int32, ∀ v2 : Int32, ∀ v3 : Int32, kd0 v0 = some 7 → ∀ (H : Heap) (locs : List Loc) (ls : Array Slot), fw_R G kd0 S0 H locs → lv_has ls 6 [(0, .ref v0), (1, .int v1), (2, .int v2), (3, .int v3)] → F_Mo_fits_j74 S0 v0 v1 v2 v3 = some r0 → W p l e { frames := 2, cells := 0, slots := 0, locals := 43 } s m ([.ref a0, .int p1, .int p2, .int p3] : List Value).toArray below meth c H locs 0 0 (MQ below (fw_Q G kd0 (some (.int r0)) S0 (fun k => k = kd0)) ([.ref a0, .int p1, .int p2, .int p3] : List Value).toArray s 0 0 (fw_A G)) (F0 m 74 ls []) := by
    intro v0 v1 v2 v3 hk_v0 H locs ls R hl hE
    unfold F_Mo_fits_j74 at hE
    refine lv_iload_n hx hb d_Mo_fits_74 rfl (lv_at hl 2 rfl) ?_
    refine lv_iconst (v := 4) hx hb d_Mo_fits_75 (by decide) ?_
    refine lv_icmp_lt (tgt := 93) hx hb d_Mo_fits_76 (by decide) (fun hc => ?_) (fun hc => ?_)
    · replace hE := fw_if_t hc hE
      refine lv_iconst (v := 1) hx hb d_Mo_fits_93 (by decide) ?_
      cases hE
      exact fw_zret C (by decide) fw_X.rf rfl R d_Mo_fits_94
    · replace hE := fw_if_f hc hE
      refine lv_iload_n hx hb d_Mo_fits_79 rfl (lv_at hl 2 rfl) ?_
      refine lv_aload_n hx hb d_Mo_fits_80 rfl (lv_at hl 0 rfl) ?_
      refine fw_getr C R ft_field_7_20 hk_v0 rfl rfl d_Mo_fits_81 (fun hq => ?_) (fun b1 hq hk_b1 => ?_)
      · replace hE := fw_om_none hq hE
        refine lv_iload_n hx hb d_Mo_fits_84 rfl (lv_at hl 1 rfl) ?_
        refine lv_iconst (v := 3) hx hb d_Mo_fits_85 (by decide) ?_
        refine lv_iadd hx hb d_Mo_fits_86 ?_
        cases hE
      · replace hE := fw_om_some hq hE
        refine lv_iload_n hx hb d_Mo_fits_84 rfl (lv_at hl 1 rfl) ?_
        refine lv_iconst (v := 3) hx hb d_Mo_fits_85 (by decide) ?_
        refine lv_iadd hx hb d_Mo_fits_86 ?_
        obtain ⟨hi2, hE⟩ := fw_ifn hE
        refine fw_iald C R (by decide) hk_b1 hi2 d_Mo_fits_87 ?_
        refine lv_iconst (v := 4) hx hb d_Mo_fits_88 (by decide) ?_
        refine lv_iadd hx hb d_Mo_fits_89 ?_
        refine lv_icmp_ge (tgt := 95) hx hb d_Mo_fits_90 (by decide) (fun hc => ?_) (fun hc => ?_)
        · replace hE := fw_if_t hc hE
          refine lv_iconst (v := 0) hx hb d_Mo_fits_95 (by decide) ?_
          refine lv_istore (lv' := [(4, .int (0 : Int32)), (0, .ref v0), (1, .int v1), (2, .int v2), (3, .int v3)]) hx hb d_Mo_fits_96 hl (by decide) rfl (fun ls hl => ?_)
          refine lv_iconst (v := 1) hx hb d_Mo_fits_98 (by decide) ?_
          refine lv_istore (lv' := [(5, .int (1 : Int32)), (4, .int (0 : Int32)), (0, .ref v0), (1, .int v1), (2, .int v2), (3, .int v3)]) hx hb d_Mo_fits_99 hl (by decide) rfl (fun ls hl => ?_)
          exact h_l101 _ _ _ _ _ _ _ hk_v0 _ _ _ R (lv_sub hl [2, 3, 4, 5, 1, 0] rfl) hE
        · replace hE := fw_if_f hc hE
          refine lv_iconst (v := 1) hx hb d_Mo_fits_93 (by decide) ?_
          cases hE
          exact fw_zret C (by decide) fw_X.rf rfl R d_Mo_fits_94
  unfold F_Mo_fits at hE
  refine lv_iload_n hx hb d_Mo_fits_0 rfl (lv_at hl 2 rfl) ?_
  refine lv_if_ne (tgt := 16) hx hb d_Mo_fits_1 (by decide) (fun hc => ?_) (fun hc => ?_)
  · replace hE := fw_if_f hc hE
    refine lv_iload_n hx hb d_Mo_fits_16 rfl (lv_at hl 2 rfl) ?_
    refine lv_iconst (v := 1) hx hb d_Mo_fits_17 (by decide) ?_
    refine lv_icmp_ne (tgt := 28) hx hb d_Mo_fits_18 (by decide) (fun hc => ?_) (fun hc => ?_)
    · replace hE := fw_if_f hc hE
      refine lv_iload_n hx hb d_Mo_fits_28 rfl (lv_at hl 2 rfl) ?_
      refine lv_iconst (v := 3) hx hb d_Mo_fits_29 (by decide) ?_
      refine lv_icmp_ne (tgt := 46) hx hb d_Mo_fits_30 (by decide) (fun hc => ?_) (fun hc => ?_)
      · replace hE := fw_if_f hc hE
        refine lv_iload_n hx hb d_Mo_fits_46 rfl (lv_at hl 2 rfl) ?_
        refine lv_iconst (v := 5) hx hb d_Mo_fits_47 (by decide) ?_
        refine lv_icmp_ne (tgt := 74) hx hb d_Mo_fits_48 (by decide) (fun hc => ?_) (fun hc => ?_)
        · replace hE := fw_if_f hc hE
          exact h_j74 _ _ _ _ hk_a0 _ _ _ R (lv_sub hl [0, 1, 2, 3] rfl) hE
        · replace hE := fw_if_t hc hE
          refine lv_aload_n hx hb d_Mo_fits_51 rfl (lv_at hl 0 rfl) ?_
          refine fw_getr C R ft_field_7_20 hk_a0 rfl rfl d_Mo_fits_52 (fun hq => ?_) (fun b6 hq hk_b6 => ?_)
          · replace hE := fw_om_none hq hE
            refine lv_iload_n hx hb d_Mo_fits_55 rfl (lv_at hl 1 rfl) ?_
            refine lv_iconst (v := 1) hx hb d_Mo_fits_56 (by decide) ?_
            refine lv_iadd hx hb d_Mo_fits_57 ?_
            cases hE
          · replace hE := fw_om_some hq hE
            refine lv_iload_n hx hb d_Mo_fits_55 rfl (lv_at hl 1 rfl) ?_
            refine lv_iconst (v := 1) hx hb d_Mo_fits_56 (by decide) ?_
            refine lv_iadd hx hb d_Mo_fits_57 ?_
            obtain ⟨hi7, hE⟩ := fw_ifn hE
            refine fw_iald C R (by decide) hk_b6 hi7 d_Mo_fits_58 ?_
            refine lv_iconst (v := 2) hx hb d_Mo_fits_59 (by decide) ?_
            refine lv_icmp_ne (tgt := 74) hx hb d_Mo_fits_60 (by decide) (fun hc => ?_) (fun hc => ?_)
            · replace hE := fw_if_f hc hE
              exact h_j74 _ _ _ _ hk_a0 _ _ _ R (lv_sub hl [0, 1, 2, 3] rfl) hE
            · replace hE := fw_if_t hc hE
              refine lv_iload_n hx hb d_Mo_fits_63 rfl (lv_at hl 3 rfl) ?_
              refine lv_iconst (v := 2) hx hb d_Mo_fits_64 (by decide) ?_
              refine lv_icmp_ge (tgt := 72) hx hb d_Mo_fits_65 (by decide) (fun hc => ?_) (fun hc => ?_)
              · replace hE := fw_if_t hc hE
                refine lv_iconst (v := 0) hx hb d_Mo_fits_72 (by decide) ?_
                cases hE
                exact fw_zret C (by decide) fw_X.rf rfl R d_Mo_fits_73
              · replace hE := fw_if_f hc hE
                refine lv_iconst (v := 1) hx hb d_Mo_fits_68 (by decide) ?_
                refine lv_goto (tgt := 73) hx hb d_Mo_fits_69 (by decide) ?_
                cases hE
                exact fw_zret C (by decide) fw_X.rf rfl R d_Mo_fits_73
      · replace hE := fw_if_t hc hE
        refine lv_aload_n hx hb d_Mo_fits_33 rfl (lv_at hl 0 rfl) ?_
        refine fw_getr C R ft_field_7_20 hk_a0 rfl rfl d_Mo_fits_34 (fun hq => ?_) (fun b8 hq hk_b8 => ?_)
        · replace hE := fw_om_none hq hE
          refine lv_iload_n hx hb d_Mo_fits_37 rfl (lv_at hl 1 rfl) ?_
          refine lv_iconst (v := 1) hx hb d_Mo_fits_38 (by decide) ?_
          refine lv_iadd hx hb d_Mo_fits_39 ?_
          cases hE
        · replace hE := fw_om_some hq hE
          refine lv_iload_n hx hb d_Mo_fits_37 rfl (lv_at hl 1 rfl) ?_
          refine lv_iconst (v := 1) hx hb d_Mo_fits_38 (by decide) ?_
          refine lv_iadd hx hb d_Mo_fits_39 ?_
          obtain ⟨hi9, hE⟩ := fw_ifn hE
          refine fw_iald C R (by decide) hk_b8 hi9 d_Mo_fits_40 ?_
          refine lv_iload_n hx hb d_Mo_fits_41 rfl (lv_at hl 3 rfl) ?_
          obtain ⟨x10, hF, hE⟩ := fw_bind hE
          refine fw_callS (As := [.int (fw_g S0 b8 (p1 + (1 : Int32)).toNatClampNeg), .int p3]) (rest := []) C R ft_callS_7_210 yt_Mo_isLength (ct_Mo_isLength l G kd0 S0 _ _ _  hF) rfl hl.1 rfl (lv_room (Nat.le_of_ble_eq_true rfl)) ⟨Nat.le_of_ble_eq_true rfl, Nat.le_of_ble_eq_true rfl⟩ ⟨Nat.le_of_ble_eq_true rfl, Nat.le_of_ble_eq_true rfl⟩ d_Mo_fits_42 (fun H locs kd11 hxkd11 hP R => ?_)
          rw [hP] at R; clear hP hxkd11
          obtain ⟨hz12, hE⟩ := fw_ifp hE
          cases hE
          exact fw_zret C hz12 fw_X.rf rfl R d_Mo_fits_45
    · replace hE := fw_if_t hc hE
      refine lv_iload_n hx hb d_Mo_fits_21 rfl (lv_at hl 3 rfl) ?_
      refine lv_iconst (v := 1) hx hb d_Mo_fits_22 (by decide) ?_
      refine lv_iconst (v := 4) hx hb d_Mo_fits_23 (by decide) ?_
      obtain ⟨x13, hF, hE⟩ := fw_bind hE
      refine fw_callS (As := [.int p3, .int (1 : Int32), .int (4 : Int32)]) (rest := []) C R ft_callS_7_163 yt_Mo_isIn (ct_Mo_isIn l G kd0 S0 _ _ _ _  hF) rfl hl.1 rfl (lv_room (Nat.le_of_ble_eq_true rfl)) ⟨Nat.le_of_ble_eq_true rfl, Nat.le_of_ble_eq_true rfl⟩ ⟨Nat.le_of_ble_eq_true rfl, Nat.le_of_ble_eq_true rfl⟩ d_Mo_fits_24 (fun H locs kd14 hxkd14 hP R => ?_)
      rw [hP] at R; clear hP hxkd14
      obtain ⟨hz15, hE⟩ := fw_ifp hE
      cases hE
      exact fw_zret C hz15 fw_X.rf rfl R d_Mo_fits_27
  · replace hE := fw_if_t hc hE
    refine lv_iload_n hx hb d_Mo_fits_4 rfl (lv_at hl 3 rfl) ?_
    refine lv_bipush (v := 126) hx hb d_Mo_fits_5 (by decide) ?_
    refine lv_icmp_ne (tgt := 14) hx hb d_Mo_fits_7 (by decide) (fun hc => ?_) (fun hc => ?_)
    · replace hE := fw_if_f hc hE
      refine lv_iconst (v := 0) hx hb d_Mo_fits_14 (by decide) ?_
      cases hE
      exact fw_zret C (by decide) fw_X.rf rfl R d_Mo_fits_15
    · replace hE := fw_if_t hc hE
      refine lv_iconst (v := 1) hx hb d_Mo_fits_10 (by decide) ?_
      refine lv_goto (tgt := 15) hx hb d_Mo_fits_11 (by decide) ?_
      cases hE
      exact fw_zret C (by decide) fw_X.rf rfl R d_Mo_fits_15
set_option maxHeartbeats 4000000 in
set_option maxRecDepth 100000 in
theorem ct_Mo_come (l : Launch) (G : fw_G) (kd0 : Nat → Option Nat) (S0 : fw_S) (a0 : Nat) (p1 : Int32) (p2 : Int32) (r0 : Int32) (S' : fw_S) (hk_a0 : kd0 a0 = some 7) (hE : F_Mo_come a0 p1 p2 S0 = some (r0, S')) : fw_M l G y_Mo_come prog_9_method_26_code 8 (some .int) 5 119 0 0 kd0 S0 ([.ref a0, .int p1, .int p2] : List Value) (some (.int r0)) S' (fun k => k = kd0) := by
  refine fw_start (by decide) (Nat.le_of_ble_eq_true rfl) ?_
  intro p e s m below meth c ls C hnm R hl
  clear hnm
  have hx := C.1
  have hb := C.2.1
  have hl : lv_has ls 8 [(0, .ref a0), (1, .int p1), (2, .int p2)] := hl
  have h_j137 : ∀ v0 : Nat, ∀ v5 : Int32, ∀ s0 : Int32, ∀ S0 : fw_S, kd0 v0 = some 7 → ∀ (H : Heap) (locs : List Loc) (ls : Array Slot), fw_R G kd0 S0 H locs → lv_has ls 8 [(0, .ref v0), (5, .int v5)] → F_Mo_come_j137 v0 v5 s0 S0 = some (r0, S') → W p l e { frames := 5, cells := 0, slots := 0, locals := 119 } s m ([.ref a0, .int p1, .int p2] : List Value).toArray below meth c H locs 0 0 (MQ below (fw_Q G kd0 (some (.int r0)) S' (fun k => k = kd0)) ([.ref a0, .int p1, .int p2] : List Value).toArray s 0 0 (fw_A G)) (F0 m 137 ls [.int s0]) := by
    intro v0 v5 s0 S0 hk_v0 H locs ls R hl hE
    unfold F_Mo_come_j137 at hE
    refine lv_istore (lv' := [(7, .int s0), (0, .ref v0), (5, .int v5)]) hx hb d_Mo_come_137 hl (by decide) rfl (fun ls hl => ?_)
    refine lv_aload_n hx hb d_Mo_come_139 rfl (lv_at hl 1 rfl) ?_
    refine lv_iload hx hb d_Mo_come_140 (lv_at hl 0 rfl) ?_
    refine lv_if_eq (tgt := 154) hx hb d_Mo_come_142 (by decide) (fun hc => ?_) (fun hc => ?_)
    · replace hE := fw_if_t hc hE
      refine lv_aload_n hx hb d_Mo_come_154 rfl (lv_at hl 1 rfl) ?_
      refine fw_get (v := .int (fw_g S0 v0 9)) C R ft_field_7_227 hk_v0 rfl d_Mo_come_155 ?_
      refine fw_puti C R ft_field_7_227 rfl hk_v0 d_Mo_come_158 (fun H locs R => ?_)
      obtain ⟨S28, eS28, hE⟩ := fw_let_ex hE
      rw [← eS28] at R
      clear eS28
      refine lv_iload hx hb d_Mo_come_161 (lv_at hl 0 rfl) ?_
      refine lv_if_eq (tgt := 174) hx hb d_Mo_come_163 (by decide) (fun hc => ?_) (fun hc => ?_)
      · replace hE := fw_if_t hc hE
        refine lv_iload hx hb d_Mo_come_174 (lv_at hl 2 rfl) ?_
        cases hE
        exact fw_iret C fw_X.rf rfl R d_Mo_come_176
      · replace hE := fw_if_f hc hE
        refine lv_iload hx hb d_Mo_come_166 (lv_at hl 2 rfl) ?_
        refine lv_bipush (v := 10) hx hb d_Mo_come_168 (by decide) ?_
        refine lv_iadd hx hb d_Mo_come_170 ?_
        refine lv_goto (tgt := 176) hx hb d_Mo_come_171 (by decide) ?_
        cases hE
        exact fw_iret C fw_X.rf rfl R d_Mo_come_176
    · replace hE := fw_if_f hc hE
      refine lv_aload_n hx hb d_Mo_come_145 rfl (lv_at hl 1 rfl) ?_
      refine fw_get (v := .int (fw_g S0 v0 9)) C R ft_field_7_227 hk_v0 rfl d_Mo_come_146 ?_
      refine lv_iconst (v := 1) hx hb d_Mo_come_149 (by decide) ?_
      refine lv_iadd hx hb d_Mo_come_150 ?_
      refine lv_goto (tgt := 158) hx hb d_Mo_come_151 (by decide) ?_
      refine fw_puti C R ft_field_7_227 rfl hk_v0 d_Mo_come_158 (fun H locs R => ?_)
      obtain ⟨S29, eS29, hE⟩ := fw_let_ex hE
      rw [← eS29] at R
      clear eS29
      refine lv_iload hx hb d_Mo_come_161 (lv_at hl 0 rfl) ?_
      refine lv_if_eq (tgt := 174) hx hb d_Mo_come_163 (by decide) (fun hc => ?_) (fun hc => ?_)
      · replace hE := fw_if_t hc hE
        refine lv_iload hx hb d_Mo_come_174 (lv_at hl 2 rfl) ?_
        cases hE
        exact fw_iret C fw_X.rf rfl R d_Mo_come_176
      · replace hE := fw_if_f hc hE
        refine lv_iload hx hb d_Mo_come_166 (lv_at hl 2 rfl) ?_
        refine lv_bipush (v := 10) hx hb d_Mo_come_168 (by decide) ?_
        refine lv_iadd hx hb d_Mo_come_170 ?_
        refine lv_goto (tgt := 176) hx hb d_Mo_come_171 (by decide) ?_
        cases hE
        exact fw_iret C fw_X.rf rfl R d_Mo_come_176
  unfold F_Mo_come at hE
  refine lv_bipush (v := 30) hx hb d_Mo_come_0 (by decide) ?_
  refine lv_iload_n hx hb d_Mo_come_2 rfl (lv_at hl 1 rfl) ?_
  refine lv_imul hx hb d_Mo_come_3 ?_
  refine lv_topi (fun x1 ex1 => ?_)
  replace hE := fw_let_use ex1 hE
  clear ex1
  refine lv_istore_n (lv' := [(3, .int x1), (0, .ref a0), (1, .int p1), (2, .int p2)]) hx hb d_Mo_come_4 rfl hl (by decide) rfl (fun ls hl => ?_)
  refine lv_aload_n hx hb d_Mo_come_5 rfl (lv_at hl 1 rfl) ?_
  refine fw_getr C R ft_field_7_23 hk_a0 rfl rfl d_Mo_come_6 (fun hq => ?_) (fun b2 hq hk_b2 => ?_)
  · replace hE := fw_om_none hq hE
    refine lv_iload_n hx hb d_Mo_come_9 rfl (lv_at hl 2 rfl) ?_
    cases hE
  · replace hE := fw_om_some hq hE
    refine lv_iload_n hx hb d_Mo_come_9 rfl (lv_at hl 2 rfl) ?_
    obtain ⟨hi3, hE⟩ := fw_ifn hE
    refine fw_iald C R (by decide) hk_b2 hi3 d_Mo_come_10 ?_
    refine lv_topi (fun x4 ex4 => ?_)
    replace hE := fw_let_use ex4 hE
    clear ex4
    refine lv_istore (lv' := [(4, .int x4), (3, .int x1), (0, .ref a0), (1, .int p1), (2, .int p2)]) hx hb d_Mo_come_11 hl (by decide) rfl (fun ls hl => ?_)
    refine lv_aload_n hx hb d_Mo_come_13 rfl (lv_at hl 2 rfl) ?_
    refine lv_iload_n hx hb d_Mo_come_14 rfl (lv_at hl 1 rfl) ?_
    refine lv_iload hx hb d_Mo_come_15 (lv_at hl 0 rfl) ?_
    refine lv_iload_n hx hb d_Mo_come_17 rfl (lv_at hl 4 rfl) ?_
    obtain ⟨x5, hF, hE⟩ := fw_bind hE
    refine fw_callV (As := [.int x1, .int x4, .int p2]) (rest := []) C R ft_callV_7_214 yi_Mo_fits ys_Mo_fits (ct_Mo_fits l G kd0 S0 _ _ _ _ _ hk_a0 hF) hk_a0 (by decide) rfl rfl hl.1 rfl (lv_room (Nat.le_of_ble_eq_true rfl)) ⟨Nat.le_of_ble_eq_true rfl, Nat.le_of_ble_eq_true rfl⟩ ⟨Nat.le_of_ble_eq_true rfl, Nat.le_of_ble_eq_true rfl⟩ d_Mo_come_18 (fun H locs kd6 hxkd6 hP R => ?_)
    rw [hP] at R; clear hP hxkd6
    refine lv_if_ne (tgt := 32) hx hb d_Mo_come_21 (by decide) (fun hc => ?_) (fun hc => ?_)
    · replace hE := fw_if_f hc hE
      refine lv_aload_n hx hb d_Mo_come_32 rfl (lv_at hl 2 rfl) ?_
      refine fw_getr C R ft_field_7_20 hk_a0 rfl rfl d_Mo_come_33 (fun hq => ?_) (fun b7 hq hk_b7 => ?_)
      · replace hE := fw_om_none hq hE
        refine lv_iload_n hx hb d_Mo_come_36 rfl (lv_at hl 1 rfl) ?_
        refine lv_iload hx hb d_Mo_come_37 (lv_at hl 0 rfl) ?_
        refine lv_iadd hx hb d_Mo_come_39 ?_
        refine lv_iload_n hx hb d_Mo_come_40 rfl (lv_at hl 4 rfl) ?_
        cases hE
      · replace hE := fw_om_some hq hE
        refine lv_iload_n hx hb d_Mo_come_36 rfl (lv_at hl 1 rfl) ?_
        refine lv_iload hx hb d_Mo_come_37 (lv_at hl 0 rfl) ?_
        refine lv_iadd hx hb d_Mo_come_39 ?_
        refine lv_iload_n hx hb d_Mo_come_40 rfl (lv_at hl 4 rfl) ?_
        obtain ⟨hi8, hE⟩ := fw_ifn hE
        refine fw_iast C R (by decide) hk_b7 hi8 d_Mo_come_41 (fun H locs R => ?_)
        obtain ⟨S9, eS9, hE⟩ := fw_let_ex hE
        rw [← eS9] at R
        clear eS9
        refine lv_aload_n hx hb d_Mo_come_42 rfl (lv_at hl 2 rfl) ?_
        refine fw_getr C R ft_field_7_23 hk_a0 rfl rfl d_Mo_come_43 (fun hq => ?_) (fun b10 hq hk_b10 => ?_)
        · replace hE := fw_om_none hq hE
          refine lv_iload_n hx hb d_Mo_come_46 rfl (lv_at hl 3 rfl) ?_
          refine lv_dup2_11 hx hb d_Mo_come_47 rfl rfl ?_
          cases hE
        · replace hE := fw_om_some hq hE
          refine lv_iload_n hx hb d_Mo_come_46 rfl (lv_at hl 3 rfl) ?_
          refine lv_dup2_11 hx hb d_Mo_come_47 rfl rfl ?_
          obtain ⟨hi11, hE⟩ := fw_ifn hE
          refine fw_iald C R (by decide) hk_b10 hi11 d_Mo_come_48 ?_
          refine lv_iconst (v := 1) hx hb d_Mo_come_49 (by decide) ?_
          refine lv_iadd hx hb d_Mo_come_50 ?_
          obtain ⟨hi12, hE⟩ := fw_ifn hE
          refine fw_iast C R (by decide) hk_b10 hi12 d_Mo_come_51 (fun H locs R => ?_)
          obtain ⟨S13, eS13, hE⟩ := fw_let_ex hE
          rw [← eS13] at R
          clear eS13
          refine lv_iload hx hb d_Mo_come_52 (lv_at hl 0 rfl) ?_
          refine lv_iconst (v := 4) hx hb d_Mo_come_54 (by decide) ?_
          refine lv_icmp_lt (tgt := 73) hx hb d_Mo_come_55 (by decide) (fun hc => ?_) (fun hc => ?_)
          · replace hE := fw_if_t hc hE
            refine lv_iconst (v := 0) hx hb d_Mo_come_73 (by decide) ?_
            cases hE
            exact fw_iret C fw_X.rf rfl R d_Mo_come_74
          · replace hE := fw_if_f hc hE
            refine lv_iload hx hb d_Mo_come_58 (lv_at hl 0 rfl) ?_
            refine lv_aload_n hx hb d_Mo_come_60 rfl (lv_at hl 2 rfl) ?_
            refine fw_getr C R ft_field_7_20 hk_a0 rfl rfl d_Mo_come_61 (fun hq => ?_) (fun b14 hq hk_b14 => ?_)
            · replace hE := fw_om_none hq hE
              refine lv_iload_n hx hb d_Mo_come_64 rfl (lv_at hl 1 rfl) ?_
              refine lv_iconst (v := 3) hx hb d_Mo_come_65 (by decide) ?_
              refine lv_iadd hx hb d_Mo_come_66 ?_
              cases hE
            · replace hE := fw_om_some hq hE
              refine lv_iload_n hx hb d_Mo_come_64 rfl (lv_at hl 1 rfl) ?_
              refine lv_iconst (v := 3) hx hb d_Mo_come_65 (by decide) ?_
              refine lv_iadd hx hb d_Mo_come_66 ?_
              obtain ⟨hi15, hE⟩ := fw_ifn hE
              refine fw_iald C R (by decide) hk_b14 hi15 d_Mo_come_67 ?_
              refine lv_iconst (v := 4) hx hb d_Mo_come_68 (by decide) ?_
              refine lv_iadd hx hb d_Mo_come_69 ?_
              refine lv_icmp_ge (tgt := 75) hx hb d_Mo_come_70 (by decide) (fun hc => ?_) (fun hc => ?_)
              · replace hE := fw_if_t hc hE
                refine lv_aload_n hx hb d_Mo_come_75 rfl (lv_at hl 2 rfl) ?_
                refine fw_getr C R ft_field_7_23 hk_a0 rfl rfl d_Mo_come_76 (fun hq => ?_) (fun b16 hq hk_b16 => ?_)
                · replace hE := fw_om_none hq hE
                  refine lv_iload_n hx hb d_Mo_come_79 rfl (lv_at hl 3 rfl) ?_
                  refine lv_iconst (v := 0) hx hb d_Mo_come_80 (by decide) ?_
                  cases hE
                · replace hE := fw_om_some hq hE
                  refine lv_iload_n hx hb d_Mo_come_79 rfl (lv_at hl 3 rfl) ?_
                  refine lv_iconst (v := 0) hx hb d_Mo_come_80 (by decide) ?_
                  obtain ⟨hi17, hE⟩ := fw_ifn hE
                  refine fw_iast C R (by decide) hk_b16 hi17 d_Mo_come_81 (fun H locs R => ?_)
                  obtain ⟨S18, eS18, hE⟩ := fw_let_ex hE
                  rw [← eS18] at R
                  clear eS18
                  refine lv_aload_n hx hb d_Mo_come_82 rfl (lv_at hl 2 rfl) ?_
                  refine fw_getr C R ft_field_7_20 hk_a0 rfl rfl d_Mo_come_83 (fun hq => ?_) (fun b19 hq hk_b19 => ?_)
                  · replace hE := fw_om_none hq hE
                    refine lv_iload_n hx hb d_Mo_come_86 rfl (lv_at hl 1 rfl) ?_
                    refine lv_iconst (v := 1) hx hb d_Mo_come_87 (by decide) ?_
                    refine lv_iadd hx hb d_Mo_come_88 ?_
                    cases hE
                  · replace hE := fw_om_some hq hE
                    refine lv_iload_n hx hb d_Mo_come_86 rfl (lv_at hl 1 rfl) ?_
                    refine lv_iconst (v := 1) hx hb d_Mo_come_87 (by decide) ?_
                    refine lv_iadd hx hb d_Mo_come_88 ?_
                    obtain ⟨hi20, hE⟩ := fw_ifn hE
                    refine fw_iald C R (by decide) hk_b19 hi20 d_Mo_come_89 ?_
                    refine lv_topi (fun x21 ex21 => ?_)
                    replace hE := fw_let_use ex21 hE
                    clear ex21
                    refine lv_istore (lv' := [(5, .int x21), (4, .int x4), (3, .int x1), (0, .ref a0), (1, .int p1), (2, .int p2)]) hx hb d_Mo_come_90 hl (by decide) rfl (fun ls hl => ?_)
                    refine lv_aload_n hx hb d_Mo_come_92 rfl (lv_at hl 3 rfl) ?_
                    refine fw_getr C R ft_field_7_20 hk_a0 rfl rfl d_Mo_come_93 (fun hq => ?_) (fun b22 hq hk_b22 => ?_)
                    · replace hE := fw_om_none hq hE
                      refine lv_iload_n hx hb d_Mo_come_96 rfl (lv_at hl 2 rfl) ?_
                      refine lv_iconst (v := 2) hx hb d_Mo_come_97 (by decide) ?_
                      refine lv_iadd hx hb d_Mo_come_98 ?_
                      cases hE
                    · replace hE := fw_om_some hq hE
                      refine lv_iload_n hx hb d_Mo_come_96 rfl (lv_at hl 2 rfl) ?_
                      refine lv_iconst (v := 2) hx hb d_Mo_come_97 (by decide) ?_
                      refine lv_iadd hx hb d_Mo_come_98 ?_
                      obtain ⟨hi23, hE⟩ := fw_ifn hE
                      refine fw_iald C R (by decide) hk_b22 hi23 d_Mo_come_99 ?_
                      refine lv_topi (fun x24 ex24 => ?_)
                      replace hE := fw_let_use ex24 hE
                      clear ex24
                      refine lv_istore (lv' := [(6, .int x24), (5, .int x21), (4, .int x4), (3, .int x1), (0, .ref a0), (1, .int p1), (2, .int p2)]) hx hb d_Mo_come_100 hl (by decide) rfl (fun ls hl => ?_)
                      refine lv_iload_n hx hb d_Mo_come_102 rfl (lv_at hl 5 rfl) ?_
                      refine lv_iconst (v := 4) hx hb d_Mo_come_103 (by decide) ?_
                      refine lv_icmp_ne (tgt := 127) hx hb d_Mo_come_104 (by decide) (fun hc => ?_) (fun hc => ?_)
                      · replace hE := fw_if_f hc hE
                        refine lv_aload_n hx hb d_Mo_come_127 rfl (lv_at hl 4 rfl) ?_
                        refine lv_iload_n hx hb d_Mo_come_128 rfl (lv_at hl 5 rfl) ?_
                        refine lv_iload hx hb d_Mo_come_129 (lv_at hl 1 rfl) ?_
                        refine lv_iload hx hb d_Mo_come_131 (lv_at hl 0 rfl) ?_
                        refine lv_iload_n hx hb d_Mo_come_133 rfl (lv_at hl 3 rfl) ?_
                        obtain ⟨x26, S25, hF, hE⟩ := fw_b2_ex hE
                        refine fw_callV (As := [.int p1, .int x21, .int x24, .int x1]) (rest := []) C R ft_callV_7_223 yi_Mo_isDropped ys_Mo_isDropped (ct_Mo_isDropped l G kd0 S18 _ _ _ _ _ _ _ hk_a0 hF) hk_a0 (by decide) rfl rfl hl.1 rfl (lv_room (Nat.le_of_ble_eq_true rfl)) ⟨Nat.le_of_ble_eq_true rfl, Nat.le_of_ble_eq_true rfl⟩ ⟨Nat.le_of_ble_eq_true rfl, Nat.le_of_ble_eq_true rfl⟩ d_Mo_come_134 (fun H locs kd27 hxkd27 hP R => ?_)
                        rw [hP] at R; clear hP hxkd27
                        exact h_j137 _ _ _ _ hk_a0 _ _ _ R (lv_sub hl [4, 1] rfl) hE
                      · replace hE := fw_if_t hc hE
                        refine lv_aload_n hx hb d_Mo_come_107 rfl (lv_at hl 4 rfl) ?_
                        refine lv_iload hx hb d_Mo_come_108 (lv_at hl 1 rfl) ?_
                        refine lv_iload hx hb d_Mo_come_110 (lv_at hl 0 rfl) ?_
                        refine lv_iload_n hx hb d_Mo_come_112 rfl (lv_at hl 3 rfl) ?_
                        obtain ⟨x31, S30, hF, hE⟩ := fw_b2_ex hE
                        refine fw_callV (As := [.int x21, .int x24, .int x1]) (rest := []) C R ft_callV_7_220 yi_Mo_isServed ys_Mo_isServed (ct_Mo_isServed l G kd0 S18 _ _ _ _ _ _ hk_a0 hF) hk_a0 (by decide) rfl rfl hl.1 rfl (lv_room (Nat.le_of_ble_eq_true rfl)) ⟨Nat.le_of_ble_eq_true rfl, Nat.le_of_ble_eq_true rfl⟩ ⟨Nat.le_of_ble_eq_true rfl, Nat.le_of_ble_eq_true rfl⟩ d_Mo_come_113 (fun H locs kd32 hxkd32 hP R => ?_)
                        rw [hP] at R; clear hP hxkd32
                        refine lv_if_ne (tgt := 123) hx hb d_Mo_come_116 (by decide) (fun hc => ?_) (fun hc => ?_)
                        · replace hE := fw_if_f hc hE
                          refine lv_iconst (v := 0) hx hb d_Mo_come_123 (by decide) ?_
                          refine lv_goto (tgt := 137) hx hb d_Mo_come_124 (by decide) ?_
                          exact h_j137 _ _ _ _ hk_a0 _ _ _ R (lv_sub hl [4, 1] rfl) hE
                        · replace hE := fw_if_t hc hE
                          refine lv_iconst (v := 1) hx hb d_Mo_come_119 (by decide) ?_
                          refine lv_goto (tgt := 137) hx hb d_Mo_come_120 (by decide) ?_
                          exact h_j137 _ _ _ _ hk_a0 _ _ _ R (lv_sub hl [4, 1] rfl) hE
              · replace hE := fw_if_f hc hE
                refine lv_iconst (v := 0) hx hb d_Mo_come_73 (by decide) ?_
                cases hE
                exact fw_iret C fw_X.rf rfl R d_Mo_come_74
    · replace hE := fw_if_t hc hE
      refine lv_aload_n hx hb d_Mo_come_24 rfl (lv_at hl 2 rfl) ?_
      refine lv_iload_n hx hb d_Mo_come_25 rfl (lv_at hl 3 rfl) ?_
      obtain ⟨S33, hF, hE⟩ := fw_bind hE
      refine fw_callV (As := [.int p1]) (rest := []) C R ft_callV_7_217 yi_Mo_end ys_Mo_end (ct_Mo_end l G kd0 S0 _ _ _ hk_a0 hF) hk_a0 (by decide) rfl rfl hl.1 rfl (lv_room (Nat.le_of_ble_eq_true rfl)) ⟨Nat.le_of_ble_eq_true rfl, Nat.le_of_ble_eq_true rfl⟩ ⟨Nat.le_of_ble_eq_true rfl, Nat.le_of_ble_eq_true rfl⟩ d_Mo_come_26 (fun H locs kd34 hxkd34 hP R => ?_)
      rw [hP] at R; clear hP hxkd34
      refine lv_bipush (v := -10) hx hb d_Mo_come_29 (by decide) ?_
      cases hE
      exact fw_iret C fw_X.rf rfl R d_Mo_come_31
set_option maxHeartbeats 4000000 in
set_option maxRecDepth 100000 in
theorem ct_Mo_octet (l : Launch) (G : fw_G) (kd0 : Nat → Option Nat) (S0 : fw_S) (a0 : Nat) (p1 : Int32) (p2 : Int32) (r0 : Int32) (S' : fw_S) (hk_a0 : kd0 a0 = some 7) (hE : F_Mo_octet a0 p1 p2 S0 = some (r0, S')) : fw_M l G y_Mo_octet prog_9_method_27_code 3 (some .int) 6 146 0 0 kd0 S0 ([.ref a0, .int p1, .int p2] : List Value) (some (.int r0)) S' (fun k => k = kd0) := by
  refine fw_start (by decide) (Nat.le_of_ble_eq_true rfl) ?_
  intro p e s m below meth c ls C hnm R hl
  clear hnm
  have hx := C.1
  have hb := C.2.1
  have hl : lv_has ls 3 [(0, .ref a0), (1, .int p1), (2, .int p2)] := hl
  unfold F_Mo_octet at hE
  refine lv_iload_n hx hb d_Mo_octet_0 rfl (lv_at hl 1 rfl) ?_
  refine lv_iconst (v := 0) hx hb d_Mo_octet_1 (by decide) ?_
  refine lv_iconst (v := 4) hx hb d_Mo_octet_2 (by decide) ?_
  obtain ⟨x1, hF, hE⟩ := fw_bind hE
  refine fw_callS (As := [.int p1, .int (0 : Int32), .int (4 : Int32)]) (rest := []) C R ft_callS_7_163 yt_Mo_isIn (ct_Mo_isIn l G kd0 S0 _ _ _ _  hF) rfl hl.1 rfl (lv_room (Nat.le_of_ble_eq_true rfl)) ⟨Nat.le_of_ble_eq_true rfl, Nat.le_of_ble_eq_true rfl⟩ ⟨Nat.le_of_ble_eq_true rfl, Nat.le_of_ble_eq_true rfl⟩ d_Mo_octet_3 (fun H locs kd2 hxkd2 hP R => ?_)
  rw [hP] at R; clear hP hxkd2
  refine lv_if_ne (tgt := 13) hx hb d_Mo_octet_6 (by decide) (fun hc => ?_) (fun hc => ?_)
  · replace hE := fw_if_f hc hE
    refine lv_aload_n hx hb d_Mo_octet_13 rfl (lv_at hl 0 rfl) ?_
    refine fw_getr C R ft_field_7_7 hk_a0 rfl rfl d_Mo_octet_14 (fun hq => ?_) (fun b3 hq hk_b3 => ?_)
    · replace hE := fw_om_none hq hE
      refine lv_iload_n hx hb d_Mo_octet_17 rfl (lv_at hl 1 rfl) ?_
      cases hE
    · replace hE := fw_om_some hq hE
      refine lv_iload_n hx hb d_Mo_octet_17 rfl (lv_at hl 1 rfl) ?_
      obtain ⟨hi4, hE⟩ := fw_ifn hE
      refine fw_zald C R (by decide) hk_b3 hi4 d_Mo_octet_18 ?_
      refine lv_if_ne (tgt := 27) hx hb d_Mo_octet_19 (by decide) (fun hc => ?_) (fun hc => ?_)
      · replace hE := fw_if_f hc hE
        refine lv_aload_n hx hb d_Mo_octet_27 rfl (lv_at hl 0 rfl) ?_
        refine lv_iload_n hx hb d_Mo_octet_28 rfl (lv_at hl 1 rfl) ?_
        refine lv_iload_n hx hb d_Mo_octet_29 rfl (lv_at hl 2 rfl) ?_
        refine lv_sipush (v := 255) hx hb d_Mo_octet_30 (by decide) ?_
        refine lv_iand hx hb d_Mo_octet_33 ?_
        obtain ⟨x6, S5, hF, hE⟩ := fw_b2_ex hE
        refine fw_callV (As := [.int p1, .int (p2 &&& (255 : Int32))]) (rest := []) C R ft_callV_7_230 yi_Mo_come ys_Mo_come (ct_Mo_come l G kd0 S0 _ _ _ _ _ hk_a0 hF) hk_a0 (by decide) rfl rfl hl.1 rfl (lv_room (Nat.le_of_ble_eq_true rfl)) ⟨Nat.le_of_ble_eq_true rfl, Nat.le_of_ble_eq_true rfl⟩ ⟨Nat.le_of_ble_eq_true rfl, Nat.le_of_ble_eq_true rfl⟩ d_Mo_octet_34 (fun H locs kd7 hxkd7 hP R => ?_)
        rw [hP] at R; clear hP hxkd7
        cases hE
        exact fw_iret C fw_X.rf rfl R d_Mo_octet_37
      · replace hE := fw_if_t hc hE
        refine lv_bipush (v := -2) hx hb d_Mo_octet_22 (by decide) ?_
        refine lv_goto (tgt := 37) hx hb d_Mo_octet_24 (by decide) ?_
        cases hE
        exact fw_iret C fw_X.rf rfl R d_Mo_octet_37
  · replace hE := fw_if_t hc hE
    refine lv_iconst (v := -1) hx hb d_Mo_octet_9 (by decide) ?_
    refine lv_goto (tgt := 37) hx hb d_Mo_octet_10 (by decide) ?_
    cases hE
    exact fw_iret C fw_X.rf rfl R d_Mo_octet_37
set_option maxHeartbeats 4000000 in
set_option maxRecDepth 100000 in
theorem ct_Mo_takeOut (l : Launch) (G : fw_G) (kd0 : Nat → Option Nat) (S0 : fw_S) (a0 : Nat) (p1 : Int32) (r0 : Int32) (S' : fw_S) (hk_a0 : kd0 a0 = some 7) (hE : F_Mo_takeOut a0 p1 S0 = some (r0, S')) : fw_M l G y_Mo_takeOut prog_9_method_28_code 4 (some .int) 0 0 0 0 kd0 S0 ([.ref a0, .int p1] : List Value) (some (.int r0)) S' (fun k => k = kd0) := by
  refine fw_start (by decide) (Nat.le_of_ble_eq_true rfl) ?_
  intro p e s m below meth c ls C hnm R hl
  clear hnm
  have hx := C.1
  have hb := C.2.1
  have hl : lv_has ls 4 [(0, .ref a0), (1, .int p1)] := hl
  have h_l23 : ∀ (n : Nat), ∀ v0 : Nat, ∀ v1 : Int32, ∀ v2 : Int32, ∀ v3 : Int32, ∀ S0 : fw_S, kd0 v0 = some 7 → ∀ (H : Heap) (locs : List Loc) (ls : Array Slot), fw_R G kd0 S0 H locs → lv_has ls 4 [(0, .ref v0), (1, .int v1), (2, .int v2), (3, .int v3)] → F_Mo_takeOut_l23 n v0 v1 v2 v3 S0 = some (r0, S') → W p l e { frames := 0, cells := 0, slots := 0, locals := 0 } s m ([.ref a0, .int p1] : List Value).toArray below meth c H locs 0 0 (MQ below (fw_Q G kd0 (some (.int r0)) S' (fun k => k = kd0)) ([.ref a0, .int p1] : List Value).toArray s 0 0 (fw_A G)) (F0 m 23 ls []) := by
    intro n
    induction n with
    | zero =>
      intro v0 v1 v2 v3 S0 hk_v0 H locs ls R hl hE
      rw [F_Mo_takeOut_l23] at hE
      cases hE
    | succ n ih =>
      intro v0 v1 v2 v3 S0 hk_v0 H locs ls R hl hE
      rw [F_Mo_takeOut_l23] at hE
      refine lv_iload_n hx hb d_Mo_takeOut_23 rfl (lv_at hl 3 rfl) ?_
      refine lv_aload_n hx hb d_Mo_takeOut_24 rfl (lv_at hl 0 rfl) ?_
      refine fw_getr C R ft_field_7_17 hk_v0 rfl rfl d_Mo_takeOut_25 (fun hq => ?_) (fun b8 hq hk_b8 => ?_)
      · replace hE := fw_om_none hq hE
        refine lv_iload_n hx hb d_Mo_takeOut_28 rfl (lv_at hl 1 rfl) ?_
        cases hE
      · replace hE := fw_om_some hq hE
        refine lv_iload_n hx hb d_Mo_takeOut_28 rfl (lv_at hl 1 rfl) ?_
        obtain ⟨hi9, hE⟩ := fw_ifn hE
        refine fw_iald C R (by decide) hk_b8 hi9 d_Mo_takeOut_29 ?_
        refine lv_icmp_ge (tgt := 65) hx hb d_Mo_takeOut_30 (by decide) (fun hc => ?_) (fun hc => ?_)
        · replace hE := fw_if_t hc hE
          refine lv_iload_n hx hb d_Mo_takeOut_65 rfl (lv_at hl 2 rfl) ?_
          cases hE
          exact fw_iret C fw_X.rf rfl R d_Mo_takeOut_66
        · replace hE := fw_if_f hc hE
          refine lv_aload_n hx hb d_Mo_takeOut_33 rfl (lv_at hl 0 rfl) ?_
          refine fw_getr C R ft_field_7_13 hk_v0 rfl rfl d_Mo_takeOut_34 (fun hq => ?_) (fun b10 hq hk_b10 => ?_)
          · replace hE := fw_om_none hq hE
            refine lv_sipush (v := 300) hx hb d_Mo_takeOut_37 (by decide) ?_
            refine lv_iload_n hx hb d_Mo_takeOut_40 rfl (lv_at hl 1 rfl) ?_
            refine lv_imul hx hb d_Mo_takeOut_41 ?_
            refine lv_iload_n hx hb d_Mo_takeOut_42 rfl (lv_at hl 3 rfl) ?_
            refine lv_iadd hx hb d_Mo_takeOut_43 ?_
            refine lv_aload_n hx hb d_Mo_takeOut_44 rfl (lv_at hl 0 rfl) ?_
            refine fw_getr C R ft_field_7_13 hk_v0 rfl rfl d_Mo_takeOut_45 (fun hq => ?_) (fun b11 hq hk_b11 => ?_)
            · replace hE := fw_om_none hq hE
              refine lv_sipush (v := 300) hx hb d_Mo_takeOut_48 (by decide) ?_
              refine lv_iload_n hx hb d_Mo_takeOut_51 rfl (lv_at hl 1 rfl) ?_
              refine lv_imul hx hb d_Mo_takeOut_52 ?_
              refine lv_iload_n hx hb d_Mo_takeOut_53 rfl (lv_at hl 3 rfl) ?_
              refine lv_iadd hx hb d_Mo_takeOut_54 ?_
              refine lv_iconst (v := 1) hx hb d_Mo_takeOut_55 (by decide) ?_
              refine lv_iadd hx hb d_Mo_takeOut_56 ?_
              cases hE
            · replace hE := fw_om_some hq hE
              refine lv_sipush (v := 300) hx hb d_Mo_takeOut_48 (by decide) ?_
              refine lv_iload_n hx hb d_Mo_takeOut_51 rfl (lv_at hl 1 rfl) ?_
              refine lv_imul hx hb d_Mo_takeOut_52 ?_
              refine lv_iload_n hx hb d_Mo_takeOut_53 rfl (lv_at hl 3 rfl) ?_
              refine lv_iadd hx hb d_Mo_takeOut_54 ?_
              refine lv_iconst (v := 1) hx hb d_Mo_takeOut_55 (by decide) ?_
              refine lv_iadd hx hb d_Mo_takeOut_56 ?_
              obtain ⟨hi12, hE⟩ := fw_ifn hE
              refine fw_iald C R (by decide) hk_b11 hi12 d_Mo_takeOut_57 ?_
              cases hE
          · replace hE := fw_om_some hq hE
            refine lv_sipush (v := 300) hx hb d_Mo_takeOut_37 (by decide) ?_
            refine lv_iload_n hx hb d_Mo_takeOut_40 rfl (lv_at hl 1 rfl) ?_
            refine lv_imul hx hb d_Mo_takeOut_41 ?_
            refine lv_iload_n hx hb d_Mo_takeOut_42 rfl (lv_at hl 3 rfl) ?_
            refine lv_iadd hx hb d_Mo_takeOut_43 ?_
            refine lv_aload_n hx hb d_Mo_takeOut_44 rfl (lv_at hl 0 rfl) ?_
            refine fw_getr C R ft_field_7_13 hk_v0 rfl rfl d_Mo_takeOut_45 (fun hq => ?_) (fun b13 hq hk_b13 => ?_)
            · replace hE := fw_om_none hq hE
              refine lv_sipush (v := 300) hx hb d_Mo_takeOut_48 (by decide) ?_
              refine lv_iload_n hx hb d_Mo_takeOut_51 rfl (lv_at hl 1 rfl) ?_
              refine lv_imul hx hb d_Mo_takeOut_52 ?_
              refine lv_iload_n hx hb d_Mo_takeOut_53 rfl (lv_at hl 3 rfl) ?_
              refine lv_iadd hx hb d_Mo_takeOut_54 ?_
              refine lv_iconst (v := 1) hx hb d_Mo_takeOut_55 (by decide) ?_
              refine lv_iadd hx hb d_Mo_takeOut_56 ?_
              cases hE
            · replace hE := fw_om_some hq hE
              refine lv_sipush (v := 300) hx hb d_Mo_takeOut_48 (by decide) ?_
              refine lv_iload_n hx hb d_Mo_takeOut_51 rfl (lv_at hl 1 rfl) ?_
              refine lv_imul hx hb d_Mo_takeOut_52 ?_
              refine lv_iload_n hx hb d_Mo_takeOut_53 rfl (lv_at hl 3 rfl) ?_
              refine lv_iadd hx hb d_Mo_takeOut_54 ?_
              refine lv_iconst (v := 1) hx hb d_Mo_takeOut_55 (by decide) ?_
              refine lv_iadd hx hb d_Mo_takeOut_56 ?_
              obtain ⟨hi14, hE⟩ := fw_ifn hE
              refine fw_iald C R (by decide) hk_b13 hi14 d_Mo_takeOut_57 ?_
              obtain ⟨hi15, hE⟩ := fw_ifn hE
              refine fw_iast C R (by decide) hk_b10 hi15 d_Mo_takeOut_58 (fun H locs R => ?_)
              obtain ⟨S16, eS16, hE⟩ := fw_let_ex hE
              rw [← eS16] at R
              clear eS16
              refine lv_iinc (v := (v3 + (1 : Int32))) (lv' := [(3, .int (v3 + (1 : Int32))), (0, .ref v0), (1, .int v1), (2, .int v2)]) hx hb d_Mo_takeOut_59 hl (k := 3) rfl rfl (by decide) rfl (fun ls hl => ?_)
              refine lv_goto (tgt := 23) hx hb d_Mo_takeOut_62 (by decide) ?_
              exact ih _ _ _ _ _ hk_v0 _ _ _ R (lv_sub hl [1, 2, 3, 0] rfl) hE
  unfold F_Mo_takeOut at hE
  refine lv_aload_n hx hb d_Mo_takeOut_0 rfl (lv_at hl 0 rfl) ?_
  refine fw_getr C R ft_field_7_13 hk_a0 rfl rfl d_Mo_takeOut_1 (fun hq => ?_) (fun b1 hq hk_b1 => ?_)
  · replace hE := fw_om_none hq hE
    refine lv_sipush (v := 300) hx hb d_Mo_takeOut_4 (by decide) ?_
    refine lv_iload_n hx hb d_Mo_takeOut_7 rfl (lv_at hl 1 rfl) ?_
    refine lv_imul hx hb d_Mo_takeOut_8 ?_
    cases hE
  · replace hE := fw_om_some hq hE
    refine lv_sipush (v := 300) hx hb d_Mo_takeOut_4 (by decide) ?_
    refine lv_iload_n hx hb d_Mo_takeOut_7 rfl (lv_at hl 1 rfl) ?_
    refine lv_imul hx hb d_Mo_takeOut_8 ?_
    obtain ⟨hi2, hE⟩ := fw_ifn hE
    refine fw_iald C R (by decide) hk_b1 hi2 d_Mo_takeOut_9 ?_
    refine lv_topi (fun x3 ex3 => ?_)
    replace hE := fw_let_use ex3 hE
    clear ex3
    refine lv_istore_n (lv' := [(2, .int x3), (0, .ref a0), (1, .int p1)]) hx hb d_Mo_takeOut_10 rfl hl (by decide) rfl (fun ls hl => ?_)
    refine lv_aload_n hx hb d_Mo_takeOut_11 rfl (lv_at hl 1 rfl) ?_
    refine fw_getr C R ft_field_7_17 hk_a0 rfl rfl d_Mo_takeOut_12 (fun hq => ?_) (fun b4 hq hk_b4 => ?_)
    · replace hE := fw_om_none hq hE
      refine lv_iload_n hx hb d_Mo_takeOut_15 rfl (lv_at hl 2 rfl) ?_
      refine lv_dup2_11 hx hb d_Mo_takeOut_16 rfl rfl ?_
      cases hE
    · replace hE := fw_om_some hq hE
      refine lv_iload_n hx hb d_Mo_takeOut_15 rfl (lv_at hl 2 rfl) ?_
      refine lv_dup2_11 hx hb d_Mo_takeOut_16 rfl rfl ?_
      obtain ⟨hi5, hE⟩ := fw_ifn hE
      refine fw_iald C R (by decide) hk_b4 hi5 d_Mo_takeOut_17 ?_
      refine lv_iconst (v := 1) hx hb d_Mo_takeOut_18 (by decide) ?_
      refine lv_isub hx hb d_Mo_takeOut_19 ?_
      obtain ⟨hi6, hE⟩ := fw_ifn hE
      refine fw_iast C R (by decide) hk_b4 hi6 d_Mo_takeOut_20 (fun H locs R => ?_)
      obtain ⟨S7, eS7, hE⟩ := fw_let_ex hE
      rw [← eS7] at R
      clear eS7
      refine lv_iconst (v := 0) hx hb d_Mo_takeOut_21 (by decide) ?_
      refine lv_istore_n (lv' := [(3, .int (0 : Int32)), (2, .int x3), (0, .ref a0), (1, .int p1)]) hx hb d_Mo_takeOut_22 rfl hl (by decide) rfl (fun ls hl => ?_)
      exact h_l23 _ _ _ _ _ _ hk_a0 _ _ _ R (lv_sub hl [2, 3, 1, 0] rfl) hE
set_option maxHeartbeats 4000000 in
set_option maxRecDepth 100000 in
theorem ct_Mo_out (l : Launch) (G : fw_G) (kd0 : Nat → Option Nat) (S0 : fw_S) (a0 : Nat) (p1 : Int32) (r0 : Int32) (S' : fw_S) (hk_a0 : kd0 a0 = some 7) (hE : F_Mo_out a0 p1 S0 = some (r0, S')) : fw_M l G y_Mo_out prog_9_method_29_code 2 (some .int) 1 23 0 0 kd0 S0 ([.ref a0, .int p1] : List Value) (some (.int r0)) S' (fun k => k = kd0) := by
  refine fw_start (by decide) (Nat.le_of_ble_eq_true rfl) ?_
  intro p e s m below meth c ls C hnm R hl
  clear hnm
  have hx := C.1
  have hb := C.2.1
  have hl : lv_has ls 2 [(0, .ref a0), (1, .int p1)] := hl
  unfold F_Mo_out at hE
  refine lv_iload_n hx hb d_Mo_out_0 rfl (lv_at hl 1 rfl) ?_
  refine lv_iconst (v := 0) hx hb d_Mo_out_1 (by decide) ?_
  refine lv_iconst (v := 4) hx hb d_Mo_out_2 (by decide) ?_
  obtain ⟨x1, hF, hE⟩ := fw_bind hE
  refine fw_callS (As := [.int p1, .int (0 : Int32), .int (4 : Int32)]) (rest := []) C R ft_callS_7_163 yt_Mo_isIn (ct_Mo_isIn l G kd0 S0 _ _ _ _  hF) rfl hl.1 rfl (lv_room (Nat.le_of_ble_eq_true rfl)) ⟨Nat.le_of_ble_eq_true rfl, Nat.le_of_ble_eq_true rfl⟩ ⟨Nat.le_of_ble_eq_true rfl, Nat.le_of_ble_eq_true rfl⟩ d_Mo_out_3 (fun H locs kd2 hxkd2 hP R => ?_)
  rw [hP] at R; clear hP hxkd2
  refine lv_if_ne (tgt := 13) hx hb d_Mo_out_6 (by decide) (fun hc => ?_) (fun hc => ?_)
  · replace hE := fw_if_f hc hE
    refine lv_aload_n hx hb d_Mo_out_13 rfl (lv_at hl 0 rfl) ?_
    refine fw_getr C R ft_field_7_17 hk_a0 rfl rfl d_Mo_out_14 (fun hq => ?_) (fun b3 hq hk_b3 => ?_)
    · replace hE := fw_om_none hq hE
      refine lv_iload_n hx hb d_Mo_out_17 rfl (lv_at hl 1 rfl) ?_
      cases hE
    · replace hE := fw_om_some hq hE
      refine lv_iload_n hx hb d_Mo_out_17 rfl (lv_at hl 1 rfl) ?_
      obtain ⟨hi4, hE⟩ := fw_ifn hE
      refine fw_iald C R (by decide) hk_b3 hi4 d_Mo_out_18 ?_
      refine lv_if_ne (tgt := 27) hx hb d_Mo_out_19 (by decide) (fun hc => ?_) (fun hc => ?_)
      · replace hE := fw_if_f hc hE
        refine lv_aload_n hx hb d_Mo_out_27 rfl (lv_at hl 0 rfl) ?_
        refine lv_iload_n hx hb d_Mo_out_28 rfl (lv_at hl 1 rfl) ?_
        obtain ⟨x6, S5, hF, hE⟩ := fw_b2_ex hE
        refine fw_callV (As := [.int p1]) (rest := []) C R ft_callV_7_234 yi_Mo_takeOut ys_Mo_takeOut (ct_Mo_takeOut l G kd0 S0 _ _ _ _ hk_a0 hF) hk_a0 (by decide) rfl rfl hl.1 rfl (lv_room (Nat.le_of_ble_eq_true rfl)) ⟨Nat.le_of_ble_eq_true rfl, Nat.le_of_ble_eq_true rfl⟩ ⟨Nat.le_of_ble_eq_true rfl, Nat.le_of_ble_eq_true rfl⟩ d_Mo_out_29 (fun H locs kd7 hxkd7 hP R => ?_)
        rw [hP] at R; clear hP hxkd7
        cases hE
        exact fw_iret C fw_X.rf rfl R d_Mo_out_32
      · replace hE := fw_if_t hc hE
        refine lv_bipush (v := -2) hx hb d_Mo_out_22 (by decide) ?_
        refine lv_goto (tgt := 32) hx hb d_Mo_out_24 (by decide) ?_
        cases hE
        exact fw_iret C fw_X.rf rfl R d_Mo_out_32
  · replace hE := fw_if_t hc hE
    refine lv_iconst (v := -1) hx hb d_Mo_out_9 (by decide) ?_
    refine lv_goto (tgt := 32) hx hb d_Mo_out_10 (by decide) ?_
    cases hE
    exact fw_iret C fw_X.rf rfl R d_Mo_out_32
set_option maxHeartbeats 4000000 in
set_option maxRecDepth 100000 in
theorem ct_Mo_loop (l : Launch) (G : fw_G) (kd0 : Nat → Option Nat) (S0 : fw_S) (a0 : Nat) (p1 : Int32) (p2 : Int32) (r0 : Int32) (S' : fw_S) (hk_a0 : kd0 a0 = some 7) (hE : F_Mo_loop a0 p1 p2 S0 = some (r0, S')) : fw_M l G y_Mo_loop prog_9_method_30_code 4 (some .int) 6 146 0 0 kd0 S0 ([.ref a0, .int p1, .int p2] : List Value) (some (.int r0)) S' (fun k => k = kd0) := by
  refine fw_start (by decide) (Nat.le_of_ble_eq_true rfl) ?_
  intro p e s m below meth c ls C hnm R hl
  clear hnm
  have hx := C.1
  have hb := C.2.1
  have hl : lv_has ls 4 [(0, .ref a0), (1, .int p1), (2, .int p2)] := hl
  have h_j97 : ∀ v0 : Nat, ∀ v3 : Int32, ∀ S0 : fw_S, kd0 v0 = some 7 → ∀ (H : Heap) (locs : List Loc) (ls : Array Slot), fw_R G kd0 S0 H locs → lv_has ls 4 [(0, .ref v0), (3, .int v3)] → F_Mo_loop_j97 v0 v3 S0 = some (r0, S') → W p l e { frames := 6, cells := 0, slots := 0, locals := 146 } s m ([.ref a0, .int p1, .int p2] : List Value).toArray below meth c H locs 0 0 (MQ below (fw_Q G kd0 (some (.int r0)) S' (fun k => k = kd0)) ([.ref a0, .int p1, .int p2] : List Value).toArray s 0 0 (fw_A G)) (F0 m 97 ls []) := by
    intro v0 v3 S0 hk_v0 H locs ls R hl hE
    unfold F_Mo_loop_j97 at hE
    refine lv_aload_n hx hb d_Mo_loop_97 rfl (lv_at hl 0 rfl) ?_
    refine fw_getr C R ft_field_7_17 hk_v0 rfl rfl d_Mo_loop_98 (fun hq => ?_) (fun b7 hq hk_b7 => ?_)
    · replace hE := fw_om_none hq hE
      refine lv_iconst (v := 4) hx hb d_Mo_loop_101 (by decide) ?_
      refine lv_iconst (v := 0) hx hb d_Mo_loop_102 (by decide) ?_
      cases hE
    · replace hE := fw_om_some hq hE
      refine lv_iconst (v := 4) hx hb d_Mo_loop_101 (by decide) ?_
      refine lv_iconst (v := 0) hx hb d_Mo_loop_102 (by decide) ?_
      obtain ⟨hi8, hE⟩ := fw_ifn hE
      refine fw_iast C R (by decide) hk_b7 hi8 d_Mo_loop_103 (fun H locs R => ?_)
      obtain ⟨S9, eS9, hE⟩ := fw_let_ex hE
      rw [← eS9] at R
      clear eS9
      refine lv_iload_n hx hb d_Mo_loop_104 rfl (lv_at hl 1 rfl) ?_
      cases hE
      exact fw_iret C fw_X.rf rfl R d_Mo_loop_105
  have h_l62 : ∀ (n : Nat), ∀ v0 : Nat, ∀ v1 : Int32, ∀ v3 : Int32, ∀ S0 : fw_S, kd0 v0 = some 7 → ∀ (H : Heap) (locs : List Loc) (ls : Array Slot), fw_R G kd0 S0 H locs → lv_has ls 4 [(0, .ref v0), (1, .int v1), (3, .int v3)] → F_Mo_loop_l62 n v0 v1 v3 S0 = some (r0, S') → W p l e { frames := 6, cells := 0, slots := 0, locals := 146 } s m ([.ref a0, .int p1, .int p2] : List Value).toArray below meth c H locs 0 0 (MQ below (fw_Q G kd0 (some (.int r0)) S' (fun k => k = kd0)) ([.ref a0, .int p1, .int p2] : List Value).toArray s 0 0 (fw_A G)) (F0 m 62 ls []) := by
    intro n
    induction n with
    | zero =>
      intro v0 v1 v3 S0 hk_v0 H locs ls R hl hE
      rw [F_Mo_loop_l62] at hE
      cases hE
    | succ n ih =>
      intro v0 v1 v3 S0 hk_v0 H locs ls R hl hE
      rw [F_Mo_loop_l62] at hE
      refine lv_aload_n hx hb d_Mo_loop_62 rfl (lv_at hl 0 rfl) ?_
      refine fw_getr C R ft_field_7_17 hk_v0 rfl rfl d_Mo_loop_63 (fun hq => ?_) (fun b5 hq hk_b5 => ?_)
      · replace hE := fw_om_none hq hE
        refine lv_iconst (v := 4) hx hb d_Mo_loop_66 (by decide) ?_
        cases hE
      · replace hE := fw_om_some hq hE
        refine lv_iconst (v := 4) hx hb d_Mo_loop_66 (by decide) ?_
        obtain ⟨hi6, hE⟩ := fw_ifn hE
        refine fw_iald C R (by decide) hk_b5 hi6 d_Mo_loop_67 ?_
        refine lv_if_le (tgt := 97) hx hb d_Mo_loop_68 (by decide) (fun hc => ?_) (fun hc => ?_)
        · replace hE := fw_if_t hc hE
          exact h_j97 _ _ _ hk_v0 _ _ _ R (lv_sub hl [0, 2] rfl) hE
        · replace hE := fw_if_f hc hE
          refine lv_aload_n hx hb d_Mo_loop_71 rfl (lv_at hl 0 rfl) ?_
          refine fw_getr C R ft_field_7_7 hk_v0 rfl rfl d_Mo_loop_72 (fun hq => ?_) (fun b10 hq hk_b10 => ?_)
          · replace hE := fw_om_none hq hE
            refine lv_iload_n hx hb d_Mo_loop_75 rfl (lv_at hl 1 rfl) ?_
            cases hE
          · replace hE := fw_om_some hq hE
            refine lv_iload_n hx hb d_Mo_loop_75 rfl (lv_at hl 1 rfl) ?_
            obtain ⟨hi11, hE⟩ := fw_ifn hE
            refine fw_zald C R (by decide) hk_b10 hi11 d_Mo_loop_76 ?_
            refine lv_if_eq (tgt := 97) hx hb d_Mo_loop_77 (by decide) (fun hc => ?_) (fun hc => ?_)
            · replace hE := fw_if_t hc hE
              exact h_j97 _ _ _ hk_v0 _ _ _ R (lv_sub hl [0, 2] rfl) hE
            · replace hE := fw_if_f hc hE
              refine lv_aload_n hx hb d_Mo_loop_80 rfl (lv_at hl 0 rfl) ?_
              refine lv_iload_n hx hb d_Mo_loop_81 rfl (lv_at hl 1 rfl) ?_
              refine lv_aload_n hx hb d_Mo_loop_82 rfl (lv_at hl 0 rfl) ?_
              refine lv_iconst (v := 4) hx hb d_Mo_loop_83 (by decide) ?_
              obtain ⟨x13, S12, hF, hE⟩ := fw_b2_ex hE
              refine fw_callV (As := [.int (4 : Int32)]) (rest := [.int v1, .ref v0]) C R ft_callV_7_234 yi_Mo_takeOut ys_Mo_takeOut (ct_Mo_takeOut l G kd0 S0 _ _ _ _ hk_v0 hF) hk_v0 (by decide) rfl rfl hl.1 rfl (lv_room (Nat.le_of_ble_eq_true rfl)) ⟨Nat.le_of_ble_eq_true rfl, Nat.le_of_ble_eq_true rfl⟩ ⟨Nat.le_of_ble_eq_true rfl, Nat.le_of_ble_eq_true rfl⟩ d_Mo_loop_84 (fun H locs kd14 hxkd14 hP R => ?_)
              rw [hP] at R; clear hP hxkd14
              obtain ⟨x16, S15, hF, hE⟩ := fw_b2_ex hE
              refine fw_callV (As := [.int v1, .int x13]) (rest := []) C R ft_callV_7_230 yi_Mo_come ys_Mo_come (ct_Mo_come l G kd0 S12 _ _ _ _ _ hk_v0 hF) hk_v0 (by decide) rfl rfl hl.1 rfl (lv_room (Nat.le_of_ble_eq_true rfl)) ⟨Nat.le_of_ble_eq_true rfl, Nat.le_of_ble_eq_true rfl⟩ ⟨Nat.le_of_ble_eq_true rfl, Nat.le_of_ble_eq_true rfl⟩ d_Mo_loop_87 (fun H locs kd17 hxkd17 hP R => ?_)
              rw [hP] at R; clear hP hxkd17
              refine lv_pop hx hb d_Mo_loop_90 rfl ?_
              refine lv_iinc (v := (v3 + (1 : Int32))) (lv' := [(3, .int (v3 + (1 : Int32))), (0, .ref v0), (1, .int v1)]) hx hb d_Mo_loop_91 hl (k := 2) rfl rfl (by decide) rfl (fun ls hl => ?_)
              refine lv_goto (tgt := 62) hx hb d_Mo_loop_94 (by decide) ?_
              exact ih _ _ _ _ hk_v0 _ _ _ R (lv_sub hl [1, 2, 0] rfl) hE
  have h_l29 : ∀ (n : Nat), ∀ v0 : Nat, ∀ v1 : Int32, ∀ v2 : Int32, ∀ v3 : Int32, ∀ S0 : fw_S, kd0 v0 = some 7 → ∀ (H : Heap) (locs : List Loc) (ls : Array Slot), fw_R G kd0 S0 H locs → lv_has ls 4 [(0, .ref v0), (1, .int v1), (2, .int v2), (3, .int v3)] → F_Mo_loop_l29 n v0 v1 v2 v3 S0 = some (r0, S') → W p l e { frames := 6, cells := 0, slots := 0, locals := 146 } s m ([.ref a0, .int p1, .int p2] : List Value).toArray below meth c H locs 0 0 (MQ below (fw_Q G kd0 (some (.int r0)) S' (fun k => k = kd0)) ([.ref a0, .int p1, .int p2] : List Value).toArray s 0 0 (fw_A G)) (F0 m 29 ls []) := by
    intro n
    induction n with
    | zero =>
      intro v0 v1 v2 v3 S0 hk_v0 H locs ls R hl hE
      rw [F_Mo_loop_l29] at hE
      cases hE
    | succ n ih =>
      intro v0 v1 v2 v3 S0 hk_v0 H locs ls R hl hE
      rw [F_Mo_loop_l29] at hE
      refine lv_iload_n hx hb d_Mo_loop_29 rfl (lv_at hl 3 rfl) ?_
      refine lv_iload_n hx hb d_Mo_loop_30 rfl (lv_at hl 2 rfl) ?_
      refine lv_icmp_ge (tgt := 60) hx hb d_Mo_loop_31 (by decide) (fun hc => ?_) (fun hc => ?_)
      · replace hE := fw_if_t hc hE
        refine lv_iconst (v := 0) hx hb d_Mo_loop_60 (by decide) ?_
        refine lv_istore_n (lv' := [(3, .int (0 : Int32)), (0, .ref v0), (1, .int v1), (2, .int v2)]) hx hb d_Mo_loop_61 rfl hl (by decide) rfl (fun ls hl => ?_)
        exact h_l62 _ _ _ _ _ hk_v0 _ _ _ R (lv_sub hl [1, 2, 0] rfl) hE
      · replace hE := fw_if_f hc hE
        refine lv_aload_n hx hb d_Mo_loop_34 rfl (lv_at hl 0 rfl) ?_
        refine fw_getr C R ft_field_7_17 hk_v0 rfl rfl d_Mo_loop_35 (fun hq => ?_) (fun b18 hq hk_b18 => ?_)
        · replace hE := fw_om_none hq hE
          refine lv_iload_n hx hb d_Mo_loop_38 rfl (lv_at hl 1 rfl) ?_
          cases hE
        · replace hE := fw_om_some hq hE
          refine lv_iload_n hx hb d_Mo_loop_38 rfl (lv_at hl 1 rfl) ?_
          obtain ⟨hi19, hE⟩ := fw_ifn hE
          refine fw_iald C R (by decide) hk_b18 hi19 d_Mo_loop_39 ?_
          refine lv_if_le (tgt := 60) hx hb d_Mo_loop_40 (by decide) (fun hc => ?_) (fun hc => ?_)
          · replace hE := fw_if_t hc hE
            refine lv_iconst (v := 0) hx hb d_Mo_loop_60 (by decide) ?_
            refine lv_istore_n (lv' := [(3, .int (0 : Int32)), (0, .ref v0), (1, .int v1), (2, .int v2)]) hx hb d_Mo_loop_61 rfl hl (by decide) rfl (fun ls hl => ?_)
            exact h_l62 _ _ _ _ _ hk_v0 _ _ _ R (lv_sub hl [1, 2, 0] rfl) hE
          · replace hE := fw_if_f hc hE
            refine lv_aload_n hx hb d_Mo_loop_43 rfl (lv_at hl 0 rfl) ?_
            refine lv_iconst (v := 4) hx hb d_Mo_loop_44 (by decide) ?_
            refine lv_aload_n hx hb d_Mo_loop_45 rfl (lv_at hl 0 rfl) ?_
            refine lv_iload_n hx hb d_Mo_loop_46 rfl (lv_at hl 1 rfl) ?_
            obtain ⟨x21, S20, hF, hE⟩ := fw_b2_ex hE
            refine fw_callV (As := [.int v1]) (rest := [.int (4 : Int32), .ref v0]) C R ft_callV_7_234 yi_Mo_takeOut ys_Mo_takeOut (ct_Mo_takeOut l G kd0 S0 _ _ _ _ hk_v0 hF) hk_v0 (by decide) rfl rfl hl.1 rfl (lv_room (Nat.le_of_ble_eq_true rfl)) ⟨Nat.le_of_ble_eq_true rfl, Nat.le_of_ble_eq_true rfl⟩ ⟨Nat.le_of_ble_eq_true rfl, Nat.le_of_ble_eq_true rfl⟩ d_Mo_loop_47 (fun H locs kd22 hxkd22 hP R => ?_)
            rw [hP] at R; clear hP hxkd22
            obtain ⟨x24, S23, hF, hE⟩ := fw_b2_ex hE
            refine fw_callV (As := [.int (4 : Int32), .int x21]) (rest := []) C R ft_callV_7_230 yi_Mo_come ys_Mo_come (ct_Mo_come l G kd0 S20 _ _ _ _ _ hk_v0 hF) hk_v0 (by decide) rfl rfl hl.1 rfl (lv_room (Nat.le_of_ble_eq_true rfl)) ⟨Nat.le_of_ble_eq_true rfl, Nat.le_of_ble_eq_true rfl⟩ ⟨Nat.le_of_ble_eq_true rfl, Nat.le_of_ble_eq_true rfl⟩ d_Mo_loop_50 (fun H locs kd25 hxkd25 hP R => ?_)
            rw [hP] at R; clear hP hxkd25
            refine lv_pop hx hb d_Mo_loop_53 rfl ?_
            refine lv_iinc (v := (v3 + (1 : Int32))) (lv' := [(3, .int (v3 + (1 : Int32))), (0, .ref v0), (1, .int v1), (2, .int v2)]) hx hb d_Mo_loop_54 hl (k := 3) rfl rfl (by decide) rfl (fun ls hl => ?_)
            refine lv_goto (tgt := 29) hx hb d_Mo_loop_57 (by decide) ?_
            exact ih _ _ _ _ _ hk_v0 _ _ _ R (lv_sub hl [1, 2, 3, 0] rfl) hE
  unfold F_Mo_loop at hE
  refine lv_iload_n hx hb d_Mo_loop_0 rfl (lv_at hl 1 rfl) ?_
  refine lv_iconst (v := 0) hx hb d_Mo_loop_1 (by decide) ?_
  refine lv_iconst (v := 3) hx hb d_Mo_loop_2 (by decide) ?_
  obtain ⟨x1, hF, hE⟩ := fw_bind hE
  refine fw_callS (As := [.int p1, .int (0 : Int32), .int (3 : Int32)]) (rest := []) C R ft_callS_7_163 yt_Mo_isIn (ct_Mo_isIn l G kd0 S0 _ _ _ _  hF) rfl hl.1 rfl (lv_room (Nat.le_of_ble_eq_true rfl)) ⟨Nat.le_of_ble_eq_true rfl, Nat.le_of_ble_eq_true rfl⟩ ⟨Nat.le_of_ble_eq_true rfl, Nat.le_of_ble_eq_true rfl⟩ d_Mo_loop_3 (fun H locs kd2 hxkd2 hP R => ?_)
  rw [hP] at R; clear hP hxkd2
  refine lv_if_eq (tgt := 13) hx hb d_Mo_loop_6 (by decide) (fun hc => ?_) (fun hc => ?_)
  · replace hE := fw_if_t hc hE
    refine lv_iconst (v := -1) hx hb d_Mo_loop_13 (by decide) ?_
    cases hE
    exact fw_iret C fw_X.rf rfl R d_Mo_loop_14
  · replace hE := fw_if_f hc hE
    refine lv_iload_n hx hb d_Mo_loop_9 rfl (lv_at hl 2 rfl) ?_
    refine lv_if_ge (tgt := 15) hx hb d_Mo_loop_10 (by decide) (fun hc => ?_) (fun hc => ?_)
    · replace hE := fw_if_t hc hE
      refine lv_aload_n hx hb d_Mo_loop_15 rfl (lv_at hl 0 rfl) ?_
      refine fw_getr C R ft_field_7_7 hk_a0 rfl rfl d_Mo_loop_16 (fun hq => ?_) (fun b3 hq hk_b3 => ?_)
      · replace hE := fw_om_none hq hE
        refine lv_iload_n hx hb d_Mo_loop_19 rfl (lv_at hl 1 rfl) ?_
        cases hE
      · replace hE := fw_om_some hq hE
        refine lv_iload_n hx hb d_Mo_loop_19 rfl (lv_at hl 1 rfl) ?_
        obtain ⟨hi4, hE⟩ := fw_ifn hE
        refine fw_zald C R (by decide) hk_b3 hi4 d_Mo_loop_20 ?_
        refine lv_if_ne (tgt := 27) hx hb d_Mo_loop_21 (by decide) (fun hc => ?_) (fun hc => ?_)
        · replace hE := fw_if_f hc hE
          refine lv_iconst (v := 0) hx hb d_Mo_loop_27 (by decide) ?_
          refine lv_istore_n (lv' := [(3, .int (0 : Int32)), (0, .ref a0), (1, .int p1), (2, .int p2)]) hx hb d_Mo_loop_28 rfl hl (by decide) rfl (fun ls hl => ?_)
          exact h_l29 _ _ _ _ _ _ hk_a0 _ _ _ R (lv_sub hl [1, 2, 3, 0] rfl) hE
        · replace hE := fw_if_t hc hE
          refine lv_bipush (v := -2) hx hb d_Mo_loop_24 (by decide) ?_
          cases hE
          exact fw_iret C fw_X.rf rfl R d_Mo_loop_26
    · replace hE := fw_if_f hc hE
      refine lv_iconst (v := -1) hx hb d_Mo_loop_13 (by decide) ?_
      cases hE
      exact fw_iret C fw_X.rf rfl R d_Mo_loop_14
set_option maxHeartbeats 4000000 in
set_option maxRecDepth 100000 in
theorem ct_Mo_up (l : Launch) (G : fw_G) (kd0 : Nat → Option Nat) (S0 : fw_S) (a0 : Nat) (p1 : Int32) (r0 : Int32) (S' : fw_S) (hk_a0 : kd0 a0 = some 7) (hE : F_Mo_up a0 p1 S0 = some (r0, S')) : fw_M l G y_Mo_up prog_9_method_31_code 4 (some .int) 2 48 0 0 kd0 S0 ([.ref a0, .int p1] : List Value) (some (.int r0)) S' (fun k => k = kd0) := by
  refine fw_start (by decide) (Nat.le_of_ble_eq_true rfl) ?_
  intro p e s m below meth c ls C hnm R hl
  clear hnm
  have hx := C.1
  have hb := C.2.1
  have hl : lv_has ls 4 [(0, .ref a0), (1, .int p1)] := hl
  have h_l34 : ∀ (n : Nat), ∀ v0 : Nat, ∀ v1 : Int32, ∀ v2 : Int32, ∀ v3 : Int32, ∀ S0 : fw_S, kd0 v0 = some 7 → ∀ (H : Heap) (locs : List Loc) (ls : Array Slot), fw_R G kd0 S0 H locs → lv_has ls 4 [(0, .ref v0), (1, .int v1), (2, .int v2), (3, .int v3)] → F_Mo_up_l34 n v0 v1 v2 v3 S0 = some (r0, S') → W p l e { frames := 2, cells := 0, slots := 0, locals := 48 } s m ([.ref a0, .int p1] : List Value).toArray below meth c H locs 0 0 (MQ below (fw_Q G kd0 (some (.int r0)) S' (fun k => k = kd0)) ([.ref a0, .int p1] : List Value).toArray s 0 0 (fw_A G)) (F0 m 34 ls []) := by
    intro n
    induction n with
    | zero =>
      intro v0 v1 v2 v3 S0 hk_v0 H locs ls R hl hE
      rw [F_Mo_up_l34] at hE
      cases hE
    | succ n ih =>
      intro v0 v1 v2 v3 S0 hk_v0 H locs ls R hl hE
      rw [F_Mo_up_l34] at hE
      refine lv_iload_n hx hb d_Mo_up_34 rfl (lv_at hl 3 rfl) ?_
      refine lv_aload_n hx hb d_Mo_up_35 rfl (lv_at hl 0 rfl) ?_
      refine fw_get (v := .int (fw_g S0 v0 14)) C R ft_field_7_169 hk_v0 rfl d_Mo_up_36 ?_
      refine lv_icmp_ge (tgt := 90) hx hb d_Mo_up_39 (by decide) (fun hc => ?_) (fun hc => ?_)
      · replace hE := fw_if_t hc hE
        refine lv_iload_n hx hb d_Mo_up_90 rfl (lv_at hl 2 rfl) ?_
        cases hE
        exact fw_iret C fw_X.rf rfl R d_Mo_up_91
      · replace hE := fw_if_f hc hE
        refine lv_aload_n hx hb d_Mo_up_42 rfl (lv_at hl 0 rfl) ?_
        refine fw_getr C R ft_field_7_48 hk_v0 rfl rfl d_Mo_up_43 (fun hq => ?_) (fun b8 hq hk_b8 => ?_)
        · replace hE := fw_om_none hq hE
          refine lv_iload_n hx hb d_Mo_up_46 rfl (lv_at hl 3 rfl) ?_
          cases hE
        · replace hE := fw_om_some hq hE
          refine lv_iload_n hx hb d_Mo_up_46 rfl (lv_at hl 3 rfl) ?_
          obtain ⟨hi9, hE⟩ := fw_ifn hE
          refine fw_iald C R (by decide) hk_b8 hi9 d_Mo_up_47 ?_
          refine lv_if_ne (tgt := 84) hx hb d_Mo_up_48 (by decide) (fun hc => ?_) (fun hc => ?_)
          · replace hE := fw_if_f hc hE
            refine lv_iinc (v := (v3 + (1 : Int32))) (lv' := [(3, .int (v3 + (1 : Int32))), (0, .ref v0), (1, .int v1), (2, .int v2)]) hx hb d_Mo_up_84 hl (k := 3) rfl rfl (by decide) rfl (fun ls hl => ?_)
            refine lv_goto (tgt := 34) hx hb d_Mo_up_87 (by decide) ?_
            exact ih _ _ _ _ _ hk_v0 _ _ _ R (lv_sub hl [1, 2, 3, 0] rfl) hE
          · replace hE := fw_if_t hc hE
            refine lv_aload_n hx hb d_Mo_up_51 rfl (lv_at hl 0 rfl) ?_
            refine fw_getr C R ft_field_7_42 hk_v0 rfl rfl d_Mo_up_52 (fun hq => ?_) (fun b10 hq hk_b10 => ?_)
            · replace hE := fw_om_none hq hE
              refine lv_iload_n hx hb d_Mo_up_55 rfl (lv_at hl 3 rfl) ?_
              cases hE
            · replace hE := fw_om_some hq hE
              refine lv_iload_n hx hb d_Mo_up_55 rfl (lv_at hl 3 rfl) ?_
              obtain ⟨hi11, hE⟩ := fw_ifn hE
              refine fw_iald C R (by decide) hk_b10 hi11 d_Mo_up_56 ?_
              refine lv_iload_n hx hb d_Mo_up_57 rfl (lv_at hl 1 rfl) ?_
              refine lv_icmp_ne (tgt := 84) hx hb d_Mo_up_58 (by decide) (fun hc => ?_) (fun hc => ?_)
              · replace hE := fw_if_f hc hE
                refine lv_iinc (v := (v3 + (1 : Int32))) (lv' := [(3, .int (v3 + (1 : Int32))), (0, .ref v0), (1, .int v1), (2, .int v2)]) hx hb d_Mo_up_84 hl (k := 3) rfl rfl (by decide) rfl (fun ls hl => ?_)
                refine lv_goto (tgt := 34) hx hb d_Mo_up_87 (by decide) ?_
                exact ih _ _ _ _ _ hk_v0 _ _ _ R (lv_sub hl [1, 2, 3, 0] rfl) hE
              · replace hE := fw_if_t hc hE
                refine lv_aload_n hx hb d_Mo_up_61 rfl (lv_at hl 0 rfl) ?_
                refine fw_getr C R ft_field_7_90 hk_v0 rfl rfl d_Mo_up_62 (fun hq => ?_) (fun b12 hq hk_b12 => ?_)
                · replace hE := fw_om_none hq hE
                  refine lv_iload_n hx hb d_Mo_up_65 rfl (lv_at hl 3 rfl) ?_
                  refine lv_iconst (v := 0) hx hb d_Mo_up_66 (by decide) ?_
                  cases hE
                · replace hE := fw_om_some hq hE
                  refine lv_iload_n hx hb d_Mo_up_65 rfl (lv_at hl 3 rfl) ?_
                  refine lv_iconst (v := 0) hx hb d_Mo_up_66 (by decide) ?_
                  obtain ⟨hi13, hE⟩ := fw_ifn hE
                  refine fw_iast C R (by decide) hk_b12 hi13 d_Mo_up_67 (fun H locs R => ?_)
                  obtain ⟨S14, eS14, hE⟩ := fw_let_ex hE
                  rw [← eS14] at R
                  clear eS14
                  refine lv_aload_n hx hb d_Mo_up_68 rfl (lv_at hl 0 rfl) ?_
                  refine lv_iload_n hx hb d_Mo_up_69 rfl (lv_at hl 3 rfl) ?_
                  obtain ⟨x16, S15, hF, hE⟩ := fw_b2_ex hE
                  refine fw_callV (As := [.int v3]) (rest := []) C R ft_callV_7_155 yi_Mo_sendLast ys_Mo_sendLast (ct_Mo_sendLast l G kd0 S14 _ _ _ _ hk_v0 hF) hk_v0 (by decide) rfl rfl hl.1 rfl (lv_room (Nat.le_of_ble_eq_true rfl)) ⟨Nat.le_of_ble_eq_true rfl, Nat.le_of_ble_eq_true rfl⟩ ⟨Nat.le_of_ble_eq_true rfl, Nat.le_of_ble_eq_true rfl⟩ d_Mo_up_70 (fun H locs kd17 hxkd17 hP R => ?_)
                  rw [hP] at R; clear hP hxkd17
                  refine lv_if_eq (tgt := 82) hx hb d_Mo_up_73 (by decide) (fun hc => ?_) (fun hc => ?_)
                  · replace hE := fw_if_t hc hE
                    refine lv_iload_n hx hb d_Mo_up_82 rfl (lv_at hl 2 rfl) ?_
                    refine lv_istore_n (lv' := [(2, .int v2), (0, .ref v0), (1, .int v1), (3, .int v3)]) hx hb d_Mo_up_83 rfl hl (by decide) rfl (fun ls hl => ?_)
                    refine lv_iinc (v := (v3 + (1 : Int32))) (lv' := [(3, .int (v3 + (1 : Int32))), (2, .int v2), (0, .ref v0), (1, .int v1)]) hx hb d_Mo_up_84 hl (k := 3) rfl rfl (by decide) rfl (fun ls hl => ?_)
                    refine lv_goto (tgt := 34) hx hb d_Mo_up_87 (by decide) ?_
                    exact ih _ _ _ _ _ hk_v0 _ _ _ R (lv_sub hl [2, 3, 1, 0] rfl) hE
                  · replace hE := fw_if_f hc hE
                    refine lv_iload_n hx hb d_Mo_up_76 rfl (lv_at hl 2 rfl) ?_
                    refine lv_iconst (v := 1) hx hb d_Mo_up_77 (by decide) ?_
                    refine lv_iadd hx hb d_Mo_up_78 ?_
                    refine lv_goto (tgt := 83) hx hb d_Mo_up_79 (by decide) ?_
                    refine lv_topi (fun x18 ex18 => ?_)
                    replace hE := fw_let_use ex18 hE
                    clear ex18
                    refine lv_istore_n (lv' := [(2, .int x18), (0, .ref v0), (1, .int v1), (3, .int v3)]) hx hb d_Mo_up_83 rfl hl (by decide) rfl (fun ls hl => ?_)
                    refine lv_iinc (v := (v3 + (1 : Int32))) (lv' := [(3, .int (v3 + (1 : Int32))), (2, .int x18), (0, .ref v0), (1, .int v1)]) hx hb d_Mo_up_84 hl (k := 3) rfl rfl (by decide) rfl (fun ls hl => ?_)
                    refine lv_goto (tgt := 34) hx hb d_Mo_up_87 (by decide) ?_
                    exact ih _ _ _ _ _ hk_v0 _ _ _ R (lv_sub hl [2, 3, 1, 0] rfl) hE
  unfold F_Mo_up at hE
  refine lv_iload_n hx hb d_Mo_up_0 rfl (lv_at hl 1 rfl) ?_
  refine lv_iconst (v := 0) hx hb d_Mo_up_1 (by decide) ?_
  refine lv_iconst (v := 3) hx hb d_Mo_up_2 (by decide) ?_
  obtain ⟨x1, hF, hE⟩ := fw_bind hE
  refine fw_callS (As := [.int p1, .int (0 : Int32), .int (3 : Int32)]) (rest := []) C R ft_callS_7_163 yt_Mo_isIn (ct_Mo_isIn l G kd0 S0 _ _ _ _  hF) rfl hl.1 rfl (lv_room (Nat.le_of_ble_eq_true rfl)) ⟨Nat.le_of_ble_eq_true rfl, Nat.le_of_ble_eq_true rfl⟩ ⟨Nat.le_of_ble_eq_true rfl, Nat.le_of_ble_eq_true rfl⟩ d_Mo_up_3 (fun H locs kd2 hxkd2 hP R => ?_)
  rw [hP] at R; clear hP hxkd2
  refine lv_if_ne (tgt := 11) hx hb d_Mo_up_6 (by decide) (fun hc => ?_) (fun hc => ?_)
  · replace hE := fw_if_f hc hE
    refine lv_aload_n hx hb d_Mo_up_11 rfl (lv_at hl 0 rfl) ?_
    refine fw_getr C R ft_field_7_7 hk_a0 rfl rfl d_Mo_up_12 (fun hq => ?_) (fun b3 hq hk_b3 => ?_)
    · replace hE := fw_om_none hq hE
      refine lv_iload_n hx hb d_Mo_up_15 rfl (lv_at hl 1 rfl) ?_
      cases hE
    · replace hE := fw_om_some hq hE
      refine lv_iload_n hx hb d_Mo_up_15 rfl (lv_at hl 1 rfl) ?_
      obtain ⟨hi4, hE⟩ := fw_ifn hE
      refine fw_zald C R (by decide) hk_b3 hi4 d_Mo_up_16 ?_
      refine lv_if_eq (tgt := 23) hx hb d_Mo_up_17 (by decide) (fun hc => ?_) (fun hc => ?_)
      · replace hE := fw_if_t hc hE
        refine lv_aload_n hx hb d_Mo_up_23 rfl (lv_at hl 0 rfl) ?_
        refine fw_getr C R ft_field_7_7 hk_a0 rfl rfl d_Mo_up_24 (fun hq => ?_) (fun b5 hq hk_b5 => ?_)
        · replace hE := fw_om_none hq hE
          refine lv_iload_n hx hb d_Mo_up_27 rfl (lv_at hl 1 rfl) ?_
          refine lv_iconst (v := 1) hx hb d_Mo_up_28 (by decide) ?_
          cases hE
        · replace hE := fw_om_some hq hE
          refine lv_iload_n hx hb d_Mo_up_27 rfl (lv_at hl 1 rfl) ?_
          refine lv_iconst (v := 1) hx hb d_Mo_up_28 (by decide) ?_
          obtain ⟨hi6, hE⟩ := fw_ifn hE
          refine fw_zast C R (by decide) hk_b5 (by decide) hi6 d_Mo_up_29 (fun H locs R => ?_)
          obtain ⟨S7, eS7, hE⟩ := fw_let_ex hE
          rw [← eS7] at R
          clear eS7
          refine lv_iconst (v := 0) hx hb d_Mo_up_30 (by decide) ?_
          refine lv_istore_n (lv' := [(2, .int (0 : Int32)), (0, .ref a0), (1, .int p1)]) hx hb d_Mo_up_31 rfl hl (by decide) rfl (fun ls hl => ?_)
          refine lv_iconst (v := 0) hx hb d_Mo_up_32 (by decide) ?_
          refine lv_istore_n (lv' := [(3, .int (0 : Int32)), (2, .int (0 : Int32)), (0, .ref a0), (1, .int p1)]) hx hb d_Mo_up_33 rfl hl (by decide) rfl (fun ls hl => ?_)
          exact h_l34 _ _ _ _ _ _ hk_a0 _ _ _ R (lv_sub hl [2, 3, 1, 0] rfl) hE
      · replace hE := fw_if_f hc hE
        refine lv_bipush (v := -2) hx hb d_Mo_up_20 (by decide) ?_
        cases hE
        exact fw_iret C fw_X.rf rfl R d_Mo_up_22
  · replace hE := fw_if_t hc hE
    refine lv_iconst (v := -1) hx hb d_Mo_up_9 (by decide) ?_
    cases hE
    exact fw_iret C fw_X.rf rfl R d_Mo_up_10
