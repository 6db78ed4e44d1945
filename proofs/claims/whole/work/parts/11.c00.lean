set_option maxHeartbeats 4000000 in
set_option maxRecDepth 100000 in
theorem ct_Frame_init (l : Launch) (G : fw_G) (kd0 : Nat → Option Nat) (S0 : fw_S) (a0 : Nat) (S' : fw_S) (hk_a0 : kd0 a0 = some 0) (hE : F_Frame_init a0 S0 = some S') : fw_M l G y_Frame_init prog_2_method_1_code 1 none 1 20 1 18 kd0 S0 ([.ref a0] : List Value) none S' (fun _ => True) := by
  refine fw_start (by decide) (Nat.le_of_ble_eq_true rfl) ?_
  intro p e s m below meth c ls C hnm R hl
  have hx := C.1
  have hb := C.2.1
  have hl : lv_has ls 1 [(0, .ref a0)] := hl
  unfold F_Frame_init at hE
  refine lv_aload_n hx hb d_Frame_init_0 rfl (lv_at hl 0 rfl) ?_
  refine fw_obj C ft_obj_0_3 ob_1 ob_2 hl.1 d_Frame_init_1 (Nat.le_of_ble_eq_true rfl) (Nat.le_of_ble_eq_true rfl) ?_
  refine lv_aload_n hx hb d_Frame_init_4 rfl (lv_at hl 0 rfl) ?_
  refine lv_iconst (v := 0) hx hb d_Frame_init_5 (by decide) ?_
  refine fw_puti C R ft_field_0_9 rfl hk_a0 d_Frame_init_6 (fun H locs R => ?_)
  obtain ⟨S1, eS1, hE⟩ := fw_let_ex hE
  rw [← eS1] at R
  clear eS1
  refine lv_aload_n hx hb d_Frame_init_9 rfl (lv_at hl 0 rfl) ?_
  refine lv_iconst (v := 0) hx hb d_Frame_init_10 (by decide) ?_
  refine fw_puti C R ft_field_0_15 rfl hk_a0 d_Frame_init_11 (fun H locs R => ?_)
  obtain ⟨S2, eS2, hE⟩ := fw_let_ex hE
  rw [← eS2] at R
  clear eS2
  refine lv_aload_n hx hb d_Frame_init_14 rfl (lv_at hl 0 rfl) ?_
  refine lv_iconst (v := 0) hx hb d_Frame_init_15 (by decide) ?_
  refine fw_puti C R ft_field_0_18 rfl hk_a0 d_Frame_init_16 (fun H locs R => ?_)
  obtain ⟨S3, eS3, hE⟩ := fw_let_ex hE
  rw [← eS3] at R
  clear eS3
  refine lv_aload_n hx hb d_Frame_init_19 rfl (lv_at hl 0 rfl) ?_
  refine lv_bipush (v := 18) hx hb d_Frame_init_20 (by decide) ?_
  refine fw_newai C R (by decide) (by decide) (by decide) (by decide) d_Frame_init_22 (fun H kd6 hxkd6 hk_new R => ?_)
  refine W.widen (k := 1) (n := 18) (by decide) (by decide) ?_
  obtain ⟨b5, eb5, hE⟩ := fw_let_ex hE
  obtain ⟨S4, eS4, hE⟩ := fw_let_ex hE
  rw [← eS4] at R
  rw [← eb5] at hk_new ⊢
  have hk_b5 := hk_new
  have hXkd6 := fw_X.tr fw_X.rf hxkd6
  have hk_a0 := hxkd6 _ _ hk_a0
  clear eS4 eb5 hk_new
  refine fw_putFr C hnm R ft_field_0_21 rfl ft_nonest_0_21 rfl rfl (by decide) hk_b5 hk_a0 d_Frame_init_24 (fun H locs R => ?_)
  obtain ⟨S7, eS7, hE⟩ := fw_let_ex hE
  rw [← eS7] at R
  clear eS7
  cases hE
  refine W.widen (k := 1) (n := 18) (Nat.le_of_ble_eq_true rfl) (Nat.le_of_ble_eq_true rfl) ?_
  exact fw_vret C hXkd6 trivial R d_Frame_init_27
set_option maxHeartbeats 4000000 in
set_option maxRecDepth 100000 in
theorem ct_Frame_begin (l : Launch) (G : fw_G) (kd0 : Nat → Option Nat) (S0 : fw_S) (a0 : Nat) (p1 : Int32) (p2 : Int32) (S' : fw_S) (hk_a0 : kd0 a0 = some 0) (hE : F_Frame_begin a0 p1 p2 S0 = some S') : fw_M l G y_Frame_begin prog_2_method_2_code 3 none 0 0 0 0 kd0 S0 ([.ref a0, .int p1, .int p2] : List Value) none S' (fun k => k = kd0) := by
  refine fw_start (by decide) (Nat.le_of_ble_eq_true rfl) ?_
  intro p e s m below meth c ls C hnm R hl
  clear hnm
  have hx := C.1
  have hb := C.2.1
  have hl : lv_has ls 3 [(0, .ref a0), (1, .int p1), (2, .int p2)] := hl
  unfold F_Frame_begin at hE
  refine lv_aload_n hx hb d_Frame_begin_0 rfl (lv_at hl 0 rfl) ?_
  refine lv_iload_n hx hb d_Frame_begin_1 rfl (lv_at hl 1 rfl) ?_
  refine fw_puti C R ft_field_0_9 rfl hk_a0 d_Frame_begin_2 (fun H locs R => ?_)
  obtain ⟨S1, eS1, hE⟩ := fw_let_ex hE
  rw [← eS1] at R
  clear eS1
  refine lv_aload_n hx hb d_Frame_begin_5 rfl (lv_at hl 0 rfl) ?_
  refine lv_iload_n hx hb d_Frame_begin_6 rfl (lv_at hl 2 rfl) ?_
  refine fw_puti C R ft_field_0_15 rfl hk_a0 d_Frame_begin_7 (fun H locs R => ?_)
  obtain ⟨S2, eS2, hE⟩ := fw_let_ex hE
  rw [← eS2] at R
  clear eS2
  refine lv_aload_n hx hb d_Frame_begin_10 rfl (lv_at hl 0 rfl) ?_
  refine lv_iconst (v := 0) hx hb d_Frame_begin_11 (by decide) ?_
  refine fw_puti C R ft_field_0_18 rfl hk_a0 d_Frame_begin_12 (fun H locs R => ?_)
  obtain ⟨S3, eS3, hE⟩ := fw_let_ex hE
  rw [← eS3] at R
  clear eS3
  cases hE
  exact fw_vret C fw_X.rf rfl R d_Frame_begin_15
set_option maxHeartbeats 4000000 in
set_option maxRecDepth 100000 in
theorem ct_Frame_put (l : Launch) (G : fw_G) (kd0 : Nat → Option Nat) (S0 : fw_S) (a0 : Nat) (p1 : Int32) (S' : fw_S) (hk_a0 : kd0 a0 = some 0) (hE : F_Frame_put a0 p1 S0 = some S') : fw_M l G y_Frame_put prog_2_method_3_code 2 none 0 0 0 0 kd0 S0 ([.ref a0, .int p1] : List Value) none S' (fun k => k = kd0) := by
  refine fw_start (by decide) (Nat.le_of_ble_eq_true rfl) ?_
  intro p e s m below meth c ls C hnm R hl
  clear hnm
  have hx := C.1
  have hb := C.2.1
  have hl : lv_has ls 2 [(0, .ref a0), (1, .int p1)] := hl
  unfold F_Frame_put at hE
  refine lv_aload_n hx hb d_Frame_put_0 rfl (lv_at hl 0 rfl) ?_
  refine fw_get (v := .int (fw_g S0 a0 2)) C R ft_field_0_18 hk_a0 rfl d_Frame_put_1 ?_
  refine lv_if_lt (tgt := 43) hx hb d_Frame_put_4 (by decide) (fun hc => ?_) (fun hc => ?_)
  · replace hE := fw_if_t hc hE
    cases hE
    exact fw_vret C fw_X.rf rfl R d_Frame_put_43
  · replace hE := fw_if_f hc hE
    refine lv_aload_n hx hb d_Frame_put_7 rfl (lv_at hl 0 rfl) ?_
    refine fw_get (v := .int (fw_g S0 a0 2)) C R ft_field_0_18 hk_a0 rfl d_Frame_put_8 ?_
    refine lv_aload_n hx hb d_Frame_put_11 rfl (lv_at hl 0 rfl) ?_
    refine fw_getr C R ft_field_0_21 hk_a0 rfl rfl d_Frame_put_12 (fun hq => ?_) (fun b1 hq hk_b1 => ?_)
    · replace hE := fw_om_none hq hE
      cases hE
    · replace hE := fw_om_some hq hE
      refine fw_alen (K := 100) (ty := .int) C R (by decide) (by decide) hk_b1 d_Frame_put_15 ?_
      refine lv_icmp_ge (tgt := 43) hx hb d_Frame_put_16 (by decide) (fun hc => ?_) (fun hc => ?_)
      · replace hE := fw_if_t hc hE
        cases hE
        exact fw_vret C fw_X.rf rfl R d_Frame_put_43
      · replace hE := fw_if_f hc hE
        refine lv_aload_n hx hb d_Frame_put_19 rfl (lv_at hl 0 rfl) ?_
        refine fw_getr C R ft_field_0_21 hk_a0 rfl rfl d_Frame_put_20 (fun hq => ?_) (fun b2 hq hk_b2 => ?_)
        · replace hE := fw_om_none hq hE
          refine lv_aload_n hx hb d_Frame_put_23 rfl (lv_at hl 0 rfl) ?_
          refine fw_get (v := .int (fw_g S0 a0 2)) C R ft_field_0_18 hk_a0 rfl d_Frame_put_24 ?_
          refine lv_iload_n hx hb d_Frame_put_27 rfl (lv_at hl 1 rfl) ?_
          refine lv_sipush (v := 255) hx hb d_Frame_put_28 (by decide) ?_
          refine lv_iand hx hb d_Frame_put_31 ?_
          cases hE
        · replace hE := fw_om_some hq hE
          refine lv_aload_n hx hb d_Frame_put_23 rfl (lv_at hl 0 rfl) ?_
          refine fw_get (v := .int (fw_g S0 a0 2)) C R ft_field_0_18 hk_a0 rfl d_Frame_put_24 ?_
          refine lv_iload_n hx hb d_Frame_put_27 rfl (lv_at hl 1 rfl) ?_
          refine lv_sipush (v := 255) hx hb d_Frame_put_28 (by decide) ?_
          refine lv_iand hx hb d_Frame_put_31 ?_
          obtain ⟨hi3, hE⟩ := fw_ifn hE
          refine fw_iast C R (by decide) hk_b2 hi3 d_Frame_put_32 (fun H locs R => ?_)
          obtain ⟨S4, eS4, hE⟩ := fw_let_ex hE
          rw [← eS4] at R
          clear eS4
          refine lv_aload_n hx hb d_Frame_put_33 rfl (lv_at hl 0 rfl) ?_
          refine lv_dup hx hb d_Frame_put_34 rfl ?_
          refine fw_get (v := .int (fw_g S4 a0 2)) C R ft_field_0_18 hk_a0 rfl d_Frame_put_35 ?_
          refine lv_iconst (v := 1) hx hb d_Frame_put_38 (by decide) ?_
          refine lv_iadd hx hb d_Frame_put_39 ?_
          refine fw_puti C R ft_field_0_18 rfl hk_a0 d_Frame_put_40 (fun H locs R => ?_)
          obtain ⟨S5, eS5, hE⟩ := fw_let_ex hE
          rw [← eS5] at R
          clear eS5
          cases hE
          exact fw_vret C fw_X.rf rfl R d_Frame_put_43
set_option maxHeartbeats 4000000 in
set_option maxRecDepth 100000 in
theorem ct_Frame_byteAt (l : Launch) (G : fw_G) (kd0 : Nat → Option Nat) (S0 : fw_S) (a0 : Nat) (p1 : Int32) (r0 : Int32) (hk_a0 : kd0 a0 = some 0) (hE : F_Frame_byteAt a0 p1 S0 = some r0) : fw_M l G y_Frame_byteAt prog_2_method_4_code 2 (some .int) 0 0 0 0 kd0 S0 ([.ref a0, .int p1] : List Value) (some (.int r0)) S0 (fun k => k = kd0) := by
  refine fw_start (by decide) (Nat.le_of_ble_eq_true rfl) ?_
  intro p e s m below meth c ls C hnm R hl
  clear hnm
  have hx := C.1
  have hb := C.2.1
  have hl : lv_has ls 2 [(0, .ref a0), (1, .int p1)] := hl
  unfold F_Frame_byteAt at hE
  refine lv_iload_n hx hb d_Frame_byteAt_0 rfl (lv_at hl 1 rfl) ?_
  refine lv_if_lt (tgt := 30) hx hb d_Frame_byteAt_1 (by decide) (fun hc => ?_) (fun hc => ?_)
  · replace hE := fw_if_t hc hE
    refine lv_iconst (v := 0) hx hb d_Frame_byteAt_30 (by decide) ?_
    cases hE
    exact fw_iret C fw_X.rf rfl R d_Frame_byteAt_31
  · replace hE := fw_if_f hc hE
    refine lv_iload_n hx hb d_Frame_byteAt_4 rfl (lv_at hl 1 rfl) ?_
    refine lv_aload_n hx hb d_Frame_byteAt_5 rfl (lv_at hl 0 rfl) ?_
    refine fw_get (v := .int (fw_g S0 a0 2)) C R ft_field_0_18 hk_a0 rfl d_Frame_byteAt_6 ?_
    refine lv_icmp_ge (tgt := 30) hx hb d_Frame_byteAt_9 (by decide) (fun hc => ?_) (fun hc => ?_)
    · replace hE := fw_if_t hc hE
      refine lv_iconst (v := 0) hx hb d_Frame_byteAt_30 (by decide) ?_
      cases hE
      exact fw_iret C fw_X.rf rfl R d_Frame_byteAt_31
    · replace hE := fw_if_f hc hE
      refine lv_iload_n hx hb d_Frame_byteAt_12 rfl (lv_at hl 1 rfl) ?_
      refine lv_aload_n hx hb d_Frame_byteAt_13 rfl (lv_at hl 0 rfl) ?_
      refine fw_getr C R ft_field_0_21 hk_a0 rfl rfl d_Frame_byteAt_14 (fun hq => ?_) (fun b1 hq hk_b1 => ?_)
      · replace hE := fw_om_none hq hE
        cases hE
      · replace hE := fw_om_some hq hE
        refine fw_alen (K := 100) (ty := .int) C R (by decide) (by decide) hk_b1 d_Frame_byteAt_17 ?_
        refine lv_icmp_ge (tgt := 30) hx hb d_Frame_byteAt_18 (by decide) (fun hc => ?_) (fun hc => ?_)
        · replace hE := fw_if_t hc hE
          refine lv_iconst (v := 0) hx hb d_Frame_byteAt_30 (by decide) ?_
          cases hE
          exact fw_iret C fw_X.rf rfl R d_Frame_byteAt_31
        · replace hE := fw_if_f hc hE
          refine lv_aload_n hx hb d_Frame_byteAt_21 rfl (lv_at hl 0 rfl) ?_
          refine fw_getr C R ft_field_0_21 hk_a0 rfl rfl d_Frame_byteAt_22 (fun hq => ?_) (fun b2 hq hk_b2 => ?_)
          · replace hE := fw_om_none hq hE
            refine lv_iload_n hx hb d_Frame_byteAt_25 rfl (lv_at hl 1 rfl) ?_
            cases hE
          · replace hE := fw_om_some hq hE
            refine lv_iload_n hx hb d_Frame_byteAt_25 rfl (lv_at hl 1 rfl) ?_
            obtain ⟨hi3, hE⟩ := fw_ifn hE
            refine fw_iald C R (by decide) hk_b2 hi3 d_Frame_byteAt_26 ?_
            refine lv_goto (tgt := 31) hx hb d_Frame_byteAt_27 (by decide) ?_
            cases hE
            exact fw_iret C fw_X.rf rfl R d_Frame_byteAt_31
set_option maxHeartbeats 4000000 in
set_option maxRecDepth 100000 in
theorem ct_Frame_sum (l : Launch) (G : fw_G) (kd0 : Nat → Option Nat) (S0 : fw_S) (a0 : Nat) (r0 : Int32) (hk_a0 : kd0 a0 = some 0) (hE : F_Frame_sum a0 S0 = some r0) : fw_M l G y_Frame_sum prog_2_method_5_code 3 (some .int) 0 0 0 0 kd0 S0 ([.ref a0] : List Value) (some (.int r0)) S0 (fun k => k = kd0) := by
  refine fw_start (by decide) (Nat.le_of_ble_eq_true rfl) ?_
  intro p e s m below meth c ls C hnm R hl
  clear hnm
  have hx := C.1
  have hb := C.2.1
  have hl : lv_has ls 3 [(0, .ref a0)] := hl
  have h_l17 : ∀ (n : Nat), ∀ v0 : Nat, ∀ v1 : Int32, ∀ v2 : Int32, kd0 v0 = some 0 → ∀ (H : Heap) (locs : List Loc) (ls : Array Slot), fw_R G kd0 S0 H locs → lv_has ls 3 [(0, .ref v0), (1, .int v1), (2, .int v2)] → F_Frame_sum_l17 S0 n v0 v1 v2 = some r0 → W p l e { frames := 0, cells := 0, slots := 0, locals := 0 } s m ([.ref a0] : List Value).toArray below meth c H locs 0 0 (MQ below (fw_Q G kd0 (some (.int r0)) S0 (fun k => k = kd0)) ([.ref a0] : List Value).toArray s 0 0 (fw_A G)) (F0 m 17 ls []) := by
    intro n
    induction n with
    | zero =>
      intro v0 v1 v2 hk_v0 H locs ls R hl hE
      rw [F_Frame_sum_l17] at hE
      cases hE
    | succ n ih =>
      intro v0 v1 v2 hk_v0 H locs ls R hl hE
      rw [F_Frame_sum_l17] at hE
      refine lv_iload_n hx hb d_Frame_sum_17 rfl (lv_at hl 2 rfl) ?_
      refine lv_aload_n hx hb d_Frame_sum_18 rfl (lv_at hl 0 rfl) ?_
      refine fw_get (v := .int (fw_g S0 v0 2)) C R ft_field_0_18 hk_v0 rfl d_Frame_sum_19 ?_
      refine lv_icmp_ge (tgt := 49) hx hb d_Frame_sum_22 (by decide) (fun hc => ?_) (fun hc => ?_)
      · replace hE := fw_if_t hc hE
        refine lv_iload_n hx hb d_Frame_sum_49 rfl (lv_at hl 1 rfl) ?_
        cases hE
        exact fw_iret C fw_X.rf rfl R d_Frame_sum_50
      · replace hE := fw_if_f hc hE
        refine lv_iload_n hx hb d_Frame_sum_25 rfl (lv_at hl 2 rfl) ?_
        refine lv_aload_n hx hb d_Frame_sum_26 rfl (lv_at hl 0 rfl) ?_
        refine fw_getr C R ft_field_0_21 hk_v0 rfl rfl d_Frame_sum_27 (fun hq => ?_) (fun b2 hq hk_b2 => ?_)
        · replace hE := fw_om_none hq hE
          cases hE
        · replace hE := fw_om_some hq hE
          refine fw_alen (K := 100) (ty := .int) C R (by decide) (by decide) hk_b2 d_Frame_sum_30 ?_
          refine lv_icmp_ge (tgt := 49) hx hb d_Frame_sum_31 (by decide) (fun hc => ?_) (fun hc => ?_)
          · replace hE := fw_if_t hc hE
            refine lv_iload_n hx hb d_Frame_sum_49 rfl (lv_at hl 1 rfl) ?_
            cases hE
            exact fw_iret C fw_X.rf rfl R d_Frame_sum_50
          · replace hE := fw_if_f hc hE
            refine lv_iload_n hx hb d_Frame_sum_34 rfl (lv_at hl 1 rfl) ?_
            refine lv_aload_n hx hb d_Frame_sum_35 rfl (lv_at hl 0 rfl) ?_
            refine fw_getr C R ft_field_0_21 hk_v0 rfl rfl d_Frame_sum_36 (fun hq => ?_) (fun b3 hq hk_b3 => ?_)
            · replace hE := fw_om_none hq hE
              refine lv_iload_n hx hb d_Frame_sum_39 rfl (lv_at hl 2 rfl) ?_
              cases hE
            · replace hE := fw_om_some hq hE
              refine lv_iload_n hx hb d_Frame_sum_39 rfl (lv_at hl 2 rfl) ?_
              obtain ⟨hi4, hE⟩ := fw_ifn hE
              refine fw_iald C R (by decide) hk_b3 hi4 d_Frame_sum_40 ?_
              refine lv_ixor hx hb d_Frame_sum_41 ?_
              refine lv_topi (fun x5 ex5 => ?_)
              replace hE := fw_let_use ex5 hE
              clear ex5
              refine lv_istore_n (lv' := [(1, .int x5), (0, .ref v0), (2, .int v2)]) hx hb d_Frame_sum_42 rfl hl (by decide) rfl (fun ls hl => ?_)
              refine lv_iinc (v := (v2 + (1 : Int32))) (lv' := [(2, .int (v2 + (1 : Int32))), (1, .int x5), (0, .ref v0)]) hx hb d_Frame_sum_43 hl (k := 2) rfl rfl (by decide) rfl (fun ls hl => ?_)
              refine lv_goto (tgt := 17) hx hb d_Frame_sum_46 (by decide) ?_
              exact ih _ _ _ hk_v0 _ _ _ R (lv_sub hl [2, 1, 0] rfl) hE
  unfold F_Frame_sum at hE
  refine lv_aload_n hx hb d_Frame_sum_0 rfl (lv_at hl 0 rfl) ?_
  refine fw_get (v := .int (fw_g S0 a0 0)) C R ft_field_0_9 hk_a0 rfl d_Frame_sum_1 ?_
  refine lv_aload_n hx hb d_Frame_sum_4 rfl (lv_at hl 0 rfl) ?_
  refine fw_get (v := .int (fw_g S0 a0 1)) C R ft_field_0_15 hk_a0 rfl d_Frame_sum_5 ?_
  refine lv_ixor hx hb d_Frame_sum_8 ?_
  refine lv_aload_n hx hb d_Frame_sum_9 rfl (lv_at hl 0 rfl) ?_
  refine fw_get (v := .int (fw_g S0 a0 2)) C R ft_field_0_18 hk_a0 rfl d_Frame_sum_10 ?_
  refine lv_ixor hx hb d_Frame_sum_13 ?_
  refine lv_topi (fun x1 ex1 => ?_)
  replace hE := fw_let_use ex1 hE
  clear ex1
  refine lv_istore_n (lv' := [(1, .int x1), (0, .ref a0)]) hx hb d_Frame_sum_14 rfl hl (by decide) rfl (fun ls hl => ?_)
  refine lv_iconst (v := 0) hx hb d_Frame_sum_15 (by decide) ?_
  refine lv_istore_n (lv' := [(2, .int (0 : Int32)), (1, .int x1), (0, .ref a0)]) hx hb d_Frame_sum_16 rfl hl (by decide) rfl (fun ls hl => ?_)
  exact h_l17 _ _ _ _ hk_a0 _ _ _ R (lv_sub hl [2, 1, 0] rfl) hE
set_option maxHeartbeats 4000000 in
set_option maxRecDepth 100000 in
theorem ct_Pairs_init (l : Launch) (G : fw_G) (kd0 : Nat → Option Nat) (S0 : fw_S) (a0 : Nat) (p1 : Int32) (S' : fw_S) (hk_a0 : kd0 a0 = some 2) (hE : F_Pairs_init a0 p1 S0 = some S') : fw_M l G y_Pairs_init prog_4_method_1_code 3 none 1 21 2 128 kd0 S0 ([.ref a0, .int p1] : List Value) none S' (fun _ => True) := by
  refine fw_start (by decide) (Nat.le_of_ble_eq_true rfl) ?_
  intro p e s m below meth c ls C hnm R hl
  have hx := C.1
  have hb := C.2.1
  have hl : lv_has ls 3 [(0, .ref a0), (1, .int p1)] := hl
  unfold F_Pairs_init at hE
  refine lv_aload_n hx hb d_Pairs_init_0 rfl (lv_at hl 0 rfl) ?_
  refine fw_obj C ft_obj_2_3 ob_1 ob_2 hl.1 d_Pairs_init_1 (Nat.le_of_ble_eq_true rfl) (Nat.le_of_ble_eq_true rfl) ?_
  refine lv_aload_n hx hb d_Pairs_init_4 rfl (lv_at hl 0 rfl) ?_
  refine lv_iconst (v := 0) hx hb d_Pairs_init_5 (by decide) ?_
  refine fw_puti C R ft_field_2_9 rfl hk_a0 d_Pairs_init_6 (fun H locs R => ?_)
  obtain ⟨S1, eS1, hE⟩ := fw_let_ex hE
  rw [← eS1] at R
  clear eS1
  refine lv_iload_n hx hb d_Pairs_init_9 rfl (lv_at hl 1 rfl) ?_
  refine lv_iconst (v := 0) hx hb d_Pairs_init_10 (by decide) ?_
  refine fw_max C ft_max_2_15 mmax_1 mmax_2 mmax_3 hl.1 (Nat.le_of_ble_eq_true rfl) (Nat.le_of_ble_eq_true rfl) (Nat.le_of_ble_eq_true rfl) (Nat.le_of_ble_eq_true rfl) d_Pairs_init_11 ?_
  refine lv_topi (fun x2 ex2 => ?_)
  replace hE := fw_let_use ex2 hE
  clear ex2
  refine lv_istore_n (lv' := [(2, .int x2), (0, .ref a0), (1, .int p1)]) hx hb d_Pairs_init_14 rfl hl (by decide) rfl (fun ls hl => ?_)
  refine lv_aload_n hx hb d_Pairs_init_15 rfl (lv_at hl 1 rfl) ?_
  refine lv_iload_n hx hb d_Pairs_init_16 rfl (lv_at hl 0 rfl) ?_
  obtain ⟨hb3, hE⟩ := fw_ifn hE
  refine fw_newai C R (fun q => hb3 (Or.inl q)) (fw_bd1 hb3) (by decide) (fw_bd2 hb3 (by decide)) d_Pairs_init_17 (fun H kd6 hxkd6 hk_new R => ?_)
  refine W.widen (k := 1) (n := 64) (by decide) (fw_bd3 hb3) ?_
  obtain ⟨b5, eb5, hE⟩ := fw_let_ex hE
  obtain ⟨S4, eS4, hE⟩ := fw_let_ex hE
  rw [← eS4] at R
  rw [← eb5] at hk_new ⊢
  have hk_b5 := hk_new
  have hXkd6 := fw_X.tr fw_X.rf hxkd6
  have hk_a0 := hxkd6 _ _ hk_a0
  clear eS4 eb5 hk_new
  refine fw_putFr C hnm R ft_field_2_21 rfl ft_nonest_2_21 rfl rfl (by decide) hk_b5 hk_a0 d_Pairs_init_19 (fun H locs R => ?_)
  obtain ⟨S7, eS7, hE⟩ := fw_let_ex hE
  rw [← eS7] at R
  clear eS7
  refine lv_aload_n hx hb d_Pairs_init_22 rfl (lv_at hl 1 rfl) ?_
  refine lv_iload_n hx hb d_Pairs_init_23 rfl (lv_at hl 0 rfl) ?_
  obtain ⟨hb8, hE⟩ := fw_ifn hE
  refine fw_newai C R (fun q => hb8 (Or.inl q)) (fw_bd1 hb8) (by decide) (fw_bd2 hb8 (by decide)) d_Pairs_init_24 (fun H kd11 hxkd11 hk_new R => ?_)
  refine W.widen (k := 2) (n := 128) (by decide) (fw_bd3 hb8) ?_
  obtain ⟨b10, eb10, hE⟩ := fw_let_ex hE
  obtain ⟨S9, eS9, hE⟩ := fw_let_ex hE
  rw [← eS9] at R
  rw [← eb10] at hk_new ⊢
  have hk_b10 := hk_new
  have hXkd11 := fw_X.tr hXkd6 hxkd11
  have hk_a0 := hxkd11 _ _ hk_a0
  have hk_b5 := hxkd11 _ _ hk_b5
  clear eS9 eb10 hk_new
  refine fw_putFr C hnm R ft_field_2_25 rfl ft_nonest_2_25 rfl rfl (by decide) hk_b10 hk_a0 d_Pairs_init_26 (fun H locs R => ?_)
  obtain ⟨S12, eS12, hE⟩ := fw_let_ex hE
  rw [← eS12] at R
  clear eS12
  cases hE
  refine W.widen (k := 2) (n := 128) (Nat.le_of_ble_eq_true rfl) (Nat.le_of_ble_eq_true rfl) ?_
  exact fw_vret C hXkd11 trivial R d_Pairs_init_29
set_option maxHeartbeats 4000000 in
set_option maxRecDepth 100000 in
theorem ct_Memory_init (l : Launch) (G : fw_G) (kd0 : Nat → Option Nat) (S0 : fw_S) (a0 : Nat) (S' : fw_S) (hk_a0 : kd0 a0 = some 1) (hE : F_Memory_init a0 S0 = some S') : fw_M l G y_Memory_init prog_3_method_1_code 1 none 2 43 3 131 kd0 S0 ([.ref a0] : List Value) none S' (fun _ => True) := by
  refine fw_start (by decide) (Nat.le_of_ble_eq_true rfl) ?_
  intro p e s m below meth c ls C hnm R hl
  have hx := C.1
  have hb := C.2.1
  have hl : lv_has ls 1 [(0, .ref a0)] := hl
  unfold F_Memory_init at hE
  refine lv_aload_n hx hb d_Memory_init_0 rfl (lv_at hl 0 rfl) ?_
  refine fw_obj C ft_obj_1_3 ob_1 ob_2 hl.1 d_Memory_init_1 (Nat.le_of_ble_eq_true rfl) (Nat.le_of_ble_eq_true rfl) ?_
  refine lv_aload_n hx hb d_Memory_init_4 rfl (lv_at hl 0 rfl) ?_
  refine lv_iconst (v := 0) hx hb d_Memory_init_5 (by decide) ?_
  refine fw_puti C R ft_field_1_9 rfl hk_a0 d_Memory_init_6 (fun H locs R => ?_)
  obtain ⟨S1, eS1, hE⟩ := fw_let_ex hE
  rw [← eS1] at R
  clear eS1
  refine lv_aload_n hx hb d_Memory_init_9 rfl (lv_at hl 0 rfl) ?_
  refine lv_iconst (v := 0) hx hb d_Memory_init_10 (by decide) ?_
  refine fw_puti C R ft_field_1_15 rfl hk_a0 d_Memory_init_11 (fun H locs R => ?_)
  obtain ⟨S2, eS2, hE⟩ := fw_let_ex hE
  rw [← eS2] at R
  clear eS2
  refine lv_aload_n hx hb d_Memory_init_14 rfl (lv_at hl 0 rfl) ?_
  refine lv_iconst (v := 0) hx hb d_Memory_init_15 (by decide) ?_
  refine fw_puti C R ft_field_1_18 rfl hk_a0 d_Memory_init_16 (fun H locs R => ?_)
  obtain ⟨S3, eS3, hE⟩ := fw_let_ex hE
  rw [← eS3] at R
  clear eS3
  refine lv_aload_n hx hb d_Memory_init_19 rfl (lv_at hl 0 rfl) ?_
  refine fw_new C R cl_2 nd_2 ft_new_1_21 ni_2 nj_2 (Nat.le_of_ble_eq_true rfl) (Nat.le_of_ble_eq_true rfl) d_Memory_init_20 (fun H kd6 hxkd6 hk_new R => ?_)
  refine W.widen (k := 1) (n := 3) (by decide) (by decide) ?_
  obtain ⟨b5, eb5, hE⟩ := fw_let_ex hE
  obtain ⟨S4, eS4, hE⟩ := fw_let_ex hE
  rw [← eS4] at R
  rw [← eb5] at hk_new ⊢
  have hk_b5 := hk_new
  have hXkd6 := fw_X.tr fw_X.rf hxkd6
  have hk_a0 := hxkd6 _ _ hk_a0
  clear eS4 eb5 hk_new
  refine lv_dup hx hb d_Memory_init_23 rfl ?_
  refine lv_bipush (v := 60) hx hb d_Memory_init_24 (by decide) ?_
  obtain ⟨S7, hF, hE⟩ := fw_bind hE
  refine fw_callI (As := [.int (60 : Int32)]) (rest := [.ref b5, .ref a0]) C R ft_callI_1_23 yi_Pairs_init rfl (ct_Pairs_init l G kd6 S4 _ _ _ hk_b5 hF) rfl hl.1 rfl (lv_room (Nat.le_of_ble_eq_true rfl)) ⟨Nat.le_of_ble_eq_true rfl, Nat.le_of_ble_eq_true rfl⟩ ⟨Nat.le_of_ble_eq_true rfl, Nat.le_of_ble_eq_true rfl⟩ d_Memory_init_26 (fun H locs kd8 hxkd8 hP R => ?_)
  refine W.widen (k := 3) (n := 131) (by decide) (by decide) ?_
  have hXkd8 := fw_X.tr hXkd6 hxkd8
  have hk_a0 := hxkd8 _ _ hk_a0
  have hk_b5 := hxkd8 _ _ hk_b5
  refine fw_putFr C hnm R ft_field_1_26 rfl ft_nonest_1_26 rfl rfl (by decide) hk_b5 hk_a0 d_Memory_init_29 (fun H locs R => ?_)
  obtain ⟨S9, eS9, hE⟩ := fw_let_ex hE
  rw [← eS9] at R
  clear eS9
  cases hE
  refine W.widen (k := 3) (n := 131) (Nat.le_of_ble_eq_true rfl) (Nat.le_of_ble_eq_true rfl) ?_
  exact fw_vret C hXkd8 trivial R d_Memory_init_32
set_option maxHeartbeats 4000000 in
set_option maxRecDepth 100000 in
theorem ct_Pairs_add (l : Launch) (G : fw_G) (kd0 : Nat → Option Nat) (S0 : fw_S) (a0 : Nat) (p1 : Int32) (p2 : Int32) (r0 : Int32) (S' : fw_S) (hk_a0 : kd0 a0 = some 2) (hE : F_Pairs_add a0 p1 p2 S0 = some (r0, S')) : fw_M l G y_Pairs_add prog_4_method_2_code 3 (some .boolean) 0 0 0 0 kd0 S0 ([.ref a0, .int p1, .int p2] : List Value) (some (.int r0)) S' (fun k => k = kd0) := by
  refine fw_start (by decide) (Nat.le_of_ble_eq_true rfl) ?_
  intro p e s m below meth c ls C hnm R hl
  clear hnm
  have hx := C.1
  have hb := C.2.1
  have hl : lv_has ls 3 [(0, .ref a0), (1, .int p1), (2, .int p2)] := hl
  unfold F_Pairs_add at hE
  refine lv_aload_n hx hb d_Pairs_add_0 rfl (lv_at hl 0 rfl) ?_
  refine fw_get (v := .int (fw_g S0 a0 2)) C R ft_field_2_9 hk_a0 rfl d_Pairs_add_1 ?_
  refine lv_if_lt (tgt := 31) hx hb d_Pairs_add_4 (by decide) (fun hc => ?_) (fun hc => ?_)
  · replace hE := fw_if_t hc hE
    refine lv_iconst (v := 0) hx hb d_Pairs_add_31 (by decide) ?_
    cases hE
    exact fw_zret C (by decide) fw_X.rf rfl R d_Pairs_add_32
  · replace hE := fw_if_f hc hE
    refine lv_aload_n hx hb d_Pairs_add_7 rfl (lv_at hl 0 rfl) ?_
    refine fw_get (v := .int (fw_g S0 a0 2)) C R ft_field_2_9 hk_a0 rfl d_Pairs_add_8 ?_
    refine lv_aload_n hx hb d_Pairs_add_11 rfl (lv_at hl 0 rfl) ?_
    refine fw_getr C R ft_field_2_21 hk_a0 rfl rfl d_Pairs_add_12 (fun hq => ?_) (fun b1 hq hk_b1 => ?_)
    · replace hE := fw_om_none hq hE
      cases hE
    · replace hE := fw_om_some hq hE
      refine fw_alen (K := 100) (ty := .int) C R (by decide) (by decide) hk_b1 d_Pairs_add_15 ?_
      refine lv_icmp_ge (tgt := 31) hx hb d_Pairs_add_16 (by decide) (fun hc => ?_) (fun hc => ?_)
      · replace hE := fw_if_t hc hE
        refine lv_iconst (v := 0) hx hb d_Pairs_add_31 (by decide) ?_
        cases hE
        exact fw_zret C (by decide) fw_X.rf rfl R d_Pairs_add_32
      · replace hE := fw_if_f hc hE
        refine lv_aload_n hx hb d_Pairs_add_19 rfl (lv_at hl 0 rfl) ?_
        refine fw_get (v := .int (fw_g S0 a0 2)) C R ft_field_2_9 hk_a0 rfl d_Pairs_add_20 ?_
        refine lv_aload_n hx hb d_Pairs_add_23 rfl (lv_at hl 0 rfl) ?_
        refine fw_getr C R ft_field_2_25 hk_a0 rfl rfl d_Pairs_add_24 (fun hq => ?_) (fun b2 hq hk_b2 => ?_)
        · replace hE := fw_om_none hq hE
          cases hE
        · replace hE := fw_om_some hq hE
          refine fw_alen (K := 100) (ty := .int) C R (by decide) (by decide) hk_b2 d_Pairs_add_27 ?_
          refine lv_icmp_lt (tgt := 33) hx hb d_Pairs_add_28 (by decide) (fun hc => ?_) (fun hc => ?_)
          · replace hE := fw_if_t hc hE
            refine lv_aload_n hx hb d_Pairs_add_33 rfl (lv_at hl 0 rfl) ?_
            refine fw_getr C R ft_field_2_21 hk_a0 rfl rfl d_Pairs_add_34 (fun hq => ?_) (fun b3 hq hk_b3 => ?_)
            · replace hE := fw_om_none hq hE
              refine lv_aload_n hx hb d_Pairs_add_37 rfl (lv_at hl 0 rfl) ?_
              refine fw_get (v := .int (fw_g S0 a0 2)) C R ft_field_2_9 hk_a0 rfl d_Pairs_add_38 ?_
              refine lv_iload_n hx hb d_Pairs_add_41 rfl (lv_at hl 1 rfl) ?_
              cases hE
            · replace hE := fw_om_some hq hE
              refine lv_aload_n hx hb d_Pairs_add_37 rfl (lv_at hl 0 rfl) ?_
              refine fw_get (v := .int (fw_g S0 a0 2)) C R ft_field_2_9 hk_a0 rfl d_Pairs_add_38 ?_
              refine lv_iload_n hx hb d_Pairs_add_41 rfl (lv_at hl 1 rfl) ?_
              obtain ⟨hi4, hE⟩ := fw_ifn hE
              refine fw_iast C R (by decide) hk_b3 hi4 d_Pairs_add_42 (fun H locs R => ?_)
              obtain ⟨S5, eS5, hE⟩ := fw_let_ex hE
              rw [← eS5] at R
              clear eS5
              refine lv_aload_n hx hb d_Pairs_add_43 rfl (lv_at hl 0 rfl) ?_
              refine fw_getr C R ft_field_2_25 hk_a0 rfl rfl d_Pairs_add_44 (fun hq => ?_) (fun b6 hq hk_b6 => ?_)
              · replace hE := fw_om_none hq hE
                refine lv_aload_n hx hb d_Pairs_add_47 rfl (lv_at hl 0 rfl) ?_
                refine fw_get (v := .int (fw_g S5 a0 2)) C R ft_field_2_9 hk_a0 rfl d_Pairs_add_48 ?_
                refine lv_iload_n hx hb d_Pairs_add_51 rfl (lv_at hl 2 rfl) ?_
                cases hE
              · replace hE := fw_om_some hq hE
                refine lv_aload_n hx hb d_Pairs_add_47 rfl (lv_at hl 0 rfl) ?_
                refine fw_get (v := .int (fw_g S5 a0 2)) C R ft_field_2_9 hk_a0 rfl d_Pairs_add_48 ?_
                refine lv_iload_n hx hb d_Pairs_add_51 rfl (lv_at hl 2 rfl) ?_
                obtain ⟨hi7, hE⟩ := fw_ifn hE
                refine fw_iast C R (by decide) hk_b6 hi7 d_Pairs_add_52 (fun H locs R => ?_)
                obtain ⟨S8, eS8, hE⟩ := fw_let_ex hE
                rw [← eS8] at R
                clear eS8
                refine lv_aload_n hx hb d_Pairs_add_53 rfl (lv_at hl 0 rfl) ?_
                refine lv_dup hx hb d_Pairs_add_54 rfl ?_
                refine fw_get (v := .int (fw_g S8 a0 2)) C R ft_field_2_9 hk_a0 rfl d_Pairs_add_55 ?_
                refine lv_iconst (v := 1) hx hb d_Pairs_add_58 (by decide) ?_
                refine lv_iadd hx hb d_Pairs_add_59 ?_
                refine fw_puti C R ft_field_2_9 rfl hk_a0 d_Pairs_add_60 (fun H locs R => ?_)
                obtain ⟨S9, eS9, hE⟩ := fw_let_ex hE
                rw [← eS9] at R
                clear eS9
                refine lv_iconst (v := 1) hx hb d_Pairs_add_63 (by decide) ?_
                cases hE
                exact fw_zret C (by decide) fw_X.rf rfl R d_Pairs_add_64
          · replace hE := fw_if_f hc hE
            refine lv_iconst (v := 0) hx hb d_Pairs_add_31 (by decide) ?_
            cases hE
            exact fw_zret C (by decide) fw_X.rf rfl R d_Pairs_add_32
set_option maxHeartbeats 4000000 in
set_option maxRecDepth 100000 in
theorem ct_Pairs_keyAt (l : Launch) (G : fw_G) (kd0 : Nat → Option Nat) (S0 : fw_S) (a0 : Nat) (p1 : Int32) (r0 : Int32) (hk_a0 : kd0 a0 = some 2) (hE : F_Pairs_keyAt a0 p1 S0 = some r0) : fw_M l G y_Pairs_keyAt prog_4_method_3_code 2 (some .int) 0 0 0 0 kd0 S0 ([.ref a0, .int p1] : List Value) (some (.int r0)) S0 (fun k => k = kd0) := by
  refine fw_start (by decide) (Nat.le_of_ble_eq_true rfl) ?_
  intro p e s m below meth c ls C hnm R hl
  clear hnm
  have hx := C.1
  have hb := C.2.1
  have hl : lv_has ls 2 [(0, .ref a0), (1, .int p1)] := hl
  unfold F_Pairs_keyAt at hE
  refine lv_iload_n hx hb d_Pairs_keyAt_0 rfl (lv_at hl 1 rfl) ?_
  refine lv_if_lt (tgt := 30) hx hb d_Pairs_keyAt_1 (by decide) (fun hc => ?_) (fun hc => ?_)
  · replace hE := fw_if_t hc hE
    refine lv_bipush (v := -2) hx hb d_Pairs_keyAt_30 (by decide) ?_
    cases hE
    exact fw_iret C fw_X.rf rfl R d_Pairs_keyAt_32
  · replace hE := fw_if_f hc hE
    refine lv_iload_n hx hb d_Pairs_keyAt_4 rfl (lv_at hl 1 rfl) ?_
    refine lv_aload_n hx hb d_Pairs_keyAt_5 rfl (lv_at hl 0 rfl) ?_
    refine fw_get (v := .int (fw_g S0 a0 2)) C R ft_field_2_9 hk_a0 rfl d_Pairs_keyAt_6 ?_
    refine lv_icmp_ge (tgt := 30) hx hb d_Pairs_keyAt_9 (by decide) (fun hc => ?_) (fun hc => ?_)
    · replace hE := fw_if_t hc hE
      refine lv_bipush (v := -2) hx hb d_Pairs_keyAt_30 (by decide) ?_
      cases hE
      exact fw_iret C fw_X.rf rfl R d_Pairs_keyAt_32
    · replace hE := fw_if_f hc hE
      refine lv_iload_n hx hb d_Pairs_keyAt_12 rfl (lv_at hl 1 rfl) ?_
      refine lv_aload_n hx hb d_Pairs_keyAt_13 rfl (lv_at hl 0 rfl) ?_
      refine fw_getr C R ft_field_2_21 hk_a0 rfl rfl d_Pairs_keyAt_14 (fun hq => ?_) (fun b1 hq hk_b1 => ?_)
      · replace hE := fw_om_none hq hE
        cases hE
      · replace hE := fw_om_some hq hE
        refine fw_alen (K := 100) (ty := .int) C R (by decide) (by decide) hk_b1 d_Pairs_keyAt_17 ?_
        refine lv_icmp_ge (tgt := 30) hx hb d_Pairs_keyAt_18 (by decide) (fun hc => ?_) (fun hc => ?_)
        · replace hE := fw_if_t hc hE
          refine lv_bipush (v := -2) hx hb d_Pairs_keyAt_30 (by decide) ?_
          cases hE
          exact fw_iret C fw_X.rf rfl R d_Pairs_keyAt_32
        · replace hE := fw_if_f hc hE
          refine lv_aload_n hx hb d_Pairs_keyAt_21 rfl (lv_at hl 0 rfl) ?_
          refine fw_getr C R ft_field_2_21 hk_a0 rfl rfl d_Pairs_keyAt_22 (fun hq => ?_) (fun b2 hq hk_b2 => ?_)
          · replace hE := fw_om_none hq hE
            refine lv_iload_n hx hb d_Pairs_keyAt_25 rfl (lv_at hl 1 rfl) ?_
            cases hE
          · replace hE := fw_om_some hq hE
            refine lv_iload_n hx hb d_Pairs_keyAt_25 rfl (lv_at hl 1 rfl) ?_
            obtain ⟨hi3, hE⟩ := fw_ifn hE
            refine fw_iald C R (by decide) hk_b2 hi3 d_Pairs_keyAt_26 ?_
            refine lv_goto (tgt := 32) hx hb d_Pairs_keyAt_27 (by decide) ?_
            cases hE
            exact fw_iret C fw_X.rf rfl R d_Pairs_keyAt_32
set_option maxHeartbeats 4000000 in
set_option maxRecDepth 100000 in
theorem ct_Pairs_valueAt (l : Launch) (G : fw_G) (kd0 : Nat → Option Nat) (S0 : fw_S) (a0 : Nat) (p1 : Int32) (r0 : Int32) (hk_a0 : kd0 a0 = some 2) (hE : F_Pairs_valueAt a0 p1 S0 = some r0) : fw_M l G y_Pairs_valueAt prog_4_method_4_code 2 (some .int) 0 0 0 0 kd0 S0 ([.ref a0, .int p1] : List Value) (some (.int r0)) S0 (fun k => k = kd0) := by
  refine fw_start (by decide) (Nat.le_of_ble_eq_true rfl) ?_
  intro p e s m below meth c ls C hnm R hl
  clear hnm
  have hx := C.1
  have hb := C.2.1
  have hl : lv_has ls 2 [(0, .ref a0), (1, .int p1)] := hl
  unfold F_Pairs_valueAt at hE
  refine lv_iload_n hx hb d_Pairs_valueAt_0 rfl (lv_at hl 1 rfl) ?_
  refine lv_if_lt (tgt := 30) hx hb d_Pairs_valueAt_1 (by decide) (fun hc => ?_) (fun hc => ?_)
  · replace hE := fw_if_t hc hE
    refine lv_bipush (v := -2) hx hb d_Pairs_valueAt_30 (by decide) ?_
    cases hE
    exact fw_iret C fw_X.rf rfl R d_Pairs_valueAt_32
  · replace hE := fw_if_f hc hE
    refine lv_iload_n hx hb d_Pairs_valueAt_4 rfl (lv_at hl 1 rfl) ?_
    refine lv_aload_n hx hb d_Pairs_valueAt_5 rfl (lv_at hl 0 rfl) ?_
    refine fw_get (v := .int (fw_g S0 a0 2)) C R ft_field_2_9 hk_a0 rfl d_Pairs_valueAt_6 ?_
    refine lv_icmp_ge (tgt := 30) hx hb d_Pairs_valueAt_9 (by decide) (fun hc => ?_) (fun hc => ?_)
    · replace hE := fw_if_t hc hE
      refine lv_bipush (v := -2) hx hb d_Pairs_valueAt_30 (by decide) ?_
      cases hE
      exact fw_iret C fw_X.rf rfl R d_Pairs_valueAt_32
    · replace hE := fw_if_f hc hE
      refine lv_iload_n hx hb d_Pairs_valueAt_12 rfl (lv_at hl 1 rfl) ?_
      refine lv_aload_n hx hb d_Pairs_valueAt_13 rfl (lv_at hl 0 rfl) ?_
      refine fw_getr C R ft_field_2_25 hk_a0 rfl rfl d_Pairs_valueAt_14 (fun hq => ?_) (fun b1 hq hk_b1 => ?_)
      · replace hE := fw_om_none hq hE
        cases hE
      · replace hE := fw_om_some hq hE
        refine fw_alen (K := 100) (ty := .int) C R (by decide) (by decide) hk_b1 d_Pairs_valueAt_17 ?_
        refine lv_icmp_ge (tgt := 30) hx hb d_Pairs_valueAt_18 (by decide) (fun hc => ?_) (fun hc => ?_)
        · replace hE := fw_if_t hc hE
          refine lv_bipush (v := -2) hx hb d_Pairs_valueAt_30 (by decide) ?_
          cases hE
          exact fw_iret C fw_X.rf rfl R d_Pairs_valueAt_32
        · replace hE := fw_if_f hc hE
          refine lv_aload_n hx hb d_Pairs_valueAt_21 rfl (lv_at hl 0 rfl) ?_
          refine fw_getr C R ft_field_2_25 hk_a0 rfl rfl d_Pairs_valueAt_22 (fun hq => ?_) (fun b2 hq hk_b2 => ?_)
          · replace hE := fw_om_none hq hE
            refine lv_iload_n hx hb d_Pairs_valueAt_25 rfl (lv_at hl 1 rfl) ?_
            cases hE
          · replace hE := fw_om_some hq hE
            refine lv_iload_n hx hb d_Pairs_valueAt_25 rfl (lv_at hl 1 rfl) ?_
            obtain ⟨hi3, hE⟩ := fw_ifn hE
            refine fw_iald C R (by decide) hk_b2 hi3 d_Pairs_valueAt_26 ?_
            refine lv_goto (tgt := 32) hx hb d_Pairs_valueAt_27 (by decide) ?_
            cases hE
            exact fw_iret C fw_X.rf rfl R d_Pairs_valueAt_32
set_option maxHeartbeats 4000000 in
set_option maxRecDepth 100000 in
theorem ct_Pairs_clear (l : Launch) (G : fw_G) (kd0 : Nat → Option Nat) (S0 : fw_S) (a0 : Nat) (S' : fw_S) (hk_a0 : kd0 a0 = some 2) (hE : F_Pairs_clear a0 S0 = some S') : fw_M l G y_Pairs_clear prog_4_method_5_code 1 none 0 0 0 0 kd0 S0 ([.ref a0] : List Value) none S' (fun k => k = kd0) := by
  refine fw_start (by decide) (Nat.le_of_ble_eq_true rfl) ?_
  intro p e s m below meth c ls C hnm R hl
  clear hnm
  have hx := C.1
  have hb := C.2.1
  have hl : lv_has ls 1 [(0, .ref a0)] := hl
  unfold F_Pairs_clear at hE
  refine lv_aload_n hx hb d_Pairs_clear_0 rfl (lv_at hl 0 rfl) ?_
  refine lv_iconst (v := 0) hx hb d_Pairs_clear_1 (by decide) ?_
  refine fw_puti C R ft_field_2_9 rfl hk_a0 d_Pairs_clear_2 (fun H locs R => ?_)
  obtain ⟨S1, eS1, hE⟩ := fw_let_ex hE
  rw [← eS1] at R
  clear eS1
  cases hE
  exact fw_vret C fw_X.rf rfl R d_Pairs_clear_5
set_option maxHeartbeats 4000000 in
set_option maxRecDepth 100000 in
theorem ct_Request_addKey (l : Launch) (G : fw_G) (kd0 : Nat → Option Nat) (S0 : fw_S) (a0 : Nat) (p1 : Int32) (S' : fw_S) (hk_a0 : kd0 a0 = some 3) (hE : F_Request_addKey a0 p1 S0 = some S') : fw_M l G y_Request_addKey prog_5_method_2_code 3 none 0 0 0 0 kd0 S0 ([.ref a0, .int p1] : List Value) none S' (fun k => k = kd0) := by
  refine fw_start (by decide) (Nat.le_of_ble_eq_true rfl) ?_
  intro p e s m below meth c ls C hnm R hl
  clear hnm
  have hx := C.1
  have hb := C.2.1
  have hl : lv_has ls 3 [(0, .ref a0), (1, .int p1)] := hl
  have h_j36 : ∀ v0 : Nat, ∀ v1 : Int32, ∀ S0 : fw_S, kd0 v0 = some 3 → ∀ (H : Heap) (locs : List Loc) (ls : Array Slot), fw_R G kd0 S0 H locs → lv_has ls 3 [(0, .ref v0), (1, .int v1)] → F_Request_addKey_j36 v0 v1 S0 = some S' → W p l e { frames := 0, cells := 0, slots := 0, locals := 0 } s m ([.ref a0, .int p1] : List Value).toArray below meth c H locs 0 0 (MQ below (fw_Q G kd0 none S' (fun k => k = kd0)) ([.ref a0, .int p1] : List Value).toArray s 0 0 (fw_A G)) (F0 m 36 ls []) := by
    intro v0 v1 S0 hk_v0 H locs ls R hl hE
    unfold F_Request_addKey_j36 at hE
    refine lv_aload_n hx hb d_Request_addKey_36 rfl (lv_at hl 0 rfl) ?_
    refine fw_get (v := .int (fw_g S0 v0 5)) C R ft_field_3_9 hk_v0 rfl d_Request_addKey_37 ?_
    refine lv_if_lt (tgt := 75) hx hb d_Request_addKey_40 (by decide) (fun hc => ?_) (fun hc => ?_)
    · replace hE := fw_if_t hc hE
      cases hE
      exact fw_vret C fw_X.rf rfl R d_Request_addKey_75
    · replace hE := fw_if_f hc hE
      refine lv_aload_n hx hb d_Request_addKey_43 rfl (lv_at hl 0 rfl) ?_
      refine fw_get (v := .int (fw_g S0 v0 5)) C R ft_field_3_9 hk_v0 rfl d_Request_addKey_44 ?_
      refine lv_aload_n hx hb d_Request_addKey_47 rfl (lv_at hl 0 rfl) ?_
      refine fw_getr C R ft_field_3_77 hk_v0 rfl rfl d_Request_addKey_48 (fun hq => ?_) (fun b1 hq hk_b1 => ?_)
      · replace hE := fw_om_none hq hE
        cases hE
      · replace hE := fw_om_some hq hE
        refine fw_alen (K := 100) (ty := .int) C R (by decide) (by decide) hk_b1 d_Request_addKey_51 ?_
        refine lv_icmp_ge (tgt := 75) hx hb d_Request_addKey_52 (by decide) (fun hc => ?_) (fun hc => ?_)
        · replace hE := fw_if_t hc hE
          cases hE
          exact fw_vret C fw_X.rf rfl R d_Request_addKey_75
        · replace hE := fw_if_f hc hE
          refine lv_aload_n hx hb d_Request_addKey_55 rfl (lv_at hl 0 rfl) ?_
          refine fw_getr C R ft_field_3_77 hk_v0 rfl rfl d_Request_addKey_56 (fun hq => ?_) (fun b2 hq hk_b2 => ?_)
          · replace hE := fw_om_none hq hE
            refine lv_aload_n hx hb d_Request_addKey_59 rfl (lv_at hl 0 rfl) ?_
            refine fw_get (v := .int (fw_g S0 v0 5)) C R ft_field_3_9 hk_v0 rfl d_Request_addKey_60 ?_
            refine lv_iload_n hx hb d_Request_addKey_63 rfl (lv_at hl 1 rfl) ?_
            cases hE
          · replace hE := fw_om_some hq hE
            refine lv_aload_n hx hb d_Request_addKey_59 rfl (lv_at hl 0 rfl) ?_
            refine fw_get (v := .int (fw_g S0 v0 5)) C R ft_field_3_9 hk_v0 rfl d_Request_addKey_60 ?_
            refine lv_iload_n hx hb d_Request_addKey_63 rfl (lv_at hl 1 rfl) ?_
            obtain ⟨hi3, hE⟩ := fw_ifn hE
            refine fw_iast C R (by decide) hk_b2 hi3 d_Request_addKey_64 (fun H locs R => ?_)
            obtain ⟨S4, eS4, hE⟩ := fw_let_ex hE
            rw [← eS4] at R
            clear eS4
            refine lv_aload_n hx hb d_Request_addKey_65 rfl (lv_at hl 0 rfl) ?_
            refine lv_dup hx hb d_Request_addKey_66 rfl ?_
            refine fw_get (v := .int (fw_g S4 v0 5)) C R ft_field_3_9 hk_v0 rfl d_Request_addKey_67 ?_
            refine lv_iconst (v := 1) hx hb d_Request_addKey_70 (by decide) ?_
            refine lv_iadd hx hb d_Request_addKey_71 ?_
            refine fw_puti C R ft_field_3_9 rfl hk_v0 d_Request_addKey_72 (fun H locs R => ?_)
            obtain ⟨S5, eS5, hE⟩ := fw_let_ex hE
            rw [← eS5] at R
            clear eS5
            cases hE
            exact fw_vret C fw_X.rf rfl R d_Request_addKey_75
  have h_l2 : ∀ (n : Nat), ∀ v0 : Nat, ∀ v1 : Int32, ∀ v2 : Int32, ∀ S0 : fw_S, kd0 v0 = some 3 → ∀ (H : Heap) (locs : List Loc) (ls : Array Slot), fw_R G kd0 S0 H locs → lv_has ls 3 [(0, .ref v0), (1, .int v1), (2, .int v2)] → F_Request_addKey_l2 n v0 v1 v2 S0 = some S' → W p l e { frames := 0, cells := 0, slots := 0, locals := 0 } s m ([.ref a0, .int p1] : List Value).toArray below meth c H locs 0 0 (MQ below (fw_Q G kd0 none S' (fun k => k = kd0)) ([.ref a0, .int p1] : List Value).toArray s 0 0 (fw_A G)) (F0 m 2 ls []) := by
    intro n
    induction n with
    | zero =>
      intro v0 v1 v2 S0 hk_v0 H locs ls R hl hE
      rw [F_Request_addKey_l2] at hE
      cases hE
    | succ n ih =>
      intro v0 v1 v2 S0 hk_v0 H locs ls R hl hE
      rw [F_Request_addKey_l2] at hE
      refine lv_iload_n hx hb d_Request_addKey_2 rfl (lv_at hl 2 rfl) ?_
      refine lv_aload_n hx hb d_Request_addKey_3 rfl (lv_at hl 0 rfl) ?_
      refine fw_get (v := .int (fw_g S0 v0 5)) C R ft_field_3_9 hk_v0 rfl d_Request_addKey_4 ?_
      refine lv_icmp_ge (tgt := 36) hx hb d_Request_addKey_7 (by decide) (fun hc => ?_) (fun hc => ?_)
      · replace hE := fw_if_t hc hE
        exact h_j36 _ _ _ hk_v0 _ _ _ R (lv_sub hl [0, 1] rfl) hE
      · replace hE := fw_if_f hc hE
        refine lv_iload_n hx hb d_Request_addKey_10 rfl (lv_at hl 2 rfl) ?_
        refine lv_aload_n hx hb d_Request_addKey_11 rfl (lv_at hl 0 rfl) ?_
        refine fw_getr C R ft_field_3_77 hk_v0 rfl rfl d_Request_addKey_12 (fun hq => ?_) (fun b6 hq hk_b6 => ?_)
        · replace hE := fw_om_none hq hE
          cases hE
        · replace hE := fw_om_some hq hE
          refine fw_alen (K := 100) (ty := .int) C R (by decide) (by decide) hk_b6 d_Request_addKey_15 ?_
          refine lv_icmp_ge (tgt := 36) hx hb d_Request_addKey_16 (by decide) (fun hc => ?_) (fun hc => ?_)
          · replace hE := fw_if_t hc hE
            exact h_j36 _ _ _ hk_v0 _ _ _ R (lv_sub hl [0, 1] rfl) hE
          · replace hE := fw_if_f hc hE
            refine lv_aload_n hx hb d_Request_addKey_19 rfl (lv_at hl 0 rfl) ?_
            refine fw_getr C R ft_field_3_77 hk_v0 rfl rfl d_Request_addKey_20 (fun hq => ?_) (fun b7 hq hk_b7 => ?_)
            · replace hE := fw_om_none hq hE
              refine lv_iload_n hx hb d_Request_addKey_23 rfl (lv_at hl 2 rfl) ?_
              cases hE
            · replace hE := fw_om_some hq hE
              refine lv_iload_n hx hb d_Request_addKey_23 rfl (lv_at hl 2 rfl) ?_
              obtain ⟨hi8, hE⟩ := fw_ifn hE
              refine fw_iald C R (by decide) hk_b7 hi8 d_Request_addKey_24 ?_
              refine lv_iload_n hx hb d_Request_addKey_25 rfl (lv_at hl 1 rfl) ?_
              refine lv_icmp_ne (tgt := 30) hx hb d_Request_addKey_26 (by decide) (fun hc => ?_) (fun hc => ?_)
              · replace hE := fw_if_f hc hE
                refine lv_iinc (v := (v2 + (1 : Int32))) (lv' := [(2, .int (v2 + (1 : Int32))), (0, .ref v0), (1, .int v1)]) hx hb d_Request_addKey_30 hl (k := 2) rfl rfl (by decide) rfl (fun ls hl => ?_)
                refine lv_goto (tgt := 2) hx hb d_Request_addKey_33 (by decide) ?_
                exact ih _ _ _ _ hk_v0 _ _ _ R (lv_sub hl [1, 2, 0] rfl) hE
              · replace hE := fw_if_t hc hE
                cases hE
                exact fw_vret C fw_X.rf rfl R d_Request_addKey_29
  unfold F_Request_addKey at hE
  refine lv_iconst (v := 0) hx hb d_Request_addKey_0 (by decide) ?_
  refine lv_istore_n (lv' := [(2, .int (0 : Int32)), (0, .ref a0), (1, .int p1)]) hx hb d_Request_addKey_1 rfl hl (by decide) rfl (fun ls hl => ?_)
  exact h_l2 _ _ _ _ _ hk_a0 _ _ _ R (lv_sub hl [1, 2, 0] rfl) hE
set_option maxHeartbeats 4000000 in
set_option maxRecDepth 100000 in
theorem ct_Request_init (l : Launch) (G : fw_G) (kd0 : Nat → Option Nat) (S0 : fw_S) (a0 : Nat) (p1 : Int32) (p2 : Int32) (p3 : Int32) (p4 : Int32) (p5 : Nat) (S' : fw_S) (hk_a0 : kd0 a0 = some 3) (hk_p5 : kd0 p5 = some 2) (hE : F_Request_init a0 p1 p2 p3 p4 p5 S0 = some S') : fw_M l G y_Request_init prog_5_method_1_code 7 none 2 43 9 348 kd0 S0 ([.ref a0, .int p1, .int p2, .int p3, .int p4, .ref p5] : List Value) none S' (fun _ => True) := by
  refine fw_start (by decide) (Nat.le_of_ble_eq_true rfl) ?_
  intro p e s m below meth c ls C hnm R hl
  have hx := C.1
  have hb := C.2.1
  have hl : lv_has ls 7 [(0, .ref a0), (1, .int p1), (2, .int p2), (3, .int p3), (4, .int p4), (5, .ref p5)] := hl
  have h_l123 : ∀ (n : Nat), ∀ v0 : Nat, ∀ v5 : Nat, ∀ v6 : Int32, ∀ S0 : fw_S, ∀ kd : Nat → Option Nat, fw_X kd0 kd → kd v0 = some 3 → kd v5 = some 2 → ∀ (H : Heap) (locs : List Loc) (ls : Array Slot), fw_R G kd S0 H locs → lv_has ls 7 [(0, .ref v0), (5, .ref v5), (6, .int v6)] → F_Request_init_l123 n v0 v5 v6 S0 = some S' → W p l e { frames := 2, cells := 9, slots := 348, locals := 43 } s m ([.ref a0, .int p1, .int p2, .int p3, .int p4, .ref p5] : List Value).toArray below meth c H locs 9 348 (MQ below (fw_Q G kd0 none S' (fun _ => True)) ([.ref a0, .int p1, .int p2, .int p3, .int p4, .ref p5] : List Value).toArray s 9 348 (fw_A G)) (F0 m 123 ls []) := by
    intro n
    induction n with
    | zero =>
      intro v0 v5 v6 S0 kd hX hk_v0 hk_v5 H locs ls R hl hE
      rw [F_Request_init_l123] at hE
      cases hE
    | succ n ih =>
      intro v0 v5 v6 S0 kd hX hk_v0 hk_v5 H locs ls R hl hE
      rw [F_Request_init_l123] at hE
      refine lv_iload hx hb d_Request_init_123 (lv_at hl 2 rfl) ?_
      refine lv_aload hx hb d_Request_init_125 (lv_at hl 1 rfl) ?_
      refine fw_get (v := .int (fw_g S0 v5 2)) C R ft_field_3_65 hk_v5 rfl d_Request_init_127 ?_
      refine lv_icmp_ge (tgt := 172) hx hb d_Request_init_130 (by decide) (fun hc => ?_) (fun hc => ?_)
      · replace hE := fw_if_t hc hE
        cases hE
        refine W.widen (k := 9) (n := 348) (Nat.le_of_ble_eq_true rfl) (Nat.le_of_ble_eq_true rfl) ?_
        exact fw_vret C hX trivial R d_Request_init_172
      · replace hE := fw_if_f hc hE
        refine lv_aload_n hx hb d_Request_init_133 rfl (lv_at hl 0 rfl) ?_
        refine fw_getr C R ft_field_3_68 hk_v0 rfl rfl d_Request_init_134 (fun hq => ?_) (fun b37 hq hk_b37 => ?_)
        · replace hE := fw_om_none hq hE
          refine lv_aload hx hb d_Request_init_137 (lv_at hl 1 rfl) ?_
          refine lv_iload hx hb d_Request_init_139 (lv_at hl 2 rfl) ?_
          obtain ⟨x38, hF, hE⟩ := fw_bind hE
          refine fw_callV (As := [.int v6]) (rest := [.null]) C R ft_callV_3_81 yi_Pairs_keyAt ys_Pairs_keyAt (ct_Pairs_keyAt l G kd S0 _ _ _ hk_v5 hF) hk_v5 (by decide) rfl rfl hl.1 rfl (lv_room (Nat.le_of_ble_eq_true rfl)) ⟨Nat.le_of_ble_eq_true rfl, Nat.le_of_ble_eq_true rfl⟩ ⟨Nat.le_of_ble_eq_true rfl, Nat.le_of_ble_eq_true rfl⟩ d_Request_init_141 (fun H locs kd39 hxkd39 hP R => ?_)
          rw [hP] at R; clear hP hxkd39
          refine lv_aload hx hb d_Request_init_144 (lv_at hl 1 rfl) ?_
          refine lv_iload hx hb d_Request_init_146 (lv_at hl 2 rfl) ?_
          obtain ⟨x40, hF, hE⟩ := fw_bind hE
          refine fw_callV (As := [.int v6]) (rest := [.int x38, .null]) C R ft_callV_3_85 yi_Pairs_valueAt ys_Pairs_valueAt (ct_Pairs_valueAt l G kd S0 _ _ _ hk_v5 hF) hk_v5 (by decide) rfl rfl hl.1 rfl (lv_room (Nat.le_of_ble_eq_true rfl)) ⟨Nat.le_of_ble_eq_true rfl, Nat.le_of_ble_eq_true rfl⟩ ⟨Nat.le_of_ble_eq_true rfl, Nat.le_of_ble_eq_true rfl⟩ d_Request_init_148 (fun H locs kd41 hxkd41 hP R => ?_)
          rw [hP] at R; clear hP hxkd41
          cases hE
        · replace hE := fw_om_some hq hE
          refine lv_aload hx hb d_Request_init_137 (lv_at hl 1 rfl) ?_
          refine lv_iload hx hb d_Request_init_139 (lv_at hl 2 rfl) ?_
          obtain ⟨x42, hF, hE⟩ := fw_bind hE
          refine fw_callV (As := [.int v6]) (rest := [.ref b37]) C R ft_callV_3_81 yi_Pairs_keyAt ys_Pairs_keyAt (ct_Pairs_keyAt l G kd S0 _ _ _ hk_v5 hF) hk_v5 (by decide) rfl rfl hl.1 rfl (lv_room (Nat.le_of_ble_eq_true rfl)) ⟨Nat.le_of_ble_eq_true rfl, Nat.le_of_ble_eq_true rfl⟩ ⟨Nat.le_of_ble_eq_true rfl, Nat.le_of_ble_eq_true rfl⟩ d_Request_init_141 (fun H locs kd43 hxkd43 hP R => ?_)
          rw [hP] at R; clear hP hxkd43
          refine lv_aload hx hb d_Request_init_144 (lv_at hl 1 rfl) ?_
          refine lv_iload hx hb d_Request_init_146 (lv_at hl 2 rfl) ?_
          obtain ⟨x44, hF, hE⟩ := fw_bind hE
          refine fw_callV (As := [.int v6]) (rest := [.int x42, .ref b37]) C R ft_callV_3_85 yi_Pairs_valueAt ys_Pairs_valueAt (ct_Pairs_valueAt l G kd S0 _ _ _ hk_v5 hF) hk_v5 (by decide) rfl rfl hl.1 rfl (lv_room (Nat.le_of_ble_eq_true rfl)) ⟨Nat.le_of_ble_eq_true rfl, Nat.le_of_ble_eq_true rfl⟩ ⟨Nat.le_of_ble_eq_true rfl, Nat.le_of_ble_eq_true rfl⟩ d_Request_init_148 (fun H locs kd45 hxkd45 hP R => ?_)
          rw [hP] at R; clear hP hxkd45
          obtain ⟨x47, S46, hF, hE⟩ := fw_b2_ex hE
          refine fw_callV (As := [.int x42, .int x44]) (rest := []) C R ft_callV_3_88 yi_Pairs_add ys_Pairs_add (ct_Pairs_add l G kd S0 _ _ _ _ _ hk_b37 hF) hk_b37 (by decide) rfl rfl hl.1 rfl (lv_room (Nat.le_of_ble_eq_true rfl)) ⟨Nat.le_of_ble_eq_true rfl, Nat.le_of_ble_eq_true rfl⟩ ⟨Nat.le_of_ble_eq_true rfl, Nat.le_of_ble_eq_true rfl⟩ d_Request_init_151 (fun H locs kd48 hxkd48 hP R => ?_)
          rw [hP] at R; clear hP hxkd48
          refine lv_pop hx hb d_Request_init_154 rfl ?_
          refine lv_aload_n hx hb d_Request_init_155 rfl (lv_at hl 0 rfl) ?_
          refine lv_aload hx hb d_Request_init_156 (lv_at hl 1 rfl) ?_
          refine lv_iload hx hb d_Request_init_158 (lv_at hl 2 rfl) ?_
          obtain ⟨x49, hF, hE⟩ := fw_bind hE
          refine fw_callV (As := [.int v6]) (rest := [.ref v0]) C R ft_callV_3_81 yi_Pairs_keyAt ys_Pairs_keyAt (ct_Pairs_keyAt l G kd S46 _ _ _ hk_v5 hF) hk_v5 (by decide) rfl rfl hl.1 rfl (lv_room (Nat.le_of_ble_eq_true rfl)) ⟨Nat.le_of_ble_eq_true rfl, Nat.le_of_ble_eq_true rfl⟩ ⟨Nat.le_of_ble_eq_true rfl, Nat.le_of_ble_eq_true rfl⟩ d_Request_init_160 (fun H locs kd50 hxkd50 hP R => ?_)
          rw [hP] at R; clear hP hxkd50
          obtain ⟨S51, hF, hE⟩ := fw_bind hE
          refine fw_callV (As := [.int x49]) (rest := []) C R ft_callV_3_92 yi_Request_addKey ys_Request_addKey (ct_Request_addKey l G kd S46 _ _ _ hk_v0 hF) hk_v0 (by decide) rfl rfl hl.1 rfl (lv_room (Nat.le_of_ble_eq_true rfl)) ⟨Nat.le_of_ble_eq_true rfl, Nat.le_of_ble_eq_true rfl⟩ ⟨Nat.le_of_ble_eq_true rfl, Nat.le_of_ble_eq_true rfl⟩ d_Request_init_163 (fun H locs kd52 hxkd52 hP R => ?_)
          rw [hP] at R; clear hP hxkd52
          refine lv_iinc (v := (v6 + (1 : Int32))) (lv' := [(6, .int (v6 + (1 : Int32))), (0, .ref v0), (5, .ref v5)]) hx hb d_Request_init_166 hl (k := 2) rfl rfl (by decide) rfl (fun ls hl => ?_)
          refine lv_goto (tgt := 123) hx hb d_Request_init_169 (by decide) ?_
          exact ih _ _ _ _ _ hX hk_v0 hk_v5 _ _ _ R (lv_sub hl [1, 2, 0] rfl) hE
  unfold F_Request_init at hE
  refine lv_aload_n hx hb d_Request_init_0 rfl (lv_at hl 0 rfl) ?_
  refine fw_obj C ft_obj_3_3 ob_1 ob_2 hl.1 d_Request_init_1 (Nat.le_of_ble_eq_true rfl) (Nat.le_of_ble_eq_true rfl) ?_
  refine lv_aload_n hx hb d_Request_init_4 rfl (lv_at hl 0 rfl) ?_
  refine lv_iconst (v := 0) hx hb d_Request_init_5 (by decide) ?_
  refine fw_puti C R ft_field_3_9 rfl hk_a0 d_Request_init_6 (fun H locs R => ?_)
  obtain ⟨S1, eS1, hE⟩ := fw_let_ex hE
  rw [← eS1] at R
  clear eS1
  refine lv_aload_n hx hb d_Request_init_9 rfl (lv_at hl 0 rfl) ?_
  refine lv_iconst (v := 0) hx hb d_Request_init_10 (by decide) ?_
  refine fw_puti C R ft_field_3_15 rfl hk_a0 d_Request_init_11 (fun H locs R => ?_)
  obtain ⟨S2, eS2, hE⟩ := fw_let_ex hE
  rw [← eS2] at R
  clear eS2
  refine lv_aload_n hx hb d_Request_init_14 rfl (lv_at hl 0 rfl) ?_
  refine fw_new C R cl_2 nd_2 ft_new_3_18 ni_2 nj_2 (Nat.le_of_ble_eq_true rfl) (Nat.le_of_ble_eq_true rfl) d_Request_init_15 (fun H kd5 hxkd5 hk_new R => ?_)
  refine W.widen (k := 1) (n := 3) (by decide) (by decide) ?_
  obtain ⟨b4, eb4, hE⟩ := fw_let_ex hE
  obtain ⟨S3, eS3, hE⟩ := fw_let_ex hE
  rw [← eS3] at R
  rw [← eb4] at hk_new ⊢
  have hk_b4 := hk_new
  have hXkd5 := fw_X.tr fw_X.rf hxkd5
  have hk_a0 := hxkd5 _ _ hk_a0
  have hk_p5 := hxkd5 _ _ hk_p5
  clear eS3 eb4 hk_new
  refine lv_dup hx hb d_Request_init_18 rfl ?_
  refine lv_bipush (v := 60) hx hb d_Request_init_19 (by decide) ?_
  obtain ⟨S6, hF, hE⟩ := fw_bind hE
  refine fw_callI (As := [.int (60 : Int32)]) (rest := [.ref b4, .ref a0]) C R ft_callI_3_20 yi_Pairs_init rfl (ct_Pairs_init l G kd5 S3 _ _ _ hk_b4 hF) rfl hl.1 rfl (lv_room (Nat.le_of_ble_eq_true rfl)) ⟨Nat.le_of_ble_eq_true rfl, Nat.le_of_ble_eq_true rfl⟩ ⟨Nat.le_of_ble_eq_true rfl, Nat.le_of_ble_eq_true rfl⟩ d_Request_init_21 (fun H locs kd7 hxkd7 hP R => ?_)
  refine W.widen (k := 3) (n := 131) (by decide) (by decide) ?_
  have hXkd7 := fw_X.tr hXkd5 hxkd7
  have hk_a0 := hxkd7 _ _ hk_a0
  have hk_p5 := hxkd7 _ _ hk_p5
  have hk_b4 := hxkd7 _ _ hk_b4
  refine fw_putFr C hnm R ft_field_3_23 rfl ft_nonest_3_23 rfl rfl (by decide) hk_b4 hk_a0 d_Request_init_24 (fun H locs R => ?_)
  obtain ⟨S8, eS8, hE⟩ := fw_let_ex hE
  rw [← eS8] at R
  clear eS8
  refine lv_aload_n hx hb d_Request_init_27 rfl (lv_at hl 0 rfl) ?_
  refine lv_iconst (v := 0) hx hb d_Request_init_28 (by decide) ?_
  refine fw_puti C R ft_field_3_27 rfl hk_a0 d_Request_init_29 (fun H locs R => ?_)
  obtain ⟨S9, eS9, hE⟩ := fw_let_ex hE
  rw [← eS9] at R
  clear eS9
  refine lv_aload_n hx hb d_Request_init_32 rfl (lv_at hl 0 rfl) ?_
  refine fw_new C R cl_0 nd_0 ft_new_3_30 ni_0 nj_0 (Nat.le_of_ble_eq_true rfl) (Nat.le_of_ble_eq_true rfl) d_Request_init_33 (fun H kd12 hxkd12 hk_new R => ?_)
  refine W.widen (k := 4) (n := 135) (by decide) (by decide) ?_
  obtain ⟨b11, eb11, hE⟩ := fw_let_ex hE
  obtain ⟨S10, eS10, hE⟩ := fw_let_ex hE
  rw [← eS10] at R
  rw [← eb11] at hk_new ⊢
  have hk_b11 := hk_new
  have hXkd12 := fw_X.tr hXkd7 hxkd12
  have hk_a0 := hxkd12 _ _ hk_a0
  have hk_p5 := hxkd12 _ _ hk_p5
  have hk_b4 := hxkd12 _ _ hk_b4
  clear eS10 eb11 hk_new
  refine lv_dup hx hb d_Request_init_36 rfl ?_
  obtain ⟨S13, hF, hE⟩ := fw_bind hE
  refine fw_callI (As := []) (rest := [.ref b11, .ref a0]) C R ft_callI_3_32 yi_Frame_init rfl (ct_Frame_init l G kd12 S10 _ _ hk_b11 hF) rfl hl.1 rfl (lv_room (Nat.le_of_ble_eq_true rfl)) ⟨Nat.le_of_ble_eq_true rfl, Nat.le_of_ble_eq_true rfl⟩ ⟨Nat.le_of_ble_eq_true rfl, Nat.le_of_ble_eq_true rfl⟩ d_Request_init_37 (fun H locs kd14 hxkd14 hP R => ?_)
  refine W.widen (k := 5) (n := 153) (by decide) (by decide) ?_
  have hXkd14 := fw_X.tr hXkd12 hxkd14
  have hk_a0 := hxkd14 _ _ hk_a0
  have hk_p5 := hxkd14 _ _ hk_p5
  have hk_b4 := hxkd14 _ _ hk_b4
  have hk_b11 := hxkd14 _ _ hk_b11
  refine fw_putFr C hnm R ft_field_3_33 rfl ft_nonest_3_33 rfl rfl (by decide) hk_b11 hk_a0 d_Request_init_40 (fun H locs R => ?_)
  obtain ⟨S15, eS15, hE⟩ := fw_let_ex hE
  rw [← eS15] at R
  clear eS15
  refine lv_aload_n hx hb d_Request_init_43 rfl (lv_at hl 0 rfl) ?_
  refine lv_iconst (v := -1) hx hb d_Request_init_44 (by decide) ?_
  refine fw_puti C R ft_field_3_37 rfl hk_a0 d_Request_init_45 (fun H locs R => ?_)
  obtain ⟨S16, eS16, hE⟩ := fw_let_ex hE
  rw [← eS16] at R
  clear eS16
  refine lv_aload_n hx hb d_Request_init_48 rfl (lv_at hl 0 rfl) ?_
  refine lv_iconst (v := 0) hx hb d_Request_init_49 (by decide) ?_
  refine fw_puti C R ft_field_3_40 rfl hk_a0 d_Request_init_50 (fun H locs R => ?_)
  obtain ⟨S17, eS17, hE⟩ := fw_let_ex hE
  rw [← eS17] at R
  clear eS17
  refine lv_aload_n hx hb d_Request_init_53 rfl (lv_at hl 0 rfl) ?_
  refine lv_iconst (v := 0) hx hb d_Request_init_54 (by decide) ?_
  refine fw_puti C R ft_field_3_43 rfl hk_a0 d_Request_init_55 (fun H locs R => ?_)
  obtain ⟨S18, eS18, hE⟩ := fw_let_ex hE
  rw [← eS18] at R
  clear eS18
  refine lv_aload_n hx hb d_Request_init_58 rfl (lv_at hl 0 rfl) ?_
  refine lv_iconst (v := 0) hx hb d_Request_init_59 (by decide) ?_
  refine fw_puti C R ft_field_3_46 rfl hk_a0 d_Request_init_60 (fun H locs R => ?_)
  obtain ⟨S19, eS19, hE⟩ := fw_let_ex hE
  rw [← eS19] at R
  clear eS19
  refine lv_aload_n hx hb d_Request_init_63 rfl (lv_at hl 0 rfl) ?_
  refine lv_iconst (v := 0) hx hb d_Request_init_64 (by decide) ?_
  refine fw_puti C R ft_field_3_49 rfl hk_a0 d_Request_init_65 (fun H locs R => ?_)
  obtain ⟨S20, eS20, hE⟩ := fw_let_ex hE
  rw [← eS20] at R
  clear eS20
  refine lv_aload_n hx hb d_Request_init_68 rfl (lv_at hl 0 rfl) ?_
  refine lv_iload_n hx hb d_Request_init_69 rfl (lv_at hl 1 rfl) ?_
  refine fw_putFi C hnm R ft_field_3_52 rfl ft_nonest_3_52 rfl hk_a0 d_Request_init_70 (fun H locs R => ?_)
  obtain ⟨S21, eS21, hE⟩ := fw_let_ex hE
  rw [← eS21] at R
  clear eS21
  refine lv_aload_n hx hb d_Request_init_73 rfl (lv_at hl 0 rfl) ?_
  refine lv_iload_n hx hb d_Request_init_74 rfl (lv_at hl 2 rfl) ?_
  refine fw_putFi C hnm R ft_field_3_55 rfl ft_nonest_3_55 rfl hk_a0 d_Request_init_75 (fun H locs R => ?_)
  obtain ⟨S22, eS22, hE⟩ := fw_let_ex hE
  rw [← eS22] at R
  clear eS22
  refine lv_aload_n hx hb d_Request_init_78 rfl (lv_at hl 0 rfl) ?_
  refine lv_iload_n hx hb d_Request_init_79 rfl (lv_at hl 3 rfl) ?_
  obtain ⟨hz23, hE⟩ := fw_ifp hE
  refine fw_putFz C hnm R ft_field_3_58 rfl ft_nonest_3_58 rfl hz23 hk_a0 d_Request_init_80 (fun H locs R => ?_)
  obtain ⟨S24, eS24, hE⟩ := fw_let_ex hE
  rw [← eS24] at R
  clear eS24
  refine lv_aload_n hx hb d_Request_init_83 rfl (lv_at hl 0 rfl) ?_
  refine lv_iload hx hb d_Request_init_84 (lv_at hl 4 rfl) ?_
  refine fw_putFi C hnm R ft_field_3_62 rfl ft_nonest_3_62 rfl hk_a0 d_Request_init_86 (fun H locs R => ?_)
  obtain ⟨S25, eS25, hE⟩ := fw_let_ex hE
  rw [← eS25] at R
  clear eS25
  refine lv_aload_n hx hb d_Request_init_89 rfl (lv_at hl 0 rfl) ?_
  refine fw_new C R cl_2 nd_2 ft_new_3_18 ni_2 nj_2 (Nat.le_of_ble_eq_true rfl) (Nat.le_of_ble_eq_true rfl) d_Request_init_90 (fun H kd28 hxkd28 hk_new R => ?_)
  refine W.widen (k := 6) (n := 156) (by decide) (by decide) ?_
  obtain ⟨b27, eb27, hE⟩ := fw_let_ex hE
  obtain ⟨S26, eS26, hE⟩ := fw_let_ex hE
  rw [← eS26] at R
  rw [← eb27] at hk_new ⊢
  have hk_b27 := hk_new
  have hXkd28 := fw_X.tr hXkd14 hxkd28
  have hk_a0 := hxkd28 _ _ hk_a0
  have hk_p5 := hxkd28 _ _ hk_p5
  have hk_b4 := hxkd28 _ _ hk_b4
  have hk_b11 := hxkd28 _ _ hk_b11
  clear eS26 eb27 hk_new
  refine lv_dup hx hb d_Request_init_93 rfl ?_
  refine lv_aload hx hb d_Request_init_94 (lv_at hl 5 rfl) ?_
  refine fw_get (v := .int (fw_g S26 p5 2)) C R ft_field_3_65 hk_p5 rfl d_Request_init_96 ?_
  obtain ⟨S29, hF, hE⟩ := fw_bind hE
  refine fw_callI (As := [.int (fw_g S26 p5 2)]) (rest := [.ref b27, .ref a0]) C R ft_callI_3_20 yi_Pairs_init rfl (ct_Pairs_init l G kd28 S26 _ _ _ hk_b27 hF) rfl hl.1 rfl (lv_room (Nat.le_of_ble_eq_true rfl)) ⟨Nat.le_of_ble_eq_true rfl, Nat.le_of_ble_eq_true rfl⟩ ⟨Nat.le_of_ble_eq_true rfl, Nat.le_of_ble_eq_true rfl⟩ d_Request_init_99 (fun H locs kd30 hxkd30 hP R => ?_)
  refine W.widen (k := 8) (n := 284) (by decide) (by decide) ?_
  have hXkd30 := fw_X.tr hXkd28 hxkd30
  have hk_a0 := hxkd30 _ _ hk_a0
  have hk_p5 := hxkd30 _ _ hk_p5
  have hk_b4 := hxkd30 _ _ hk_b4
  have hk_b11 := hxkd30 _ _ hk_b11
  have hk_b27 := hxkd30 _ _ hk_b27
  refine fw_putFr C hnm R ft_field_3_68 rfl ft_nonest_3_68 rfl rfl (by decide) hk_b27 hk_a0 d_Request_init_102 (fun H locs R => ?_)
  obtain ⟨S31, eS31, hE⟩ := fw_let_ex hE
  rw [← eS31] at R
  clear eS31
  refine lv_aload_n hx hb d_Request_init_105 rfl (lv_at hl 0 rfl) ?_
  refine lv_aload hx hb d_Request_init_106 (lv_at hl 5 rfl) ?_
  refine fw_get (v := .int (fw_g S31 p5 2)) C R ft_field_3_65 hk_p5 rfl d_Request_init_108 ?_
  refine lv_iconst (v := 0) hx hb d_Request_init_111 (by decide) ?_
  refine fw_max C ft_max_3_71 mmax_1 mmax_2 mmax_3 hl.1 (Nat.le_of_ble_eq_true rfl) (Nat.le_of_ble_eq_true rfl) (Nat.le_of_ble_eq_true rfl) (Nat.le_of_ble_eq_true rfl) d_Request_init_112 ?_
  obtain ⟨hb32, hE⟩ := fw_ifn hE
  refine fw_newai C R (fun q => hb32 (Or.inl q)) (fw_bd1 hb32) (by decide) (fw_bd2 hb32 (by decide)) d_Request_init_115 (fun H kd35 hxkd35 hk_new R => ?_)
  refine W.widen (k := 9) (n := 348) (by decide) (fw_bd3 hb32) ?_
  obtain ⟨b34, eb34, hE⟩ := fw_let_ex hE
  obtain ⟨S33, eS33, hE⟩ := fw_let_ex hE
  rw [← eS33] at R
  rw [← eb34] at hk_new ⊢
  have hk_b34 := hk_new
  have hXkd35 := fw_X.tr hXkd30 hxkd35
  have hk_a0 := hxkd35 _ _ hk_a0
  have hk_p5 := hxkd35 _ _ hk_p5
  have hk_b4 := hxkd35 _ _ hk_b4
  have hk_b11 := hxkd35 _ _ hk_b11
  have hk_b27 := hxkd35 _ _ hk_b27
  clear eS33 eb34 hk_new
  refine fw_putFr C hnm R ft_field_3_77 rfl ft_nonest_3_77 rfl rfl (by decide) hk_b34 hk_a0 d_Request_init_117 (fun H locs R => ?_)
  obtain ⟨S36, eS36, hE⟩ := fw_let_ex hE
  rw [← eS36] at R
  clear eS36
  refine lv_iconst (v := 0) hx hb d_Request_init_120 (by decide) ?_
  refine lv_istore (lv' := [(6, .int (0 : Int32)), (0, .ref a0), (1, .int p1), (2, .int p2), (3, .int p3), (4, .int p4), (5, .ref p5)]) hx hb d_Request_init_121 hl (by decide) rfl (fun ls hl => ?_)
  exact h_l123 _ _ _ _ _ _ hXkd35 hk_a0 hk_p5 _ _ _ R (lv_sub hl [1, 6, 0] rfl) hE
set_option maxHeartbeats 4000000 in
set_option maxRecDepth 100000 in
theorem ct_Request_hasKeysLeft (l : Launch) (G : fw_G) (kd0 : Nat → Option Nat) (S0 : fw_S) (a0 : Nat) (r0 : Int32) (hk_a0 : kd0 a0 = some 3) (hE : F_Request_hasKeysLeft a0 S0 = some r0) : fw_M l G y_Request_hasKeysLeft prog_5_method_3_code 1 (some .boolean) 0 0 0 0 kd0 S0 ([.ref a0] : List Value) (some (.int r0)) S0 (fun k => k = kd0) := by
  refine fw_start (by decide) (Nat.le_of_ble_eq_true rfl) ?_
  intro p e s m below meth c ls C hnm R hl
  clear hnm
  have hx := C.1
  have hb := C.2.1
  have hl : lv_has ls 1 [(0, .ref a0)] := hl
  unfold F_Request_hasKeysLeft at hE
  refine lv_aload_n hx hb d_Request_hasKeysLeft_0 rfl (lv_at hl 0 rfl) ?_
  refine fw_get (v := .int (fw_g S0 a0 6)) C R ft_field_3_15 hk_a0 rfl d_Request_hasKeysLeft_1 ?_
  refine lv_aload_n hx hb d_Request_hasKeysLeft_4 rfl (lv_at hl 0 rfl) ?_
  refine fw_get (v := .int (fw_g S0 a0 5)) C R ft_field_3_9 hk_a0 rfl d_Request_hasKeysLeft_5 ?_
  refine lv_icmp_ge (tgt := 15) hx hb d_Request_hasKeysLeft_8 (by decide) (fun hc => ?_) (fun hc => ?_)
  · replace hE := fw_if_t hc hE
    refine lv_iconst (v := 0) hx hb d_Request_hasKeysLeft_15 (by decide) ?_
    cases hE
    exact fw_zret C (by decide) fw_X.rf rfl R d_Request_hasKeysLeft_16
  · replace hE := fw_if_f hc hE
    refine lv_iconst (v := 1) hx hb d_Request_hasKeysLeft_11 (by decide) ?_
    refine lv_goto (tgt := 16) hx hb d_Request_hasKeysLeft_12 (by decide) ?_
    cases hE
    exact fw_zret C (by decide) fw_X.rf rfl R d_Request_hasKeysLeft_16
set_option maxHeartbeats 4000000 in
set_option maxRecDepth 100000 in
theorem ct_Request_nextStep (l : Launch) (G : fw_G) (kd0 : Nat → Option Nat) (S0 : fw_S) (a0 : Nat) (p1 : Int32) (S' : fw_S) (hk_a0 : kd0 a0 = some 3) (hE : F_Request_nextStep a0 p1 S0 = some S') : fw_M l G y_Request_nextStep prog_5_method_6_code 2 none 1 22 0 0 kd0 S0 ([.ref a0, .int p1] : List Value) none S' (fun k => k = kd0) := by
  refine fw_start (by decide) (Nat.le_of_ble_eq_true rfl) ?_
  intro p e s m below meth c ls C hnm R hl
  clear hnm
  have hx := C.1
  have hb := C.2.1
  have hl : lv_has ls 2 [(0, .ref a0), (1, .int p1)] := hl
  unfold F_Request_nextStep at hE
  refine lv_aload_n hx hb d_Request_nextStep_0 rfl (lv_at hl 0 rfl) ?_
  refine lv_aload_n hx hb d_Request_nextStep_1 rfl (lv_at hl 0 rfl) ?_
  refine fw_get (v := .int (fw_g S0 a0 11)) C R ft_field_3_37 hk_a0 rfl d_Request_nextStep_2 ?_
  refine lv_iconst (v := 1) hx hb d_Request_nextStep_5 (by decide) ?_
  refine lv_iadd hx hb d_Request_nextStep_6 ?_
  refine lv_sipush (v := 255) hx hb d_Request_nextStep_7 (by decide) ?_
  refine lv_iand hx hb d_Request_nextStep_10 ?_
  refine fw_puti C R ft_field_3_37 rfl hk_a0 d_Request_nextStep_11 (fun H locs R => ?_)
  obtain ⟨S1, eS1, hE⟩ := fw_let_ex hE
  rw [← eS1] at R
  clear eS1
  refine lv_aload_n hx hb d_Request_nextStep_14 rfl (lv_at hl 0 rfl) ?_
  refine fw_getr C R ft_field_3_33 hk_a0 rfl rfl d_Request_nextStep_15 (fun hq => ?_) (fun b2 hq hk_b2 => ?_)
  · replace hE := fw_om_none hq hE
    refine lv_iload_n hx hb d_Request_nextStep_18 rfl (lv_at hl 1 rfl) ?_
    refine lv_aload_n hx hb d_Request_nextStep_19 rfl (lv_at hl 0 rfl) ?_
    refine fw_get (v := .int (fw_g S1 a0 10)) C R ft_field_3_52 hk_a0 rfl d_Request_nextStep_20 ?_
    cases hE
  · replace hE := fw_om_some hq hE
    refine lv_iload_n hx hb d_Request_nextStep_18 rfl (lv_at hl 1 rfl) ?_
    refine lv_aload_n hx hb d_Request_nextStep_19 rfl (lv_at hl 0 rfl) ?_
    refine fw_get (v := .int (fw_g S1 a0 10)) C R ft_field_3_52 hk_a0 rfl d_Request_nextStep_20 ?_
    obtain ⟨S3, hF, hE⟩ := fw_bind hE
    refine fw_callV (As := [.int p1, .int (fw_g S1 a0 10)]) (rest := []) C R ft_callV_3_104 yi_Frame_begin ys_Frame_begin (ct_Frame_begin l G kd0 S1 _ _ _ _ hk_b2 hF) hk_b2 (by decide) rfl rfl hl.1 rfl (lv_room (Nat.le_of_ble_eq_true rfl)) ⟨Nat.le_of_ble_eq_true rfl, Nat.le_of_ble_eq_true rfl⟩ ⟨Nat.le_of_ble_eq_true rfl, Nat.le_of_ble_eq_true rfl⟩ d_Request_nextStep_23 (fun H locs kd4 hxkd4 hP R => ?_)
    rw [hP] at R; clear hP hxkd4
    refine lv_aload_n hx hb d_Request_nextStep_26 rfl (lv_at hl 0 rfl) ?_
    refine fw_getr C R ft_field_3_33 hk_a0 rfl rfl d_Request_nextStep_27 (fun hq => ?_) (fun b5 hq hk_b5 => ?_)
    · replace hE := fw_om_none hq hE
      refine lv_aload_n hx hb d_Request_nextStep_30 rfl (lv_at hl 0 rfl) ?_
      refine fw_get (v := .int (fw_g S3 a0 11)) C R ft_field_3_37 hk_a0 rfl d_Request_nextStep_31 ?_
      cases hE
    · replace hE := fw_om_some hq hE
      refine lv_aload_n hx hb d_Request_nextStep_30 rfl (lv_at hl 0 rfl) ?_
      refine fw_get (v := .int (fw_g S3 a0 11)) C R ft_field_3_37 hk_a0 rfl d_Request_nextStep_31 ?_
      obtain ⟨S6, hF, hE⟩ := fw_bind hE
      refine fw_callV (As := [.int (fw_g S3 a0 11)]) (rest := []) C R ft_callV_3_101 yi_Frame_put ys_Frame_put (ct_Frame_put l G kd0 S3 _ _ _ hk_b5 hF) hk_b5 (by decide) rfl rfl hl.1 rfl (lv_room (Nat.le_of_ble_eq_true rfl)) ⟨Nat.le_of_ble_eq_true rfl, Nat.le_of_ble_eq_true rfl⟩ ⟨Nat.le_of_ble_eq_true rfl, Nat.le_of_ble_eq_true rfl⟩ d_Request_nextStep_34 (fun H locs kd7 hxkd7 hP R => ?_)
      rw [hP] at R; clear hP hxkd7
      cases hE
      exact fw_vret C fw_X.rf rfl R d_Request_nextStep_37
set_option maxHeartbeats 4000000 in
set_option maxRecDepth 100000 in
theorem ct_Request_writeAsk (l : Launch) (G : fw_G) (kd0 : Nat → Option Nat) (S0 : fw_S) (a0 : Nat) (S' : fw_S) (hk_a0 : kd0 a0 = some 3) (hE : F_Request_writeAsk a0 S0 = some S') : fw_M l G y_Request_writeAsk prog_5_method_4_code 3 none 2 43 0 0 kd0 S0 ([.ref a0] : List Value) none S' (fun k => k = kd0) := by
  refine fw_start (by decide) (Nat.le_of_ble_eq_true rfl) ?_
  intro p e s m below meth c ls C hnm R hl
  clear hnm
  have hx := C.1
  have hb := C.2.1
  have hl : lv_has ls 3 [(0, .ref a0)] := hl
  have h_j63 : ∀ v0 : Nat, ∀ v1 : Int32, ∀ S0 : fw_S, kd0 v0 = some 3 → ∀ (H : Heap) (locs : List Loc) (ls : Array Slot), fw_R G kd0 S0 H locs → lv_has ls 3 [(0, .ref v0), (1, .int v1)] → F_Request_writeAsk_j63 v0 v1 S0 = some S' → W p l e { frames := 2, cells := 0, slots := 0, locals := 43 } s m ([.ref a0] : List Value).toArray below meth c H locs 0 0 (MQ below (fw_Q G kd0 none S' (fun k => k = kd0)) ([.ref a0] : List Value).toArray s 0 0 (fw_A G)) (F0 m 63 ls []) := by
    intro v0 v1 S0 hk_v0 H locs ls R hl hE
    unfold F_Request_writeAsk_j63 at hE
    refine lv_aload_n hx hb d_Request_writeAsk_63 rfl (lv_at hl 0 rfl) ?_
    refine lv_iload_n hx hb d_Request_writeAsk_64 rfl (lv_at hl 1 rfl) ?_
    refine fw_puti C R ft_field_3_15 rfl hk_v0 d_Request_writeAsk_65 (fun H locs R => ?_)
    obtain ⟨S6, eS6, hE⟩ := fw_let_ex hE
    rw [← eS6] at R
    clear eS6
    refine lv_aload_n hx hb d_Request_writeAsk_68 rfl (lv_at hl 0 rfl) ?_
    refine lv_iconst (v := 0) hx hb d_Request_writeAsk_69 (by decide) ?_
    refine fw_puti C R ft_field_3_27 rfl hk_v0 d_Request_writeAsk_70 (fun H locs R => ?_)
    obtain ⟨S7, eS7, hE⟩ := fw_let_ex hE
    rw [← eS7] at R
    clear eS7
    cases hE
    exact fw_vret C fw_X.rf rfl R d_Request_writeAsk_73
  have h_l39 : ∀ (n : Nat), ∀ v0 : Nat, ∀ v1 : Int32, ∀ v2 : Int32, ∀ S0 : fw_S, kd0 v0 = some 3 → ∀ (H : Heap) (locs : List Loc) (ls : Array Slot), fw_R G kd0 S0 H locs → lv_has ls 3 [(0, .ref v0), (1, .int v1), (2, .int v2)] → F_Request_writeAsk_l39 n v0 v1 v2 S0 = some S' → W p l e { frames := 2, cells := 0, slots := 0, locals := 43 } s m ([.ref a0] : List Value).toArray below meth c H locs 0 0 (MQ below (fw_Q G kd0 none S' (fun k => k = kd0)) ([.ref a0] : List Value).toArray s 0 0 (fw_A G)) (F0 m 39 ls []) := by
    intro n
    induction n with
    | zero =>
      intro v0 v1 v2 S0 hk_v0 H locs ls R hl hE
      rw [F_Request_writeAsk_l39] at hE
      cases hE
    | succ n ih =>
      intro v0 v1 v2 S0 hk_v0 H locs ls R hl hE
      rw [F_Request_writeAsk_l39] at hE
      refine lv_iload_n hx hb d_Request_writeAsk_39 rfl (lv_at hl 2 rfl) ?_
      refine lv_iload_n hx hb d_Request_writeAsk_40 rfl (lv_at hl 1 rfl) ?_
      refine lv_icmp_ge (tgt := 63) hx hb d_Request_writeAsk_41 (by decide) (fun hc => ?_) (fun hc => ?_)
      · replace hE := fw_if_t hc hE
        exact h_j63 _ _ _ hk_v0 _ _ _ R (lv_sub hl [0, 1] rfl) hE
      · replace hE := fw_if_f hc hE
        refine lv_aload_n hx hb d_Request_writeAsk_44 rfl (lv_at hl 0 rfl) ?_
        refine fw_getr C R ft_field_3_33 hk_v0 rfl rfl d_Request_writeAsk_45 (fun hq => ?_) (fun b8 hq hk_b8 => ?_)
        · replace hE := fw_om_none hq hE
          refine lv_aload_n hx hb d_Request_writeAsk_48 rfl (lv_at hl 0 rfl) ?_
          refine fw_getr C R ft_field_3_77 hk_v0 rfl rfl d_Request_writeAsk_49 (fun hq => ?_) (fun b9 hq hk_b9 => ?_)
          · replace hE := fw_om_none hq hE
            refine lv_iload_n hx hb d_Request_writeAsk_52 rfl (lv_at hl 2 rfl) ?_
            cases hE
          · replace hE := fw_om_some hq hE
            refine lv_iload_n hx hb d_Request_writeAsk_52 rfl (lv_at hl 2 rfl) ?_
            obtain ⟨hi10, hE⟩ := fw_ifn hE
            refine fw_iald C R (by decide) hk_b9 hi10 d_Request_writeAsk_53 ?_
            cases hE
        · replace hE := fw_om_some hq hE
          refine lv_aload_n hx hb d_Request_writeAsk_48 rfl (lv_at hl 0 rfl) ?_
          refine fw_getr C R ft_field_3_77 hk_v0 rfl rfl d_Request_writeAsk_49 (fun hq => ?_) (fun b11 hq hk_b11 => ?_)
          · replace hE := fw_om_none hq hE
            refine lv_iload_n hx hb d_Request_writeAsk_52 rfl (lv_at hl 2 rfl) ?_
            cases hE
          · replace hE := fw_om_some hq hE
            refine lv_iload_n hx hb d_Request_writeAsk_52 rfl (lv_at hl 2 rfl) ?_
            obtain ⟨hi12, hE⟩ := fw_ifn hE
            refine fw_iald C R (by decide) hk_b11 hi12 d_Request_writeAsk_53 ?_
            obtain ⟨S13, hF, hE⟩ := fw_bind hE
            refine fw_callV (As := [.int (fw_g S0 b11 v2.toNatClampNeg)]) (rest := []) C R ft_callV_3_101 yi_Frame_put ys_Frame_put (ct_Frame_put l G kd0 S0 _ _ _ hk_b8 hF) hk_b8 (by decide) rfl rfl hl.1 rfl (lv_room (Nat.le_of_ble_eq_true rfl)) ⟨Nat.le_of_ble_eq_true rfl, Nat.le_of_ble_eq_true rfl⟩ ⟨Nat.le_of_ble_eq_true rfl, Nat.le_of_ble_eq_true rfl⟩ d_Request_writeAsk_54 (fun H locs kd14 hxkd14 hP R => ?_)
            rw [hP] at R; clear hP hxkd14
            refine lv_iinc (v := (v2 + (1 : Int32))) (lv' := [(2, .int (v2 + (1 : Int32))), (0, .ref v0), (1, .int v1)]) hx hb d_Request_writeAsk_57 hl (k := 2) rfl rfl (by decide) rfl (fun ls hl => ?_)
            refine lv_goto (tgt := 39) hx hb d_Request_writeAsk_60 (by decide) ?_
            exact ih _ _ _ _ hk_v0 _ _ _ R (lv_sub hl [1, 2, 0] rfl) hE
  unfold F_Request_writeAsk at hE
  refine lv_aload_n hx hb d_Request_writeAsk_0 rfl (lv_at hl 0 rfl) ?_
  refine lv_iconst (v := 1) hx hb d_Request_writeAsk_1 (by decide) ?_
  obtain ⟨S1, hF, hE⟩ := fw_bind hE
  refine fw_callV (As := [.int (1 : Int32)]) (rest := []) C R ft_callV_3_95 yi_Request_nextStep ys_Request_nextStep (ct_Request_nextStep l G kd0 S0 _ _ _ hk_a0 hF) hk_a0 (by decide) rfl rfl hl.1 rfl (lv_room (Nat.le_of_ble_eq_true rfl)) ⟨Nat.le_of_ble_eq_true rfl, Nat.le_of_ble_eq_true rfl⟩ ⟨Nat.le_of_ble_eq_true rfl, Nat.le_of_ble_eq_true rfl⟩ d_Request_writeAsk_2 (fun H locs kd2 hxkd2 hP R => ?_)
  rw [hP] at R; clear hP hxkd2
  refine lv_aload_n hx hb d_Request_writeAsk_5 rfl (lv_at hl 0 rfl) ?_
  refine fw_get (v := .int (fw_g S1 a0 6)) C R ft_field_3_15 hk_a0 rfl d_Request_writeAsk_6 ?_
  refine lv_aload_n hx hb d_Request_writeAsk_9 rfl (lv_at hl 0 rfl) ?_
  refine fw_get (v := .int (fw_g S1 a0 2)) C R ft_field_3_62 hk_a0 rfl d_Request_writeAsk_10 ?_
  refine lv_iadd hx hb d_Request_writeAsk_13 ?_
  refine lv_aload_n hx hb d_Request_writeAsk_14 rfl (lv_at hl 0 rfl) ?_
  refine fw_get (v := .int (fw_g S1 a0 5)) C R ft_field_3_9 hk_a0 rfl d_Request_writeAsk_15 ?_
  refine fw_min C ft_min_3_98 mmin_1 mmin_2 mmin_3 hl.1 (Nat.le_of_ble_eq_true rfl) (Nat.le_of_ble_eq_true rfl) (Nat.le_of_ble_eq_true rfl) (Nat.le_of_ble_eq_true rfl) d_Request_writeAsk_18 ?_
  refine lv_aload_n hx hb d_Request_writeAsk_21 rfl (lv_at hl 0 rfl) ?_
  refine fw_getr C R ft_field_3_77 hk_a0 rfl rfl d_Request_writeAsk_22 (fun hq => ?_) (fun b3 hq hk_b3 => ?_)
  · replace hE := fw_om_none hq hE
    cases hE
  · replace hE := fw_om_some hq hE
    refine fw_alen (K := 100) (ty := .int) C R (by decide) (by decide) hk_b3 d_Request_writeAsk_25 ?_
    refine fw_min C ft_min_3_98 mmin_1 mmin_2 mmin_3 hl.1 (Nat.le_of_ble_eq_true rfl) (Nat.le_of_ble_eq_true rfl) (Nat.le_of_ble_eq_true rfl) (Nat.le_of_ble_eq_true rfl) d_Request_writeAsk_26 ?_
    refine lv_topi (fun x4 ex4 => ?_)
    replace hE := fw_let_use ex4 hE
    clear ex4
    refine lv_istore_n (lv' := [(1, .int x4), (0, .ref a0)]) hx hb d_Request_writeAsk_29 rfl hl (by decide) rfl (fun ls hl => ?_)
    refine lv_aload_n hx hb d_Request_writeAsk_30 rfl (lv_at hl 1 rfl) ?_
    refine fw_get (v := .int (fw_g S1 a0 6)) C R ft_field_3_15 hk_a0 rfl d_Request_writeAsk_31 ?_
    refine lv_iconst (v := 0) hx hb d_Request_writeAsk_34 (by decide) ?_
    refine fw_max C ft_max_3_71 mmax_1 mmax_2 mmax_3 hl.1 (Nat.le_of_ble_eq_true rfl) (Nat.le_of_ble_eq_true rfl) (Nat.le_of_ble_eq_true rfl) (Nat.le_of_ble_eq_true rfl) d_Request_writeAsk_35 ?_
    refine lv_topi (fun x5 ex5 => ?_)
    replace hE := fw_let_use ex5 hE
    clear ex5
    refine lv_istore_n (lv' := [(2, .int x5), (1, .int x4), (0, .ref a0)]) hx hb d_Request_writeAsk_38 rfl hl (by decide) rfl (fun ls hl => ?_)
    exact h_l39 _ _ _ _ _ hk_a0 _ _ _ R (lv_sub hl [2, 1, 0] rfl) hE
set_option maxHeartbeats 4000000 in
set_option maxRecDepth 100000 in
theorem ct_Request_writeMore (l : Launch) (G : fw_G) (kd0 : Nat → Option Nat) (S0 : fw_S) (a0 : Nat) (S' : fw_S) (hk_a0 : kd0 a0 = some 3) (hE : F_Request_writeMore a0 S0 = some S') : fw_M l G y_Request_writeMore prog_5_method_5_code 1 none 2 43 0 0 kd0 S0 ([.ref a0] : List Value) none S' (fun k => k = kd0) := by
  refine fw_start (by decide) (Nat.le_of_ble_eq_true rfl) ?_
  intro p e s m below meth c ls C hnm R hl
  clear hnm
  have hx := C.1
  have hb := C.2.1
  have hl : lv_has ls 1 [(0, .ref a0)] := hl
  unfold F_Request_writeMore at hE
  refine lv_aload_n hx hb d_Request_writeMore_0 rfl (lv_at hl 0 rfl) ?_
  refine lv_iconst (v := 3) hx hb d_Request_writeMore_1 (by decide) ?_
  obtain ⟨S1, hF, hE⟩ := fw_bind hE
  refine fw_callV (As := [.int (3 : Int32)]) (rest := []) C R ft_callV_3_95 yi_Request_nextStep ys_Request_nextStep (ct_Request_nextStep l G kd0 S0 _ _ _ hk_a0 hF) hk_a0 (by decide) rfl rfl hl.1 rfl (lv_room (Nat.le_of_ble_eq_true rfl)) ⟨Nat.le_of_ble_eq_true rfl, Nat.le_of_ble_eq_true rfl⟩ ⟨Nat.le_of_ble_eq_true rfl, Nat.le_of_ble_eq_true rfl⟩ d_Request_writeMore_2 (fun H locs kd2 hxkd2 hP R => ?_)
  rw [hP] at R; clear hP hxkd2
  refine lv_aload_n hx hb d_Request_writeMore_5 rfl (lv_at hl 0 rfl) ?_
  refine fw_getr C R ft_field_3_33 hk_a0 rfl rfl d_Request_writeMore_6 (fun hq => ?_) (fun b3 hq hk_b3 => ?_)
  · replace hE := fw_om_none hq hE
    refine lv_aload_n hx hb d_Request_writeMore_9 rfl (lv_at hl 0 rfl) ?_
    refine fw_get (v := .int (fw_g S1 a0 8)) C R ft_field_3_27 hk_a0 rfl d_Request_writeMore_10 ?_
    cases hE
  · replace hE := fw_om_some hq hE
    refine lv_aload_n hx hb d_Request_writeMore_9 rfl (lv_at hl 0 rfl) ?_
    refine fw_get (v := .int (fw_g S1 a0 8)) C R ft_field_3_27 hk_a0 rfl d_Request_writeMore_10 ?_
    obtain ⟨S4, hF, hE⟩ := fw_bind hE
    refine fw_callV (As := [.int (fw_g S1 a0 8)]) (rest := []) C R ft_callV_3_101 yi_Frame_put ys_Frame_put (ct_Frame_put l G kd0 S1 _ _ _ hk_b3 hF) hk_b3 (by decide) rfl rfl hl.1 rfl (lv_room (Nat.le_of_ble_eq_true rfl)) ⟨Nat.le_of_ble_eq_true rfl, Nat.le_of_ble_eq_true rfl⟩ ⟨Nat.le_of_ble_eq_true rfl, Nat.le_of_ble_eq_true rfl⟩ d_Request_writeMore_13 (fun H locs kd5 hxkd5 hP R => ?_)
    rw [hP] at R; clear hP hxkd5
    cases hE
    exact fw_vret C fw_X.rf rfl R d_Request_writeMore_16
set_option maxHeartbeats 4000000 in
set_option maxRecDepth 100000 in
theorem ct_Request_waitsFor (l : Launch) (G : fw_G) (kd0 : Nat → Option Nat) (S0 : fw_S) (a0 : Nat) (p1 : Nat) (p2 : Int32) (r0 : Int32) (hk_a0 : kd0 a0 = some 3) (hk_p1 : kd0 p1 = some 0) (hE : F_Request_waitsFor a0 p1 p2 S0 = some r0) : fw_M l G y_Request_waitsFor prog_5_method_7_code 3 (some .boolean) 1 21 0 0 kd0 S0 ([.ref a0, .ref p1, .int p2] : List Value) (some (.int r0)) S0 (fun k => k = kd0) := by
  refine fw_start (by decide) (Nat.le_of_ble_eq_true rfl) ?_
  intro p e s m below meth c ls C hnm R hl
  clear hnm
  have hx := C.1
  have hb := C.2.1
  have hl : lv_has ls 3 [(0, .ref a0), (1, .ref p1), (2, .int p2)] := hl
  unfold F_Request_waitsFor at hE
  refine lv_aload_n hx hb d_Request_waitsFor_0 rfl (lv_at hl 0 rfl) ?_
  refine fw_get (v := .int (fw_g S0 a0 14)) C R ft_field_3_46 hk_a0 rfl d_Request_waitsFor_1 ?_
  refine lv_if_ne (tgt := 47) hx hb d_Request_waitsFor_4 (by decide) (fun hc => ?_) (fun hc => ?_)
  · replace hE := fw_if_f hc hE
    refine lv_iconst (v := 0) hx hb d_Request_waitsFor_47 (by decide) ?_
    cases hE
    exact fw_zret C (by decide) fw_X.rf rfl R d_Request_waitsFor_48
  · replace hE := fw_if_t hc hE
    refine lv_aload_n hx hb d_Request_waitsFor_7 rfl (lv_at hl 0 rfl) ?_
    refine fw_get (v := .int (fw_g S0 a0 0)) C R ft_field_3_55 hk_a0 rfl d_Request_waitsFor_8 ?_
    refine lv_iload_n hx hb d_Request_waitsFor_11 rfl (lv_at hl 2 rfl) ?_
    refine lv_icmp_ne (tgt := 47) hx hb d_Request_waitsFor_12 (by decide) (fun hc => ?_) (fun hc => ?_)
    · replace hE := fw_if_f hc hE
      refine lv_iconst (v := 0) hx hb d_Request_waitsFor_47 (by decide) ?_
      cases hE
      exact fw_zret C (by decide) fw_X.rf rfl R d_Request_waitsFor_48
    · replace hE := fw_if_t hc hE
      refine lv_aload_n hx hb d_Request_waitsFor_15 rfl (lv_at hl 1 rfl) ?_
      refine lv_iconst (v := 0) hx hb d_Request_waitsFor_16 (by decide) ?_
      obtain ⟨x1, hF, hE⟩ := fw_bind hE
      refine fw_callV (As := [.int (0 : Int32)]) (rest := []) C R ft_callV_3_108 yi_Frame_byteAt ys_Frame_byteAt (ct_Frame_byteAt l G kd0 S0 _ _ _ hk_p1 hF) hk_p1 (by decide) rfl rfl hl.1 rfl (lv_room (Nat.le_of_ble_eq_true rfl)) ⟨Nat.le_of_ble_eq_true rfl, Nat.le_of_ble_eq_true rfl⟩ ⟨Nat.le_of_ble_eq_true rfl, Nat.le_of_ble_eq_true rfl⟩ d_Request_waitsFor_17 (fun H locs kd2 hxkd2 hP R => ?_)
      rw [hP] at R; clear hP hxkd2
      refine lv_aload_n hx hb d_Request_waitsFor_20 rfl (lv_at hl 0 rfl) ?_
      refine fw_get (v := .int (fw_g S0 a0 11)) C R ft_field_3_37 hk_a0 rfl d_Request_waitsFor_21 ?_
      refine lv_icmp_ne (tgt := 47) hx hb d_Request_waitsFor_24 (by decide) (fun hc => ?_) (fun hc => ?_)
      · replace hE := fw_if_f hc hE
        refine lv_iconst (v := 0) hx hb d_Request_waitsFor_47 (by decide) ?_
        cases hE
        exact fw_zret C (by decide) fw_X.rf rfl R d_Request_waitsFor_48
      · replace hE := fw_if_t hc hE
        refine lv_aload_n hx hb d_Request_waitsFor_27 rfl (lv_at hl 1 rfl) ?_
        refine fw_get (v := .int (fw_g S0 p1 0)) C R ft_field_3_111 hk_p1 rfl d_Request_waitsFor_28 ?_
        refine lv_iconst (v := 2) hx hb d_Request_waitsFor_31 (by decide) ?_
        refine lv_icmp_eq (tgt := 43) hx hb d_Request_waitsFor_32 (by decide) (fun hc => ?_) (fun hc => ?_)
        · replace hE := fw_if_t hc hE
          refine lv_iconst (v := 1) hx hb d_Request_waitsFor_43 (by decide) ?_
          refine lv_goto (tgt := 48) hx hb d_Request_waitsFor_44 (by decide) ?_
          cases hE
          exact fw_zret C (by decide) fw_X.rf rfl R d_Request_waitsFor_48
        · replace hE := fw_if_f hc hE
          refine lv_aload_n hx hb d_Request_waitsFor_35 rfl (lv_at hl 1 rfl) ?_
          refine fw_get (v := .int (fw_g S0 p1 0)) C R ft_field_3_111 hk_p1 rfl d_Request_waitsFor_36 ?_
          refine lv_iconst (v := 4) hx hb d_Request_waitsFor_39 (by decide) ?_
          refine lv_icmp_ne (tgt := 47) hx hb d_Request_waitsFor_40 (by decide) (fun hc => ?_) (fun hc => ?_)
          · replace hE := fw_if_f hc hE
            refine lv_iconst (v := 0) hx hb d_Request_waitsFor_47 (by decide) ?_
            cases hE
            exact fw_zret C (by decide) fw_X.rf rfl R d_Request_waitsFor_48
          · replace hE := fw_if_t hc hE
            refine lv_iconst (v := 1) hx hb d_Request_waitsFor_43 (by decide) ?_
            refine lv_goto (tgt := 48) hx hb d_Request_waitsFor_44 (by decide) ?_
            cases hE
            exact fw_zret C (by decide) fw_X.rf rfl R d_Request_waitsFor_48
