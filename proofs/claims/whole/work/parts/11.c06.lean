set_option maxHeartbeats 4000000 in
set_option maxRecDepth 100000 in
theorem ct_Mo_finish (l : Launch) (G : fw_G) (kd0 : Nat → Option Nat) (S0 : fw_S) (a0 : Nat) (p1 : Int32) (S' : fw_S) (hk_a0 : kd0 a0 = some 7) (hE : F_Mo_finish a0 p1 S0 = some S') : fw_M l G y_Mo_finish prog_9_method_8_code 4 none 0 0 0 0 kd0 S0 ([.ref a0, .int p1] : List Value) none S' (fun k => k = kd0) := by
  refine fw_start (by decide) (Nat.le_of_ble_eq_true rfl) ?_
  intro p e s m below meth c ls C hnm R hl
  clear hnm
  have hx := C.1
  have hb := C.2.1
  have hl : lv_has ls 4 [(0, .ref a0), (1, .int p1)] := hl
  unfold F_Mo_finish at hE
  refine lv_aload_n hx hb d_Mo_finish_0 rfl (lv_at hl 0 rfl) ?_
  refine fw_getr C R ft_field_7_48 hk_a0 rfl rfl d_Mo_finish_1 (fun hq => ?_) (fun b1 hq hk_b1 => ?_)
  · replace hE := fw_om_none hq hE
    refine lv_iload_n hx hb d_Mo_finish_4 rfl (lv_at hl 1 rfl) ?_
    refine lv_iconst (v := 1) hx hb d_Mo_finish_5 (by decide) ?_
    cases hE
  · replace hE := fw_om_some hq hE
    refine lv_iload_n hx hb d_Mo_finish_4 rfl (lv_at hl 1 rfl) ?_
    refine lv_iconst (v := 1) hx hb d_Mo_finish_5 (by decide) ?_
    obtain ⟨hi2, hE⟩ := fw_ifn hE
    refine fw_iast C R (by decide) hk_b1 hi2 d_Mo_finish_6 (fun H locs R => ?_)
    obtain ⟨S3, eS3, hE⟩ := fw_let_ex hE
    rw [← eS3] at R
    clear eS3
    refine lv_aload_n hx hb d_Mo_finish_7 rfl (lv_at hl 0 rfl) ?_
    refine fw_getr C R ft_field_7_42 hk_a0 rfl rfl d_Mo_finish_8 (fun hq => ?_) (fun b4 hq hk_b4 => ?_)
    · replace hE := fw_om_none hq hE
      refine lv_iload_n hx hb d_Mo_finish_11 rfl (lv_at hl 1 rfl) ?_
      cases hE
    · replace hE := fw_om_some hq hE
      refine lv_iload_n hx hb d_Mo_finish_11 rfl (lv_at hl 1 rfl) ?_
      obtain ⟨hi5, hE⟩ := fw_ifn hE
      refine fw_iald C R (by decide) hk_b4 hi5 d_Mo_finish_12 ?_
      refine lv_topi (fun x6 ex6 => ?_)
      replace hE := fw_let_use ex6 hE
      clear ex6
      refine lv_istore_n (lv' := [(2, .int x6), (0, .ref a0), (1, .int p1)]) hx hb d_Mo_finish_13 rfl hl (by decide) rfl (fun ls hl => ?_)
      refine lv_aload_n hx hb d_Mo_finish_14 rfl (lv_at hl 1 rfl) ?_
      refine fw_getr C R ft_field_7_75 hk_a0 rfl rfl d_Mo_finish_15 (fun hq => ?_) (fun b7 hq hk_b7 => ?_)
      · replace hE := fw_om_none hq hE
        refine lv_iload_n hx hb d_Mo_finish_18 rfl (lv_at hl 2 rfl) ?_
        cases hE
      · replace hE := fw_om_some hq hE
        refine lv_iload_n hx hb d_Mo_finish_18 rfl (lv_at hl 2 rfl) ?_
        obtain ⟨hi8, hE⟩ := fw_ifn hE
        refine fw_iald C R (by decide) hk_b7 hi8 d_Mo_finish_19 ?_
        refine lv_sipush (v := 1000) hx hb d_Mo_finish_20 (by decide) ?_
        refine lv_imul hx hb d_Mo_finish_23 ?_
        refine lv_aload_n hx hb d_Mo_finish_24 rfl (lv_at hl 1 rfl) ?_
        refine fw_getr C R ft_field_7_63 hk_a0 rfl rfl d_Mo_finish_25 (fun hq => ?_) (fun b9 hq hk_b9 => ?_)
        · replace hE := fw_om_none hq hE
          refine lv_iload_n hx hb d_Mo_finish_28 rfl (lv_at hl 2 rfl) ?_
          cases hE
        · replace hE := fw_om_some hq hE
          refine lv_iload_n hx hb d_Mo_finish_28 rfl (lv_at hl 2 rfl) ?_
          obtain ⟨hi10, hE⟩ := fw_ifn hE
          refine fw_iald C R (by decide) hk_b9 hi10 d_Mo_finish_29 ?_
          obtain ⟨hne11, hE⟩ := fw_ifn hE
          refine lv_idiv hx hb d_Mo_finish_30 hne11 ?_
          refine lv_topi (fun x12 ex12 => ?_)
          replace hE := fw_let_use ex12 hE
          clear ex12
          refine lv_istore_n (lv' := [(3, .int x12), (2, .int x6), (0, .ref a0), (1, .int p1)]) hx hb d_Mo_finish_31 rfl hl (by decide) rfl (fun ls hl => ?_)
          refine lv_aload_n hx hb d_Mo_finish_32 rfl (lv_at hl 2 rfl) ?_
          refine fw_getr C R ft_field_7_105 hk_a0 rfl rfl d_Mo_finish_33 (fun hq => ?_) (fun b13 hq hk_b13 => ?_)
          · replace hE := fw_om_none hq hE
            refine lv_iload_n hx hb d_Mo_finish_36 rfl (lv_at hl 1 rfl) ?_
            refine lv_aload_n hx hb d_Mo_finish_37 rfl (lv_at hl 2 rfl) ?_
            refine fw_getr C R ft_field_7_108 hk_a0 rfl rfl d_Mo_finish_38 (fun hq => ?_) (fun b14 hq hk_b14 => ?_)
            · replace hE := fw_om_none hq hE
              refine lv_iload_n hx hb d_Mo_finish_41 rfl (lv_at hl 1 rfl) ?_
              cases hE
            · replace hE := fw_om_some hq hE
              refine lv_iload_n hx hb d_Mo_finish_41 rfl (lv_at hl 1 rfl) ?_
              obtain ⟨hi15, hE⟩ := fw_ifn hE
              refine fw_zald C R (by decide) hk_b14 hi15 d_Mo_finish_42 ?_
              refine lv_if_eq (tgt := 59) hx hb d_Mo_finish_43 (by decide) (fun hc => ?_) (fun hc => ?_)
              · replace hE := fw_if_t hc hE
                refine lv_iload_n hx hb d_Mo_finish_59 rfl (lv_at hl 0 rfl) ?_
                cases hE
              · replace hE := fw_if_f hc hE
                refine lv_aload_n hx hb d_Mo_finish_46 rfl (lv_at hl 2 rfl) ?_
                refine fw_getr C R ft_field_7_105 hk_a0 rfl rfl d_Mo_finish_47 (fun hq => ?_) (fun b16 hq hk_b16 => ?_)
                · replace hE := fw_om_none hq hE
                  refine lv_iload_n hx hb d_Mo_finish_50 rfl (lv_at hl 1 rfl) ?_
                  cases hE
                · replace hE := fw_om_some hq hE
                  refine lv_iload_n hx hb d_Mo_finish_50 rfl (lv_at hl 1 rfl) ?_
                  obtain ⟨hi17, hE⟩ := fw_ifn hE
                  refine fw_iald C R (by decide) hk_b16 hi17 d_Mo_finish_51 ?_
                  refine lv_iload_n hx hb d_Mo_finish_52 rfl (lv_at hl 0 rfl) ?_
                  refine lv_iadd hx hb d_Mo_finish_53 ?_
                  refine lv_iconst (v := 2) hx hb d_Mo_finish_54 (by decide) ?_
                  refine lv_idiv hx hb d_Mo_finish_55 (by decide) ?_
                  refine lv_goto (tgt := 60) hx hb d_Mo_finish_56 (by decide) ?_
                  cases hE
          · replace hE := fw_om_some hq hE
            refine lv_iload_n hx hb d_Mo_finish_36 rfl (lv_at hl 1 rfl) ?_
            refine lv_aload_n hx hb d_Mo_finish_37 rfl (lv_at hl 2 rfl) ?_
            refine fw_getr C R ft_field_7_108 hk_a0 rfl rfl d_Mo_finish_38 (fun hq => ?_) (fun b18 hq hk_b18 => ?_)
            · replace hE := fw_om_none hq hE
              refine lv_iload_n hx hb d_Mo_finish_41 rfl (lv_at hl 1 rfl) ?_
              cases hE
            · replace hE := fw_om_some hq hE
              refine lv_iload_n hx hb d_Mo_finish_41 rfl (lv_at hl 1 rfl) ?_
              obtain ⟨hi19, hE⟩ := fw_ifn hE
              refine fw_zald C R (by decide) hk_b18 hi19 d_Mo_finish_42 ?_
              refine lv_if_eq (tgt := 59) hx hb d_Mo_finish_43 (by decide) (fun hc => ?_) (fun hc => ?_)
              · replace hE := fw_if_t hc hE
                refine lv_iload_n hx hb d_Mo_finish_59 rfl (lv_at hl 0 rfl) ?_
                obtain ⟨hi20, hE⟩ := fw_ifn hE
                refine fw_iast C R (by decide) hk_b13 hi20 d_Mo_finish_60 (fun H locs R => ?_)
                obtain ⟨S21, eS21, hE⟩ := fw_let_ex hE
                rw [← eS21] at R
                clear eS21
                refine lv_aload_n hx hb d_Mo_finish_61 rfl (lv_at hl 2 rfl) ?_
                refine fw_getr C R ft_field_7_108 hk_a0 rfl rfl d_Mo_finish_62 (fun hq => ?_) (fun b22 hq hk_b22 => ?_)
                · replace hE := fw_om_none hq hE
                  refine lv_iload_n hx hb d_Mo_finish_65 rfl (lv_at hl 1 rfl) ?_
                  refine lv_iconst (v := 1) hx hb d_Mo_finish_66 (by decide) ?_
                  cases hE
                · replace hE := fw_om_some hq hE
                  refine lv_iload_n hx hb d_Mo_finish_65 rfl (lv_at hl 1 rfl) ?_
                  refine lv_iconst (v := 1) hx hb d_Mo_finish_66 (by decide) ?_
                  obtain ⟨hi23, hE⟩ := fw_ifn hE
                  refine fw_zast C R (by decide) hk_b22 (by decide) hi23 d_Mo_finish_67 (fun H locs R => ?_)
                  obtain ⟨S24, eS24, hE⟩ := fw_let_ex hE
                  rw [← eS24] at R
                  clear eS24
                  cases hE
                  exact fw_vret C fw_X.rf rfl R d_Mo_finish_68
              · replace hE := fw_if_f hc hE
                refine lv_aload_n hx hb d_Mo_finish_46 rfl (lv_at hl 2 rfl) ?_
                refine fw_getr C R ft_field_7_105 hk_a0 rfl rfl d_Mo_finish_47 (fun hq => ?_) (fun b25 hq hk_b25 => ?_)
                · replace hE := fw_om_none hq hE
                  refine lv_iload_n hx hb d_Mo_finish_50 rfl (lv_at hl 1 rfl) ?_
                  cases hE
                · replace hE := fw_om_some hq hE
                  refine lv_iload_n hx hb d_Mo_finish_50 rfl (lv_at hl 1 rfl) ?_
                  obtain ⟨hi26, hE⟩ := fw_ifn hE
                  refine fw_iald C R (by decide) hk_b25 hi26 d_Mo_finish_51 ?_
                  refine lv_iload_n hx hb d_Mo_finish_52 rfl (lv_at hl 0 rfl) ?_
                  refine lv_iadd hx hb d_Mo_finish_53 ?_
                  refine lv_iconst (v := 2) hx hb d_Mo_finish_54 (by decide) ?_
                  refine lv_idiv hx hb d_Mo_finish_55 (by decide) ?_
                  refine lv_goto (tgt := 60) hx hb d_Mo_finish_56 (by decide) ?_
                  obtain ⟨hi27, hE⟩ := fw_ifn hE
                  refine fw_iast C R (by decide) hk_b13 hi27 d_Mo_finish_60 (fun H locs R => ?_)
                  obtain ⟨S28, eS28, hE⟩ := fw_let_ex hE
                  rw [← eS28] at R
                  clear eS28
                  refine lv_aload_n hx hb d_Mo_finish_61 rfl (lv_at hl 2 rfl) ?_
                  refine fw_getr C R ft_field_7_108 hk_a0 rfl rfl d_Mo_finish_62 (fun hq => ?_) (fun b29 hq hk_b29 => ?_)
                  · replace hE := fw_om_none hq hE
                    refine lv_iload_n hx hb d_Mo_finish_65 rfl (lv_at hl 1 rfl) ?_
                    refine lv_iconst (v := 1) hx hb d_Mo_finish_66 (by decide) ?_
                    cases hE
                  · replace hE := fw_om_some hq hE
                    refine lv_iload_n hx hb d_Mo_finish_65 rfl (lv_at hl 1 rfl) ?_
                    refine lv_iconst (v := 1) hx hb d_Mo_finish_66 (by decide) ?_
                    obtain ⟨hi30, hE⟩ := fw_ifn hE
                    refine fw_zast C R (by decide) hk_b29 (by decide) hi30 d_Mo_finish_67 (fun H locs R => ?_)
                    obtain ⟨S31, eS31, hE⟩ := fw_let_ex hE
                    rw [← eS31] at R
                    clear eS31
                    cases hE
                    exact fw_vret C fw_X.rf rfl R d_Mo_finish_68
set_option maxHeartbeats 4000000 in
set_option maxRecDepth 100000 in
theorem ct_Mo_fail (l : Launch) (G : fw_G) (kd0 : Nat → Option Nat) (S0 : fw_S) (a0 : Nat) (p1 : Int32) (p2 : Int32) (S' : fw_S) (hk_a0 : kd0 a0 = some 7) (hE : F_Mo_fail a0 p1 p2 S0 = some S') : fw_M l G y_Mo_fail prog_9_method_9_code 3 none 0 0 0 0 kd0 S0 ([.ref a0, .int p1, .int p2] : List Value) none S' (fun k => k = kd0) := by
  refine fw_start (by decide) (Nat.le_of_ble_eq_true rfl) ?_
  intro p e s m below meth c ls C hnm R hl
  clear hnm
  have hx := C.1
  have hb := C.2.1
  have hl : lv_has ls 3 [(0, .ref a0), (1, .int p1), (2, .int p2)] := hl
  have h_j26 : ∀ v0 : Nat, ∀ v1 : Int32, ∀ s1 : Int32, ∀ s2 : Int32, ∀ S0 : fw_S, kd0 v0 = some 7 → ∀ (H : Heap) (locs : List Loc) (ls : Array Slot), fw_R G kd0 S0 H locs → lv_has ls 3 [(0, .ref v0), (1, .int v1)] → F_Mo_fail_j26 v0 v1 s1 s2 S0 = some S' → W p l e { frames := 0, cells := 0, slots := 0, locals := 0 } s m ([.ref a0, .int p1, .int p2] : List Value).toArray below meth c H locs 0 0 (MQ below (fw_Q G kd0 none S' (fun k => k = kd0)) ([.ref a0, .int p1, .int p2] : List Value).toArray s 0 0 (fw_A G)) (F0 m 26 ls [.int s2, .int s1, .null]) := by
    intro v0 v1 s1 s2 S0 hk_v0 H locs ls R hl hE
    unfold F_Mo_fail_j26 at hE
    cases hE
  have h_j26x : ∀ v0 : Nat, ∀ v1 : Int32, ∀ s0 : Nat, ∀ s1 : Int32, ∀ s2 : Int32, ∀ S0 : fw_S, kd0 v0 = some 7 → kd0 s0 = some 100 → ∀ (H : Heap) (locs : List Loc) (ls : Array Slot), fw_R G kd0 S0 H locs → lv_has ls 3 [(0, .ref v0), (1, .int v1)] → F_Mo_fail_j26x v0 v1 s0 s1 s2 S0 = some S' → W p l e { frames := 0, cells := 0, slots := 0, locals := 0 } s m ([.ref a0, .int p1, .int p2] : List Value).toArray below meth c H locs 0 0 (MQ below (fw_Q G kd0 none S' (fun k => k = kd0)) ([.ref a0, .int p1, .int p2] : List Value).toArray s 0 0 (fw_A G)) (F0 m 26 ls [.int s2, .int s1, .ref s0]) := by
    intro v0 v1 s0 s1 s2 S0 hk_v0 hk_s0 H locs ls R hl hE
    unfold F_Mo_fail_j26x at hE
    obtain ⟨hi9, hE⟩ := fw_ifn hE
    refine fw_iast C R (by decide) hk_s0 hi9 d_Mo_fail_26 (fun H locs R => ?_)
    obtain ⟨S10, eS10, hE⟩ := fw_let_ex hE
    rw [← eS10] at R
    clear eS10
    refine lv_aload_n hx hb d_Mo_fail_27 rfl (lv_at hl 0 rfl) ?_
    refine fw_getr C R ft_field_7_75 hk_v0 rfl rfl d_Mo_fail_28 (fun hq => ?_) (fun b11 hq hk_b11 => ?_)
    · replace hE := fw_om_none hq hE
      refine lv_iload_n hx hb d_Mo_fail_31 rfl (lv_at hl 1 rfl) ?_
      refine lv_aload_n hx hb d_Mo_fail_32 rfl (lv_at hl 0 rfl) ?_
      refine fw_getr C R ft_field_7_45 hk_v0 rfl rfl d_Mo_fail_33 (fun hq => ?_) (fun b12 hq hk_b12 => ?_)
      · replace hE := fw_om_none hq hE
        refine lv_iload_n hx hb d_Mo_fail_36 rfl (lv_at hl 1 rfl) ?_
        cases hE
      · replace hE := fw_om_some hq hE
        refine lv_iload_n hx hb d_Mo_fail_36 rfl (lv_at hl 1 rfl) ?_
        obtain ⟨hi13, hE⟩ := fw_ifn hE
        refine fw_zald C R (by decide) hk_b12 hi13 d_Mo_fail_37 ?_
        refine lv_if_eq (tgt := 45) hx hb d_Mo_fail_38 (by decide) (fun hc => ?_) (fun hc => ?_)
        · replace hE := fw_if_t hc hE
          refine lv_aload_n hx hb d_Mo_fail_45 rfl (lv_at hl 0 rfl) ?_
          refine fw_getr C R ft_field_7_75 hk_v0 rfl rfl d_Mo_fail_46 (fun hq => ?_) (fun b14 hq hk_b14 => ?_)
          · replace hE := fw_om_none hq hE
            refine lv_iload_n hx hb d_Mo_fail_49 rfl (lv_at hl 1 rfl) ?_
            cases hE
          · replace hE := fw_om_some hq hE
            refine lv_iload_n hx hb d_Mo_fail_49 rfl (lv_at hl 1 rfl) ?_
            obtain ⟨hi15, hE⟩ := fw_ifn hE
            refine fw_iald C R (by decide) hk_b14 hi15 d_Mo_fail_50 ?_
            cases hE
        · replace hE := fw_if_f hc hE
          refine lv_iconst (v := 0) hx hb d_Mo_fail_41 (by decide) ?_
          refine lv_goto (tgt := 51) hx hb d_Mo_fail_42 (by decide) ?_
          cases hE
    · replace hE := fw_om_some hq hE
      refine lv_iload_n hx hb d_Mo_fail_31 rfl (lv_at hl 1 rfl) ?_
      refine lv_aload_n hx hb d_Mo_fail_32 rfl (lv_at hl 0 rfl) ?_
      refine fw_getr C R ft_field_7_45 hk_v0 rfl rfl d_Mo_fail_33 (fun hq => ?_) (fun b16 hq hk_b16 => ?_)
      · replace hE := fw_om_none hq hE
        refine lv_iload_n hx hb d_Mo_fail_36 rfl (lv_at hl 1 rfl) ?_
        cases hE
      · replace hE := fw_om_some hq hE
        refine lv_iload_n hx hb d_Mo_fail_36 rfl (lv_at hl 1 rfl) ?_
        obtain ⟨hi17, hE⟩ := fw_ifn hE
        refine fw_zald C R (by decide) hk_b16 hi17 d_Mo_fail_37 ?_
        refine lv_if_eq (tgt := 45) hx hb d_Mo_fail_38 (by decide) (fun hc => ?_) (fun hc => ?_)
        · replace hE := fw_if_t hc hE
          refine lv_aload_n hx hb d_Mo_fail_45 rfl (lv_at hl 0 rfl) ?_
          refine fw_getr C R ft_field_7_75 hk_v0 rfl rfl d_Mo_fail_46 (fun hq => ?_) (fun b18 hq hk_b18 => ?_)
          · replace hE := fw_om_none hq hE
            refine lv_iload_n hx hb d_Mo_fail_49 rfl (lv_at hl 1 rfl) ?_
            cases hE
          · replace hE := fw_om_some hq hE
            refine lv_iload_n hx hb d_Mo_fail_49 rfl (lv_at hl 1 rfl) ?_
            obtain ⟨hi19, hE⟩ := fw_ifn hE
            refine fw_iald C R (by decide) hk_b18 hi19 d_Mo_fail_50 ?_
            obtain ⟨hi20, hE⟩ := fw_ifn hE
            refine fw_iast C R (by decide) hk_b11 hi20 d_Mo_fail_51 (fun H locs R => ?_)
            obtain ⟨S21, eS21, hE⟩ := fw_let_ex hE
            rw [← eS21] at R
            clear eS21
            cases hE
            exact fw_vret C fw_X.rf rfl R d_Mo_fail_52
        · replace hE := fw_if_f hc hE
          refine lv_iconst (v := 0) hx hb d_Mo_fail_41 (by decide) ?_
          refine lv_goto (tgt := 51) hx hb d_Mo_fail_42 (by decide) ?_
          obtain ⟨hi22, hE⟩ := fw_ifn hE
          refine fw_iast C R (by decide) hk_b11 hi22 d_Mo_fail_51 (fun H locs R => ?_)
          obtain ⟨S23, eS23, hE⟩ := fw_let_ex hE
          rw [← eS23] at R
          clear eS23
          cases hE
          exact fw_vret C fw_X.rf rfl R d_Mo_fail_52
  unfold F_Mo_fail at hE
  refine lv_aload_n hx hb d_Mo_fail_0 rfl (lv_at hl 0 rfl) ?_
  refine fw_getr C R ft_field_7_51 hk_a0 rfl rfl d_Mo_fail_1 (fun hq => ?_) (fun b1 hq hk_b1 => ?_)
  · replace hE := fw_om_none hq hE
    refine lv_iload_n hx hb d_Mo_fail_4 rfl (lv_at hl 1 rfl) ?_
    refine lv_iload_n hx hb d_Mo_fail_5 rfl (lv_at hl 2 rfl) ?_
    cases hE
  · replace hE := fw_om_some hq hE
    refine lv_iload_n hx hb d_Mo_fail_4 rfl (lv_at hl 1 rfl) ?_
    refine lv_iload_n hx hb d_Mo_fail_5 rfl (lv_at hl 2 rfl) ?_
    obtain ⟨hi2, hE⟩ := fw_ifn hE
    refine fw_iast C R (by decide) hk_b1 hi2 d_Mo_fail_6 (fun H locs R => ?_)
    obtain ⟨S3, eS3, hE⟩ := fw_let_ex hE
    rw [← eS3] at R
    clear eS3
    refine lv_aload_n hx hb d_Mo_fail_7 rfl (lv_at hl 0 rfl) ?_
    refine fw_getr C R ft_field_7_48 hk_a0 rfl rfl d_Mo_fail_8 (fun hq => ?_) (fun b4 hq hk_b4 => ?_)
    · replace hE := fw_om_none hq hE
      refine lv_iload_n hx hb d_Mo_fail_11 rfl (lv_at hl 1 rfl) ?_
      refine lv_aload_n hx hb d_Mo_fail_12 rfl (lv_at hl 0 rfl) ?_
      refine fw_getr C R ft_field_7_45 hk_a0 rfl rfl d_Mo_fail_13 (fun hq => ?_) (fun b5 hq hk_b5 => ?_)
      · replace hE := fw_om_none hq hE
        refine lv_iload_n hx hb d_Mo_fail_16 rfl (lv_at hl 1 rfl) ?_
        cases hE
      · replace hE := fw_om_some hq hE
        refine lv_iload_n hx hb d_Mo_fail_16 rfl (lv_at hl 1 rfl) ?_
        obtain ⟨hi6, hE⟩ := fw_ifn hE
        refine fw_zald C R (by decide) hk_b5 hi6 d_Mo_fail_17 ?_
        refine lv_if_eq (tgt := 25) hx hb d_Mo_fail_18 (by decide) (fun hc => ?_) (fun hc => ?_)
        · replace hE := fw_if_t hc hE
          refine lv_iconst (v := 2) hx hb d_Mo_fail_25 (by decide) ?_
          exact h_j26 _ _ _ _ _ hk_a0 _ _ _ R (lv_sub hl [0, 1] rfl) hE
        · replace hE := fw_if_f hc hE
          refine lv_iconst (v := 1) hx hb d_Mo_fail_21 (by decide) ?_
          refine lv_goto (tgt := 26) hx hb d_Mo_fail_22 (by decide) ?_
          exact h_j26 _ _ _ _ _ hk_a0 _ _ _ R (lv_sub hl [0, 1] rfl) hE
    · replace hE := fw_om_some hq hE
      refine lv_iload_n hx hb d_Mo_fail_11 rfl (lv_at hl 1 rfl) ?_
      refine lv_aload_n hx hb d_Mo_fail_12 rfl (lv_at hl 0 rfl) ?_
      refine fw_getr C R ft_field_7_45 hk_a0 rfl rfl d_Mo_fail_13 (fun hq => ?_) (fun b7 hq hk_b7 => ?_)
      · replace hE := fw_om_none hq hE
        refine lv_iload_n hx hb d_Mo_fail_16 rfl (lv_at hl 1 rfl) ?_
        cases hE
      · replace hE := fw_om_some hq hE
        refine lv_iload_n hx hb d_Mo_fail_16 rfl (lv_at hl 1 rfl) ?_
        obtain ⟨hi8, hE⟩ := fw_ifn hE
        refine fw_zald C R (by decide) hk_b7 hi8 d_Mo_fail_17 ?_
        refine lv_if_eq (tgt := 25) hx hb d_Mo_fail_18 (by decide) (fun hc => ?_) (fun hc => ?_)
        · replace hE := fw_if_t hc hE
          refine lv_iconst (v := 2) hx hb d_Mo_fail_25 (by decide) ?_
          exact h_j26x _ _ _ _ _ _ hk_a0 hk_b4 _ _ _ R (lv_sub hl [0, 1] rfl) hE
        · replace hE := fw_if_f hc hE
          refine lv_iconst (v := 1) hx hb d_Mo_fail_21 (by decide) ?_
          refine lv_goto (tgt := 26) hx hb d_Mo_fail_22 (by decide) ?_
          exact h_j26x _ _ _ _ _ _ hk_a0 hk_b4 _ _ _ R (lv_sub hl [0, 1] rfl) hE
set_option maxHeartbeats 4000000 in
set_option maxRecDepth 100000 in
theorem ct_Mo_isFailedSilently (l : Launch) (G : fw_G) (kd0 : Nat → Option Nat) (S0 : fw_S) (a0 : Nat) (p1 : Int32) (r0 : Int32) (hk_a0 : kd0 a0 = some 7) (hE : F_Mo_isFailedSilently a0 p1 S0 = some r0) : fw_M l G y_Mo_isFailedSilently prog_9_method_10_code 2 (some .boolean) 0 0 0 0 kd0 S0 ([.ref a0, .int p1] : List Value) (some (.int r0)) S0 (fun k => k = kd0) := by
  refine fw_start (by decide) (Nat.le_of_ble_eq_true rfl) ?_
  intro p e s m below meth c ls C hnm R hl
  clear hnm
  have hx := C.1
  have hb := C.2.1
  have hl : lv_has ls 2 [(0, .ref a0), (1, .int p1)] := hl
  unfold F_Mo_isFailedSilently at hE
  refine lv_aload_n hx hb d_Mo_isFailedSilently_0 rfl (lv_at hl 0 rfl) ?_
  refine fw_getr C R ft_field_7_48 hk_a0 rfl rfl d_Mo_isFailedSilently_1 (fun hq => ?_) (fun b1 hq hk_b1 => ?_)
  · replace hE := fw_om_none hq hE
    refine lv_iload_n hx hb d_Mo_isFailedSilently_4 rfl (lv_at hl 1 rfl) ?_
    cases hE
  · replace hE := fw_om_some hq hE
    refine lv_iload_n hx hb d_Mo_isFailedSilently_4 rfl (lv_at hl 1 rfl) ?_
    obtain ⟨hi2, hE⟩ := fw_ifn hE
    refine fw_iald C R (by decide) hk_b1 hi2 d_Mo_isFailedSilently_5 ?_
    refine lv_iconst (v := 1) hx hb d_Mo_isFailedSilently_6 (by decide) ?_
    refine lv_icmp_ne (tgt := 23) hx hb d_Mo_isFailedSilently_7 (by decide) (fun hc => ?_) (fun hc => ?_)
    · replace hE := fw_if_f hc hE
      refine lv_iconst (v := 0) hx hb d_Mo_isFailedSilently_23 (by decide) ?_
      cases hE
      exact fw_zret C (by decide) fw_X.rf rfl R d_Mo_isFailedSilently_24
    · replace hE := fw_if_t hc hE
      refine lv_aload_n hx hb d_Mo_isFailedSilently_10 rfl (lv_at hl 0 rfl) ?_
      refine fw_getr C R ft_field_7_51 hk_a0 rfl rfl d_Mo_isFailedSilently_11 (fun hq => ?_) (fun b3 hq hk_b3 => ?_)
      · replace hE := fw_om_none hq hE
        refine lv_iload_n hx hb d_Mo_isFailedSilently_14 rfl (lv_at hl 1 rfl) ?_
        cases hE
      · replace hE := fw_om_some hq hE
        refine lv_iload_n hx hb d_Mo_isFailedSilently_14 rfl (lv_at hl 1 rfl) ?_
        obtain ⟨hi4, hE⟩ := fw_ifn hE
        refine fw_iald C R (by decide) hk_b3 hi4 d_Mo_isFailedSilently_15 ?_
        refine lv_if_le (tgt := 23) hx hb d_Mo_isFailedSilently_16 (by decide) (fun hc => ?_) (fun hc => ?_)
        · replace hE := fw_if_t hc hE
          refine lv_iconst (v := 0) hx hb d_Mo_isFailedSilently_23 (by decide) ?_
          cases hE
          exact fw_zret C (by decide) fw_X.rf rfl R d_Mo_isFailedSilently_24
        · replace hE := fw_if_f hc hE
          refine lv_iconst (v := 1) hx hb d_Mo_isFailedSilently_19 (by decide) ?_
          refine lv_goto (tgt := 24) hx hb d_Mo_isFailedSilently_20 (by decide) ?_
          cases hE
          exact fw_zret C (by decide) fw_X.rf rfl R d_Mo_isFailedSilently_24
set_option maxHeartbeats 4000000 in
set_option maxRecDepth 100000 in
theorem ct_Mo_setting (l : Launch) (G : fw_G) (kd0 : Nat → Option Nat) (S0 : fw_S) (a0 : Nat) (p1 : Int32) (p2 : Int32) (r0 : Int32) (S' : fw_S) (hk_a0 : kd0 a0 = some 7) (hE : F_Mo_setting a0 p1 p2 S0 = some (r0, S')) : fw_M l G y_Mo_setting prog_9_method_11_code 5 (some .int) 1 22 0 0 kd0 S0 ([.ref a0, .int p1, .int p2] : List Value) (some (.int r0)) S' (fun k => k = kd0) := by
  refine fw_start (by decide) (Nat.le_of_ble_eq_true rfl) ?_
  intro p e s m below meth c ls C hnm R hl
  clear hnm
  have hx := C.1
  have hb := C.2.1
  have hl : lv_has ls 5 [(0, .ref a0), (1, .int p1), (2, .int p2)] := hl
  have h_j114 : ∀ v0 : Nat, ∀ v1 : Int32, ∀ v2 : Int32, ∀ v4 : Int32, ∀ s0 : Nat, ∀ s1 : Int32, ∀ S0 : fw_S, kd0 v0 = some 7 → kd0 s0 = some 7 → ∀ (H : Heap) (locs : List Loc) (ls : Array Slot), fw_R G kd0 S0 H locs → lv_has ls 5 [(0, .ref v0), (1, .int v1), (2, .int v2), (4, .int v4)] → F_Mo_setting_j114 v0 v1 v2 v4 s0 s1 S0 = some (r0, S') → W p l e { frames := 1, cells := 0, slots := 0, locals := 22 } s m ([.ref a0, .int p1, .int p2] : List Value).toArray below meth c H locs 0 0 (MQ below (fw_Q G kd0 (some (.int r0)) S' (fun k => k = kd0)) ([.ref a0, .int p1, .int p2] : List Value).toArray s 0 0 (fw_A G)) (F0 m 114 ls [.int s1, .ref s0]) := by
    intro v0 v1 v2 v4 s0 s1 S0 hk_v0 hk_s0 H locs ls R hl hE
    unfold F_Mo_setting_j114 at hE
    refine fw_puti C R ft_field_7_30 rfl hk_s0 d_Mo_setting_114 (fun H locs R => ?_)
    obtain ⟨S2, eS2, hE⟩ := fw_let_ex hE
    rw [← eS2] at R
    clear eS2
    refine lv_aload_n hx hb d_Mo_setting_117 rfl (lv_at hl 0 rfl) ?_
    refine lv_iload_n hx hb d_Mo_setting_118 rfl (lv_at hl 1 rfl) ?_
    refine lv_iconst (v := 2) hx hb d_Mo_setting_119 (by decide) ?_
    refine lv_icmp_ne (tgt := 127) hx hb d_Mo_setting_120 (by decide) (fun hc => ?_) (fun hc => ?_)
    · replace hE := fw_if_f hc hE
      refine lv_aload_n hx hb d_Mo_setting_127 rfl (lv_at hl 0 rfl) ?_
      refine fw_get (v := .int (fw_g S2 v0 7)) C R ft_field_7_33 hk_v0 rfl d_Mo_setting_128 ?_
      refine fw_puti C R ft_field_7_33 rfl hk_v0 d_Mo_setting_131 (fun H locs R => ?_)
      obtain ⟨S3, eS3, hE⟩ := fw_let_ex hE
      rw [← eS3] at R
      clear eS3
      refine lv_iload hx hb d_Mo_setting_134 (lv_at hl 3 rfl) ?_
      cases hE
      exact fw_iret C fw_X.rf rfl R d_Mo_setting_136
    · replace hE := fw_if_t hc hE
      refine lv_iload_n hx hb d_Mo_setting_123 rfl (lv_at hl 2 rfl) ?_
      refine lv_goto (tgt := 131) hx hb d_Mo_setting_124 (by decide) ?_
      refine fw_puti C R ft_field_7_33 rfl hk_v0 d_Mo_setting_131 (fun H locs R => ?_)
      obtain ⟨S4, eS4, hE⟩ := fw_let_ex hE
      rw [← eS4] at R
      clear eS4
      refine lv_iload hx hb d_Mo_setting_134 (lv_at hl 3 rfl) ?_
      cases hE
      exact fw_iret C fw_X.rf rfl R d_Mo_setting_136
  have h_j97 : ∀ v0 : Nat, ∀ v1 : Int32, ∀ v2 : Int32, ∀ v4 : Int32, ∀ s0 : Nat, ∀ s1 : Int32, ∀ S0 : fw_S, kd0 v0 = some 7 → kd0 s0 = some 7 → ∀ (H : Heap) (locs : List Loc) (ls : Array Slot), fw_R G kd0 S0 H locs → lv_has ls 5 [(0, .ref v0), (1, .int v1), (2, .int v2), (4, .int v4)] → F_Mo_setting_j97 v0 v1 v2 v4 s0 s1 S0 = some (r0, S') → W p l e { frames := 1, cells := 0, slots := 0, locals := 22 } s m ([.ref a0, .int p1, .int p2] : List Value).toArray below meth c H locs 0 0 (MQ below (fw_Q G kd0 (some (.int r0)) S' (fun k => k = kd0)) ([.ref a0, .int p1, .int p2] : List Value).toArray s 0 0 (fw_A G)) (F0 m 97 ls [.int s1, .ref s0]) := by
    intro v0 v1 v2 v4 s0 s1 S0 hk_v0 hk_s0 H locs ls R hl hE
    unfold F_Mo_setting_j97 at hE
    refine fw_puti C R ft_field_7_26 rfl hk_s0 d_Mo_setting_97 (fun H locs R => ?_)
    obtain ⟨S1, eS1, hE⟩ := fw_let_ex hE
    rw [← eS1] at R
    clear eS1
    refine lv_aload_n hx hb d_Mo_setting_100 rfl (lv_at hl 0 rfl) ?_
    refine lv_iload_n hx hb d_Mo_setting_101 rfl (lv_at hl 1 rfl) ?_
    refine lv_iconst (v := 1) hx hb d_Mo_setting_102 (by decide) ?_
    refine lv_icmp_ne (tgt := 110) hx hb d_Mo_setting_103 (by decide) (fun hc => ?_) (fun hc => ?_)
    · replace hE := fw_if_f hc hE
      refine lv_aload_n hx hb d_Mo_setting_110 rfl (lv_at hl 0 rfl) ?_
      refine fw_get (v := .int (fw_g S1 v0 6)) C R ft_field_7_30 hk_v0 rfl d_Mo_setting_111 ?_
      exact h_j114 _ _ _ _ _ _ _ hk_v0 hk_v0 _ _ _ R (lv_sub hl [0, 1, 2, 3] rfl) hE
    · replace hE := fw_if_t hc hE
      refine lv_iload_n hx hb d_Mo_setting_106 rfl (lv_at hl 2 rfl) ?_
      refine lv_goto (tgt := 114) hx hb d_Mo_setting_107 (by decide) ?_
      exact h_j114 _ _ _ _ _ _ _ hk_v0 hk_v0 _ _ _ R (lv_sub hl [0, 1, 2, 3] rfl) hE
  have h_j82 : ∀ v0 : Nat, ∀ v1 : Int32, ∀ v2 : Int32, ∀ s0 : Int32, ∀ S0 : fw_S, kd0 v0 = some 7 → ∀ (H : Heap) (locs : List Loc) (ls : Array Slot), fw_R G kd0 S0 H locs → lv_has ls 5 [(0, .ref v0), (1, .int v1), (2, .int v2)] → F_Mo_setting_j82 v0 v1 v2 s0 S0 = some (r0, S') → W p l e { frames := 1, cells := 0, slots := 0, locals := 22 } s m ([.ref a0, .int p1, .int p2] : List Value).toArray below meth c H locs 0 0 (MQ below (fw_Q G kd0 (some (.int r0)) S' (fun k => k = kd0)) ([.ref a0, .int p1, .int p2] : List Value).toArray s 0 0 (fw_A G)) (F0 m 82 ls [.int s0]) := by
    intro v0 v1 v2 s0 S0 hk_v0 H locs ls R hl hE
    unfold F_Mo_setting_j82 at hE
    refine lv_istore (lv' := [(4, .int s0), (0, .ref v0), (1, .int v1), (2, .int v2)]) hx hb d_Mo_setting_82 hl (by decide) rfl (fun ls hl => ?_)
    refine lv_aload_n hx hb d_Mo_setting_84 rfl (lv_at hl 1 rfl) ?_
    refine lv_iload_n hx hb d_Mo_setting_85 rfl (lv_at hl 2 rfl) ?_
    refine lv_if_ne (tgt := 93) hx hb d_Mo_setting_86 (by decide) (fun hc => ?_) (fun hc => ?_)
    · replace hE := fw_if_f hc hE
      refine lv_aload_n hx hb d_Mo_setting_93 rfl (lv_at hl 1 rfl) ?_
      refine fw_get (v := .int (fw_g S0 v0 5)) C R ft_field_7_26 hk_v0 rfl d_Mo_setting_94 ?_
      exact h_j97 _ _ _ _ _ _ _ hk_v0 hk_v0 _ _ _ R (lv_sub hl [1, 2, 3, 0] rfl) hE
    · replace hE := fw_if_t hc hE
      refine lv_iload_n hx hb d_Mo_setting_89 rfl (lv_at hl 3 rfl) ?_
      refine lv_goto (tgt := 97) hx hb d_Mo_setting_90 (by decide) ?_
      exact h_j97 _ _ _ _ _ _ _ hk_v0 hk_v0 _ _ _ R (lv_sub hl [1, 2, 3, 0] rfl) hE
  have h_j48 : ∀ v0 : Nat, ∀ v1 : Int32, ∀ v2 : Int32, ∀ s0 : Int32, ∀ S0 : fw_S, kd0 v0 = some 7 → ∀ (H : Heap) (locs : List Loc) (ls : Array Slot), fw_R G kd0 S0 H locs → lv_has ls 5 [(0, .ref v0), (1, .int v1), (2, .int v2)] → F_Mo_setting_j48 v0 v1 v2 s0 S0 = some (r0, S') → W p l e { frames := 1, cells := 0, slots := 0, locals := 22 } s m ([.ref a0, .int p1, .int p2] : List Value).toArray below meth c H locs 0 0 (MQ below (fw_Q G kd0 (some (.int r0)) S' (fun k => k = kd0)) ([.ref a0, .int p1, .int p2] : List Value).toArray s 0 0 (fw_A G)) (F0 m 48 ls [.int s0]) := by
    intro v0 v1 v2 s0 S0 hk_v0 H locs ls R hl hE
    unfold F_Mo_setting_j48 at hE
    refine lv_istore_n (lv' := [(3, .int s0), (0, .ref v0), (1, .int v1), (2, .int v2)]) hx hb d_Mo_setting_48 rfl hl (by decide) rfl (fun ls hl => ?_)
    refine lv_iload_n hx hb d_Mo_setting_49 rfl (lv_at hl 0 rfl) ?_
    refine lv_if_ne (tgt := 55) hx hb d_Mo_setting_50 (by decide) (fun hc => ?_) (fun hc => ?_)
    · replace hE := fw_if_f hc hE
      refine lv_iload_n hx hb d_Mo_setting_55 rfl (lv_at hl 2 rfl) ?_
      refine lv_if_ne (tgt := 66) hx hb d_Mo_setting_56 (by decide) (fun hc => ?_) (fun hc => ?_)
      · replace hE := fw_if_f hc hE
        refine lv_iload_n hx hb d_Mo_setting_66 rfl (lv_at hl 2 rfl) ?_
        refine lv_iconst (v := 1) hx hb d_Mo_setting_67 (by decide) ?_
        refine lv_icmp_ne (tgt := 78) hx hb d_Mo_setting_68 (by decide) (fun hc => ?_) (fun hc => ?_)
        · replace hE := fw_if_f hc hE
          refine lv_aload_n hx hb d_Mo_setting_78 rfl (lv_at hl 1 rfl) ?_
          refine fw_get (v := .int (fw_g S0 v0 7)) C R ft_field_7_33 hk_v0 rfl d_Mo_setting_79 ?_
          exact h_j82 _ _ _ _ _ hk_v0 _ _ _ R (lv_sub hl [1, 2, 3] rfl) hE
        · replace hE := fw_if_t hc hE
          refine lv_aload_n hx hb d_Mo_setting_71 rfl (lv_at hl 1 rfl) ?_
          refine fw_get (v := .int (fw_g S0 v0 6)) C R ft_field_7_30 hk_v0 rfl d_Mo_setting_72 ?_
          refine lv_goto (tgt := 82) hx hb d_Mo_setting_75 (by decide) ?_
          exact h_j82 _ _ _ _ _ hk_v0 _ _ _ R (lv_sub hl [1, 2, 3] rfl) hE
      · replace hE := fw_if_t hc hE
        refine lv_aload_n hx hb d_Mo_setting_59 rfl (lv_at hl 1 rfl) ?_
        refine fw_get (v := .int (fw_g S0 v0 5)) C R ft_field_7_26 hk_v0 rfl d_Mo_setting_60 ?_
        refine lv_goto (tgt := 82) hx hb d_Mo_setting_63 (by decide) ?_
        exact h_j82 _ _ _ _ _ hk_v0 _ _ _ R (lv_sub hl [1, 2, 3] rfl) hE
    · replace hE := fw_if_t hc hE
      refine lv_iconst (v := -1) hx hb d_Mo_setting_53 (by decide) ?_
      cases hE
      exact fw_iret C fw_X.rf rfl R d_Mo_setting_54
  have h_j47 : ∀ v0 : Nat, ∀ v1 : Int32, ∀ v2 : Int32, ∀ S0 : fw_S, kd0 v0 = some 7 → ∀ (H : Heap) (locs : List Loc) (ls : Array Slot), fw_R G kd0 S0 H locs → lv_has ls 5 [(0, .ref v0), (1, .int v1), (2, .int v2)] → F_Mo_setting_j47 v0 v1 v2 S0 = some (r0, S') → W p l e { frames := 1, cells := 0, slots := 0, locals := 22 } s m ([.ref a0, .int p1, .int p2] : List Value).toArray below meth c H locs 0 0 (MQ below (fw_Q G kd0 (some (.int r0)) S' (fun k => k = kd0)) ([.ref a0, .int p1, .int p2] : List Value).toArray s 0 0 (fw_A G)) (F0 m 47 ls []) := by
    intro v0 v1 v2 S0 hk_v0 H locs ls R hl hE
    unfold F_Mo_setting_j47 at hE
    refine lv_iconst (v := 0) hx hb d_Mo_setting_47 (by decide) ?_
    exact h_j48 _ _ _ _ _ hk_v0 _ _ _ R (lv_sub hl [0, 1, 2] rfl) hE
  have h_j43 : ∀ v0 : Nat, ∀ v1 : Int32, ∀ v2 : Int32, ∀ S0 : fw_S, kd0 v0 = some 7 → ∀ (H : Heap) (locs : List Loc) (ls : Array Slot), fw_R G kd0 S0 H locs → lv_has ls 5 [(0, .ref v0), (1, .int v1), (2, .int v2)] → F_Mo_setting_j43 v0 v1 v2 S0 = some (r0, S') → W p l e { frames := 1, cells := 0, slots := 0, locals := 22 } s m ([.ref a0, .int p1, .int p2] : List Value).toArray below meth c H locs 0 0 (MQ below (fw_Q G kd0 (some (.int r0)) S' (fun k => k = kd0)) ([.ref a0, .int p1, .int p2] : List Value).toArray s 0 0 (fw_A G)) (F0 m 43 ls []) := by
    intro v0 v1 v2 S0 hk_v0 H locs ls R hl hE
    unfold F_Mo_setting_j43 at hE
    refine lv_iconst (v := 1) hx hb d_Mo_setting_43 (by decide) ?_
    refine lv_goto (tgt := 48) hx hb d_Mo_setting_44 (by decide) ?_
    exact h_j48 _ _ _ _ _ hk_v0 _ _ _ R (lv_sub hl [0, 1, 2] rfl) hE
  have h_j29 : ∀ v0 : Nat, ∀ v1 : Int32, ∀ v2 : Int32, ∀ S0 : fw_S, kd0 v0 = some 7 → ∀ (H : Heap) (locs : List Loc) (ls : Array Slot), fw_R G kd0 S0 H locs → lv_has ls 5 [(0, .ref v0), (1, .int v1), (2, .int v2)] → F_Mo_setting_j29 v0 v1 v2 S0 = some (r0, S') → W p l e { frames := 1, cells := 0, slots := 0, locals := 22 } s m ([.ref a0, .int p1, .int p2] : List Value).toArray below meth c H locs 0 0 (MQ below (fw_Q G kd0 (some (.int r0)) S' (fun k => k = kd0)) ([.ref a0, .int p1, .int p2] : List Value).toArray s 0 0 (fw_A G)) (F0 m 29 ls []) := by
    intro v0 v1 v2 S0 hk_v0 H locs ls R hl hE
    unfold F_Mo_setting_j29 at hE
    refine lv_iload_n hx hb d_Mo_setting_29 rfl (lv_at hl 1 rfl) ?_
    refine lv_iconst (v := 2) hx hb d_Mo_setting_30 (by decide) ?_
    refine lv_icmp_ne (tgt := 47) hx hb d_Mo_setting_31 (by decide) (fun hc => ?_) (fun hc => ?_)
    · replace hE := fw_if_f hc hE
      exact h_j47 _ _ _ _ hk_v0 _ _ _ R (lv_sub hl [0, 1, 2] rfl) hE
    · replace hE := fw_if_t hc hE
      refine lv_iload_n hx hb d_Mo_setting_34 rfl (lv_at hl 2 rfl) ?_
      refine lv_iconst (v := 0) hx hb d_Mo_setting_35 (by decide) ?_
      refine lv_iconst (v := 5) hx hb d_Mo_setting_36 (by decide) ?_
      obtain ⟨x5, hF, hE⟩ := fw_bind hE
      refine fw_callS (As := [.int v2, .int (0 : Int32), .int (5 : Int32)]) (rest := []) C R ft_callS_7_163 yt_Mo_isIn (ct_Mo_isIn l G kd0 S0 _ _ _ _  hF) rfl hl.1 rfl (lv_room (Nat.le_of_ble_eq_true rfl)) ⟨Nat.le_of_ble_eq_true rfl, Nat.le_of_ble_eq_true rfl⟩ ⟨Nat.le_of_ble_eq_true rfl, Nat.le_of_ble_eq_true rfl⟩ d_Mo_setting_37 (fun H locs kd6 hxkd6 hP R => ?_)
      rw [hP] at R; clear hP hxkd6
      refine lv_if_eq (tgt := 47) hx hb d_Mo_setting_40 (by decide) (fun hc => ?_) (fun hc => ?_)
      · replace hE := fw_if_t hc hE
        exact h_j47 _ _ _ _ hk_v0 _ _ _ R (lv_sub hl [0, 1, 2] rfl) hE
      · replace hE := fw_if_f hc hE
        exact h_j43 _ _ _ _ hk_v0 _ _ _ R (lv_sub hl [0, 1, 2] rfl) hE
  have h_j14 : ∀ v0 : Nat, ∀ v1 : Int32, ∀ v2 : Int32, ∀ S0 : fw_S, kd0 v0 = some 7 → ∀ (H : Heap) (locs : List Loc) (ls : Array Slot), fw_R G kd0 S0 H locs → lv_has ls 5 [(0, .ref v0), (1, .int v1), (2, .int v2)] → F_Mo_setting_j14 v0 v1 v2 S0 = some (r0, S') → W p l e { frames := 1, cells := 0, slots := 0, locals := 22 } s m ([.ref a0, .int p1, .int p2] : List Value).toArray below meth c H locs 0 0 (MQ below (fw_Q G kd0 (some (.int r0)) S' (fun k => k = kd0)) ([.ref a0, .int p1, .int p2] : List Value).toArray s 0 0 (fw_A G)) (F0 m 14 ls []) := by
    intro v0 v1 v2 S0 hk_v0 H locs ls R hl hE
    unfold F_Mo_setting_j14 at hE
    refine lv_iload_n hx hb d_Mo_setting_14 rfl (lv_at hl 1 rfl) ?_
    refine lv_iconst (v := 1) hx hb d_Mo_setting_15 (by decide) ?_
    refine lv_icmp_ne (tgt := 29) hx hb d_Mo_setting_16 (by decide) (fun hc => ?_) (fun hc => ?_)
    · replace hE := fw_if_f hc hE
      exact h_j29 _ _ _ _ hk_v0 _ _ _ R (lv_sub hl [0, 1, 2] rfl) hE
    · replace hE := fw_if_t hc hE
      refine lv_iload_n hx hb d_Mo_setting_19 rfl (lv_at hl 2 rfl) ?_
      refine lv_iconst (v := 1) hx hb d_Mo_setting_20 (by decide) ?_
      refine lv_bipush (v := 100) hx hb d_Mo_setting_21 (by decide) ?_
      obtain ⟨x7, hF, hE⟩ := fw_bind hE
      refine fw_callS (As := [.int v2, .int (1 : Int32), .int (100 : Int32)]) (rest := []) C R ft_callS_7_163 yt_Mo_isIn (ct_Mo_isIn l G kd0 S0 _ _ _ _  hF) rfl hl.1 rfl (lv_room (Nat.le_of_ble_eq_true rfl)) ⟨Nat.le_of_ble_eq_true rfl, Nat.le_of_ble_eq_true rfl⟩ ⟨Nat.le_of_ble_eq_true rfl, Nat.le_of_ble_eq_true rfl⟩ d_Mo_setting_23 (fun H locs kd8 hxkd8 hP R => ?_)
      rw [hP] at R; clear hP hxkd8
      refine lv_if_ne (tgt := 43) hx hb d_Mo_setting_26 (by decide) (fun hc => ?_) (fun hc => ?_)
      · replace hE := fw_if_f hc hE
        exact h_j43 _ _ _ _ hk_v0 _ _ _ R (lv_sub hl [0, 1, 2] rfl) hE
      · replace hE := fw_if_t hc hE
        exact h_j29 _ _ _ _ hk_v0 _ _ _ R (lv_sub hl [0, 1, 2] rfl) hE
  unfold F_Mo_setting at hE
  refine lv_iload_n hx hb d_Mo_setting_0 rfl (lv_at hl 1 rfl) ?_
  refine lv_if_ne (tgt := 14) hx hb d_Mo_setting_1 (by decide) (fun hc => ?_) (fun hc => ?_)
  · replace hE := fw_if_f hc hE
    exact h_j14 _ _ _ _ hk_a0 _ _ _ R (lv_sub hl [0, 1, 2] rfl) hE
  · replace hE := fw_if_t hc hE
    refine lv_iload_n hx hb d_Mo_setting_4 rfl (lv_at hl 2 rfl) ?_
    refine lv_iconst (v := 1) hx hb d_Mo_setting_5 (by decide) ?_
    refine lv_bipush (v := 8) hx hb d_Mo_setting_6 (by decide) ?_
    obtain ⟨x9, hF, hE⟩ := fw_bind hE
    refine fw_callS (As := [.int p2, .int (1 : Int32), .int (8 : Int32)]) (rest := []) C R ft_callS_7_163 yt_Mo_isIn (ct_Mo_isIn l G kd0 S0 _ _ _ _  hF) rfl hl.1 rfl (lv_room (Nat.le_of_ble_eq_true rfl)) ⟨Nat.le_of_ble_eq_true rfl, Nat.le_of_ble_eq_true rfl⟩ ⟨Nat.le_of_ble_eq_true rfl, Nat.le_of_ble_eq_true rfl⟩ d_Mo_setting_8 (fun H locs kd10 hxkd10 hP R => ?_)
    rw [hP] at R; clear hP hxkd10
    refine lv_if_ne (tgt := 43) hx hb d_Mo_setting_11 (by decide) (fun hc => ?_) (fun hc => ?_)
    · replace hE := fw_if_f hc hE
      exact h_j43 _ _ _ _ hk_a0 _ _ _ R (lv_sub hl [0, 1, 2] rfl) hE
    · replace hE := fw_if_t hc hE
      exact h_j14 _ _ _ _ hk_a0 _ _ _ R (lv_sub hl [0, 1, 2] rfl) hE
set_option maxHeartbeats 4000000 in
set_option maxRecDepth 100000 in
theorem ct_Mo_bind (l : Launch) (G : fw_G) (kd0 : Nat → Option Nat) (S0 : fw_S) (a0 : Nat) (p1 : Int32) (p2 : Int32) (r0 : Int32) (S' : fw_S) (hk_a0 : kd0 a0 = some 7) (hE : F_Mo_bind a0 p1 p2 S0 = some (r0, S')) : fw_M l G y_Mo_bind prog_9_method_12_code 3 (some .int) 1 22 0 0 kd0 S0 ([.ref a0, .int p1, .int p2] : List Value) (some (.int r0)) S' (fun k => k = kd0) := by
  refine fw_start (by decide) (Nat.le_of_ble_eq_true rfl) ?_
  intro p e s m below meth c ls C hnm R hl
  clear hnm
  have hx := C.1
  have hb := C.2.1
  have hl : lv_has ls 3 [(0, .ref a0), (1, .int p1), (2, .int p2)] := hl
  unfold F_Mo_bind at hE
  refine lv_iload_n hx hb d_Mo_bind_0 rfl (lv_at hl 1 rfl) ?_
  refine lv_iconst (v := 0) hx hb d_Mo_bind_1 (by decide) ?_
  refine lv_sipush (v := 255) hx hb d_Mo_bind_2 (by decide) ?_
  obtain ⟨x1, hF, hE⟩ := fw_bind hE
  refine fw_callS (As := [.int p1, .int (0 : Int32), .int (255 : Int32)]) (rest := []) C R ft_callS_7_163 yt_Mo_isIn (ct_Mo_isIn l G kd0 S0 _ _ _ _  hF) rfl hl.1 rfl (lv_room (Nat.le_of_ble_eq_true rfl)) ⟨Nat.le_of_ble_eq_true rfl, Nat.le_of_ble_eq_true rfl⟩ ⟨Nat.le_of_ble_eq_true rfl, Nat.le_of_ble_eq_true rfl⟩ d_Mo_bind_5 (fun H locs kd2 hxkd2 hP R => ?_)
  rw [hP] at R; clear hP hxkd2
  refine lv_if_ne (tgt := 13) hx hb d_Mo_bind_8 (by decide) (fun hc => ?_) (fun hc => ?_)
  · replace hE := fw_if_f hc hE
    refine lv_aload_n hx hb d_Mo_bind_13 rfl (lv_at hl 0 rfl) ?_
    refine fw_get (v := .int (fw_g S0 a0 11)) C R ft_field_7_166 hk_a0 rfl d_Mo_bind_14 ?_
    refine lv_bipush (v := 20) hx hb d_Mo_bind_17 (by decide) ?_
    refine lv_icmp_ne (tgt := 25) hx hb d_Mo_bind_19 (by decide) (fun hc => ?_) (fun hc => ?_)
    · replace hE := fw_if_f hc hE
      refine lv_aload_n hx hb d_Mo_bind_25 rfl (lv_at hl 0 rfl) ?_
      refine fw_getr C R ft_field_7_36 hk_a0 rfl rfl d_Mo_bind_26 (fun hq => ?_) (fun b3 hq hk_b3 => ?_)
      · replace hE := fw_om_none hq hE
        refine lv_aload_n hx hb d_Mo_bind_29 rfl (lv_at hl 0 rfl) ?_
        refine fw_get (v := .int (fw_g S0 a0 11)) C R ft_field_7_166 hk_a0 rfl d_Mo_bind_30 ?_
        refine lv_iload_n hx hb d_Mo_bind_33 rfl (lv_at hl 1 rfl) ?_
        cases hE
      · replace hE := fw_om_some hq hE
        refine lv_aload_n hx hb d_Mo_bind_29 rfl (lv_at hl 0 rfl) ?_
        refine fw_get (v := .int (fw_g S0 a0 11)) C R ft_field_7_166 hk_a0 rfl d_Mo_bind_30 ?_
        refine lv_iload_n hx hb d_Mo_bind_33 rfl (lv_at hl 1 rfl) ?_
        obtain ⟨hi4, hE⟩ := fw_ifn hE
        refine fw_iast C R (by decide) hk_b3 hi4 d_Mo_bind_34 (fun H locs R => ?_)
        obtain ⟨S5, eS5, hE⟩ := fw_let_ex hE
        rw [← eS5] at R
        clear eS5
        refine lv_aload_n hx hb d_Mo_bind_35 rfl (lv_at hl 0 rfl) ?_
        refine fw_getr C R ft_field_7_39 hk_a0 rfl rfl d_Mo_bind_36 (fun hq => ?_) (fun b6 hq hk_b6 => ?_)
        · replace hE := fw_om_none hq hE
          refine lv_aload_n hx hb d_Mo_bind_39 rfl (lv_at hl 0 rfl) ?_
          refine fw_get (v := .int (fw_g S5 a0 11)) C R ft_field_7_166 hk_a0 rfl d_Mo_bind_40 ?_
          refine lv_iload_n hx hb d_Mo_bind_43 rfl (lv_at hl 2 rfl) ?_
          cases hE
        · replace hE := fw_om_some hq hE
          refine lv_aload_n hx hb d_Mo_bind_39 rfl (lv_at hl 0 rfl) ?_
          refine fw_get (v := .int (fw_g S5 a0 11)) C R ft_field_7_166 hk_a0 rfl d_Mo_bind_40 ?_
          refine lv_iload_n hx hb d_Mo_bind_43 rfl (lv_at hl 2 rfl) ?_
          obtain ⟨hi7, hE⟩ := fw_ifn hE
          refine fw_iast C R (by decide) hk_b6 hi7 d_Mo_bind_44 (fun H locs R => ?_)
          obtain ⟨S8, eS8, hE⟩ := fw_let_ex hE
          rw [← eS8] at R
          clear eS8
          refine lv_aload_n hx hb d_Mo_bind_45 rfl (lv_at hl 0 rfl) ?_
          refine lv_dup hx hb d_Mo_bind_46 rfl ?_
          refine fw_get (v := .int (fw_g S8 a0 11)) C R ft_field_7_166 hk_a0 rfl d_Mo_bind_47 ?_
          refine lv_iconst (v := 1) hx hb d_Mo_bind_50 (by decide) ?_
          refine lv_iadd hx hb d_Mo_bind_51 ?_
          refine fw_puti C R ft_field_7_166 rfl hk_a0 d_Mo_bind_52 (fun H locs R => ?_)
          obtain ⟨S9, eS9, hE⟩ := fw_let_ex hE
          rw [← eS9] at R
          clear eS9
          refine lv_aload_n hx hb d_Mo_bind_55 rfl (lv_at hl 0 rfl) ?_
          refine fw_get (v := .int (fw_g S9 a0 11)) C R ft_field_7_166 hk_a0 rfl d_Mo_bind_56 ?_
          cases hE
          exact fw_iret C fw_X.rf rfl R d_Mo_bind_59
    · replace hE := fw_if_t hc hE
      refine lv_bipush (v := -3) hx hb d_Mo_bind_22 (by decide) ?_
      cases hE
      exact fw_iret C fw_X.rf rfl R d_Mo_bind_24
  · replace hE := fw_if_t hc hE
    refine lv_iconst (v := -1) hx hb d_Mo_bind_11 (by decide) ?_
    cases hE
    exact fw_iret C fw_X.rf rfl R d_Mo_bind_12
set_option maxHeartbeats 4000000 in
set_option maxRecDepth 100000 in
theorem ct_Mo_addKey (l : Launch) (G : fw_G) (kd0 : Nat → Option Nat) (S0 : fw_S) (a0 : Nat) (p1 : Int32) (p2 : Int32) (S' : fw_S) (hk_a0 : kd0 a0 = some 7) (hE : F_Mo_addKey a0 p1 p2 S0 = some S') : fw_M l G y_Mo_addKey prog_9_method_13_code 4 none 0 0 0 0 kd0 S0 ([.ref a0, .int p1, .int p2] : List Value) none S' (fun k => k = kd0) := by
  refine fw_start (by decide) (Nat.le_of_ble_eq_true rfl) ?_
  intro p e s m below meth c ls C hnm R hl
  clear hnm
  have hx := C.1
  have hb := C.2.1
  have hl : lv_has ls 4 [(0, .ref a0), (1, .int p1), (2, .int p2)] := hl
  have h_j34 : ∀ v0 : Nat, ∀ v1 : Int32, ∀ v2 : Int32, ∀ S0 : fw_S, kd0 v0 = some 7 → ∀ (H : Heap) (locs : List Loc) (ls : Array Slot), fw_R G kd0 S0 H locs → lv_has ls 4 [(0, .ref v0), (1, .int v1), (2, .int v2)] → F_Mo_addKey_j34 v0 v1 v2 S0 = some S' → W p l e { frames := 0, cells := 0, slots := 0, locals := 0 } s m ([.ref a0, .int p1, .int p2] : List Value).toArray below meth c H locs 0 0 (MQ below (fw_Q G kd0 none S' (fun k => k = kd0)) ([.ref a0, .int p1, .int p2] : List Value).toArray s 0 0 (fw_A G)) (F0 m 34 ls []) := by
    intro v0 v1 v2 S0 hk_v0 H locs ls R hl hE
    unfold F_Mo_addKey_j34 at hE
    refine lv_aload_n hx hb d_Mo_addKey_34 rfl (lv_at hl 0 rfl) ?_
    refine fw_getr C R ft_field_7_66 hk_v0 rfl rfl d_Mo_addKey_35 (fun hq => ?_) (fun b3 hq hk_b3 => ?_)
    · replace hE := fw_om_none hq hE
      refine lv_bipush (v := 20) hx hb d_Mo_addKey_38 (by decide) ?_
      refine lv_iload_n hx hb d_Mo_addKey_40 rfl (lv_at hl 1 rfl) ?_
      refine lv_imul hx hb d_Mo_addKey_41 ?_
      refine lv_aload_n hx hb d_Mo_addKey_42 rfl (lv_at hl 0 rfl) ?_
      refine fw_getr C R ft_field_7_63 hk_v0 rfl rfl d_Mo_addKey_43 (fun hq => ?_) (fun b4 hq hk_b4 => ?_)
      · replace hE := fw_om_none hq hE
        refine lv_iload_n hx hb d_Mo_addKey_46 rfl (lv_at hl 1 rfl) ?_
        cases hE
      · replace hE := fw_om_some hq hE
        refine lv_iload_n hx hb d_Mo_addKey_46 rfl (lv_at hl 1 rfl) ?_
        obtain ⟨hi5, hE⟩ := fw_ifn hE
        refine fw_iald C R (by decide) hk_b4 hi5 d_Mo_addKey_47 ?_
        refine lv_iadd hx hb d_Mo_addKey_48 ?_
        refine lv_iload_n hx hb d_Mo_addKey_49 rfl (lv_at hl 2 rfl) ?_
        cases hE
    · replace hE := fw_om_some hq hE
      refine lv_bipush (v := 20) hx hb d_Mo_addKey_38 (by decide) ?_
      refine lv_iload_n hx hb d_Mo_addKey_40 rfl (lv_at hl 1 rfl) ?_
      refine lv_imul hx hb d_Mo_addKey_41 ?_
      refine lv_aload_n hx hb d_Mo_addKey_42 rfl (lv_at hl 0 rfl) ?_
      refine fw_getr C R ft_field_7_63 hk_v0 rfl rfl d_Mo_addKey_43 (fun hq => ?_) (fun b6 hq hk_b6 => ?_)
      · replace hE := fw_om_none hq hE
        refine lv_iload_n hx hb d_Mo_addKey_46 rfl (lv_at hl 1 rfl) ?_
        cases hE
      · replace hE := fw_om_some hq hE
        refine lv_iload_n hx hb d_Mo_addKey_46 rfl (lv_at hl 1 rfl) ?_
        obtain ⟨hi7, hE⟩ := fw_ifn hE
        refine fw_iald C R (by decide) hk_b6 hi7 d_Mo_addKey_47 ?_
        refine lv_iadd hx hb d_Mo_addKey_48 ?_
        refine lv_iload_n hx hb d_Mo_addKey_49 rfl (lv_at hl 2 rfl) ?_
        obtain ⟨hi8, hE⟩ := fw_ifn hE
        refine fw_iast C R (by decide) hk_b3 hi8 d_Mo_addKey_50 (fun H locs R => ?_)
        obtain ⟨S9, eS9, hE⟩ := fw_let_ex hE
        rw [← eS9] at R
        clear eS9
        refine lv_aload_n hx hb d_Mo_addKey_51 rfl (lv_at hl 0 rfl) ?_
        refine fw_getr C R ft_field_7_63 hk_v0 rfl rfl d_Mo_addKey_52 (fun hq => ?_) (fun b10 hq hk_b10 => ?_)
        · replace hE := fw_om_none hq hE
          refine lv_iload_n hx hb d_Mo_addKey_55 rfl (lv_at hl 1 rfl) ?_
          refine lv_dup2_11 hx hb d_Mo_addKey_56 rfl rfl ?_
          cases hE
        · replace hE := fw_om_some hq hE
          refine lv_iload_n hx hb d_Mo_addKey_55 rfl (lv_at hl 1 rfl) ?_
          refine lv_dup2_11 hx hb d_Mo_addKey_56 rfl rfl ?_
          obtain ⟨hi11, hE⟩ := fw_ifn hE
          refine fw_iald C R (by decide) hk_b10 hi11 d_Mo_addKey_57 ?_
          refine lv_iconst (v := 1) hx hb d_Mo_addKey_58 (by decide) ?_
          refine lv_iadd hx hb d_Mo_addKey_59 ?_
          obtain ⟨hi12, hE⟩ := fw_ifn hE
          refine fw_iast C R (by decide) hk_b10 hi12 d_Mo_addKey_60 (fun H locs R => ?_)
          obtain ⟨S13, eS13, hE⟩ := fw_let_ex hE
          rw [← eS13] at R
          clear eS13
          cases hE
          exact fw_vret C fw_X.rf rfl R d_Mo_addKey_61
  have h_l2 : ∀ (n : Nat), ∀ v0 : Nat, ∀ v1 : Int32, ∀ v2 : Int32, ∀ v3 : Int32, ∀ S0 : fw_S, kd0 v0 = some 7 → ∀ (H : Heap) (locs : List Loc) (ls : Array Slot), fw_R G kd0 S0 H locs → lv_has ls 4 [(0, .ref v0), (1, .int v1), (2, .int v2), (3, .int v3)] → F_Mo_addKey_l2 n v0 v1 v2 v3 S0 = some S' → W p l e { frames := 0, cells := 0, slots := 0, locals := 0 } s m ([.ref a0, .int p1, .int p2] : List Value).toArray below meth c H locs 0 0 (MQ below (fw_Q G kd0 none S' (fun k => k = kd0)) ([.ref a0, .int p1, .int p2] : List Value).toArray s 0 0 (fw_A G)) (F0 m 2 ls []) := by
    intro n
    induction n with
    | zero =>
      intro v0 v1 v2 v3 S0 hk_v0 H locs ls R hl hE
      rw [F_Mo_addKey_l2] at hE
      cases hE
    | succ n ih =>
      intro v0 v1 v2 v3 S0 hk_v0 H locs ls R hl hE
      rw [F_Mo_addKey_l2] at hE
      refine lv_iload_n hx hb d_Mo_addKey_2 rfl (lv_at hl 3 rfl) ?_
      refine lv_aload_n hx hb d_Mo_addKey_3 rfl (lv_at hl 0 rfl) ?_
      refine fw_getr C R ft_field_7_63 hk_v0 rfl rfl d_Mo_addKey_4 (fun hq => ?_) (fun b1 hq hk_b1 => ?_)
      · replace hE := fw_om_none hq hE
        refine lv_iload_n hx hb d_Mo_addKey_7 rfl (lv_at hl 1 rfl) ?_
        cases hE
      · replace hE := fw_om_some hq hE
        refine lv_iload_n hx hb d_Mo_addKey_7 rfl (lv_at hl 1 rfl) ?_
        obtain ⟨hi2, hE⟩ := fw_ifn hE
        refine fw_iald C R (by decide) hk_b1 hi2 d_Mo_addKey_8 ?_
        refine lv_icmp_ge (tgt := 34) hx hb d_Mo_addKey_9 (by decide) (fun hc => ?_) (fun hc => ?_)
        · replace hE := fw_if_t hc hE
          exact h_j34 _ _ _ _ hk_v0 _ _ _ R (lv_sub hl [0, 1, 2] rfl) hE
        · replace hE := fw_if_f hc hE
          refine lv_aload_n hx hb d_Mo_addKey_12 rfl (lv_at hl 0 rfl) ?_
          refine fw_getr C R ft_field_7_66 hk_v0 rfl rfl d_Mo_addKey_13 (fun hq => ?_) (fun b14 hq hk_b14 => ?_)
          · replace hE := fw_om_none hq hE
            refine lv_bipush (v := 20) hx hb d_Mo_addKey_16 (by decide) ?_
            refine lv_iload_n hx hb d_Mo_addKey_18 rfl (lv_at hl 1 rfl) ?_
            refine lv_imul hx hb d_Mo_addKey_19 ?_
            refine lv_iload_n hx hb d_Mo_addKey_20 rfl (lv_at hl 3 rfl) ?_
            refine lv_iadd hx hb d_Mo_addKey_21 ?_
            cases hE
          · replace hE := fw_om_some hq hE
            refine lv_bipush (v := 20) hx hb d_Mo_addKey_16 (by decide) ?_
            refine lv_iload_n hx hb d_Mo_addKey_18 rfl (lv_at hl 1 rfl) ?_
            refine lv_imul hx hb d_Mo_addKey_19 ?_
            refine lv_iload_n hx hb d_Mo_addKey_20 rfl (lv_at hl 3 rfl) ?_
            refine lv_iadd hx hb d_Mo_addKey_21 ?_
            obtain ⟨hi15, hE⟩ := fw_ifn hE
            refine fw_iald C R (by decide) hk_b14 hi15 d_Mo_addKey_22 ?_
            refine lv_iload_n hx hb d_Mo_addKey_23 rfl (lv_at hl 2 rfl) ?_
            refine lv_icmp_ne (tgt := 28) hx hb d_Mo_addKey_24 (by decide) (fun hc => ?_) (fun hc => ?_)
            · replace hE := fw_if_f hc hE
              refine lv_iinc (v := (v3 + (1 : Int32))) (lv' := [(3, .int (v3 + (1 : Int32))), (0, .ref v0), (1, .int v1), (2, .int v2)]) hx hb d_Mo_addKey_28 hl (k := 3) rfl rfl (by decide) rfl (fun ls hl => ?_)
              refine lv_goto (tgt := 2) hx hb d_Mo_addKey_31 (by decide) ?_
              exact ih _ _ _ _ _ hk_v0 _ _ _ R (lv_sub hl [1, 2, 3, 0] rfl) hE
            · replace hE := fw_if_t hc hE
              cases hE
              exact fw_vret C fw_X.rf rfl R d_Mo_addKey_27
  unfold F_Mo_addKey at hE
  refine lv_iconst (v := 0) hx hb d_Mo_addKey_0 (by decide) ?_
  refine lv_istore_n (lv' := [(3, .int (0 : Int32)), (0, .ref a0), (1, .int p1), (2, .int p2)]) hx hb d_Mo_addKey_1 rfl hl (by decide) rfl (fun ls hl => ?_)
  exact h_l2 _ _ _ _ _ _ hk_a0 _ _ _ R (lv_sub hl [1, 2, 3, 0] rfl) hE
set_option maxHeartbeats 4000000 in
set_option maxRecDepth 100000 in
theorem ct_Mo_ask (l : Launch) (G : fw_G) (kd0 : Nat → Option Nat) (S0 : fw_S) (a0 : Nat) (p1 : Int32) (p2 : Int32) (r0 : Int32) (S' : fw_S) (hk_a0 : kd0 a0 = some 7) (hE : F_Mo_ask a0 p1 p2 S0 = some (r0, S')) : fw_M l G y_Mo_ask prog_9_method_14_code 5 (some .int) 4 93 0 0 kd0 S0 ([.ref a0, .int p1, .int p2] : List Value) (some (.int r0)) S' (fun k => k = kd0) := by
  refine fw_start (by decide) (Nat.le_of_ble_eq_true rfl) ?_
  intro p e s m below meth c ls C hnm R hl
  clear hnm
  have hx := C.1
  have hb := C.2.1
  have hl : lv_has ls 5 [(0, .ref a0), (1, .int p1), (2, .int p2)] := hl
  have h_j140 : ∀ v0 : Nat, ∀ v3 : Int32, ∀ S0 : fw_S, kd0 v0 = some 7 → ∀ (H : Heap) (locs : List Loc) (ls : Array Slot), fw_R G kd0 S0 H locs → lv_has ls 5 [(0, .ref v0), (3, .int v3)] → F_Mo_ask_j140 v0 v3 S0 = some (r0, S') → W p l e { frames := 4, cells := 0, slots := 0, locals := 93 } s m ([.ref a0, .int p1, .int p2] : List Value).toArray below meth c H locs 0 0 (MQ below (fw_Q G kd0 (some (.int r0)) S' (fun k => k = kd0)) ([.ref a0, .int p1, .int p2] : List Value).toArray s 0 0 (fw_A G)) (F0 m 140 ls []) := by
    intro v0 v3 S0 hk_v0 H locs ls R hl hE
    unfold F_Mo_ask_j140 at hE
    refine lv_aload_n hx hb d_Mo_ask_140 rfl (lv_at hl 0 rfl) ?_
    refine lv_iconst (v := 0) hx hb d_Mo_ask_141 (by decide) ?_
    refine fw_puti C R ft_field_7_166 rfl hk_v0 d_Mo_ask_142 (fun H locs R => ?_)
    obtain ⟨S18, eS18, hE⟩ := fw_let_ex hE
    rw [← eS18] at R
    clear eS18
    refine lv_aload_n hx hb d_Mo_ask_145 rfl (lv_at hl 0 rfl) ?_
    refine fw_getr C R ft_field_7_63 hk_v0 rfl rfl d_Mo_ask_146 (fun hq => ?_) (fun b19 hq hk_b19 => ?_)
    · replace hE := fw_om_none hq hE
      refine lv_iload_n hx hb d_Mo_ask_149 rfl (lv_at hl 1 rfl) ?_
      cases hE
    · replace hE := fw_om_some hq hE
      refine lv_iload_n hx hb d_Mo_ask_149 rfl (lv_at hl 1 rfl) ?_
      obtain ⟨hi20, hE⟩ := fw_ifn hE
      refine fw_iald C R (by decide) hk_b19 hi20 d_Mo_ask_150 ?_
      refine lv_if_ne (tgt := 171) hx hb d_Mo_ask_151 (by decide) (fun hc => ?_) (fun hc => ?_)
      · replace hE := fw_if_f hc hE
        refine lv_aload_n hx hb d_Mo_ask_171 rfl (lv_at hl 0 rfl) ?_
        refine lv_iload_n hx hb d_Mo_ask_172 rfl (lv_at hl 1 rfl) ?_
        obtain ⟨S21, hF, hE⟩ := fw_bind hE
        refine fw_callV (As := [.int v3]) (rest := []) C R ft_callV_7_175 yi_Mo_askPart ys_Mo_askPart (ct_Mo_askPart l G kd0 S18 _ _ _ hk_v0 hF) hk_v0 (by decide) rfl rfl hl.1 rfl (lv_room (Nat.le_of_ble_eq_true rfl)) ⟨Nat.le_of_ble_eq_true rfl, Nat.le_of_ble_eq_true rfl⟩ ⟨Nat.le_of_ble_eq_true rfl, Nat.le_of_ble_eq_true rfl⟩ d_Mo_ask_173 (fun H locs kd22 hxkd22 hP R => ?_)
        rw [hP] at R; clear hP hxkd22
        refine lv_iload_n hx hb d_Mo_ask_176 rfl (lv_at hl 1 rfl) ?_
        cases hE
        exact fw_iret C fw_X.rf rfl R d_Mo_ask_177
      · replace hE := fw_if_t hc hE
        refine lv_aload_n hx hb d_Mo_ask_154 rfl (lv_at hl 0 rfl) ?_
        refine fw_getr C R ft_field_7_48 hk_v0 rfl rfl d_Mo_ask_155 (fun hq => ?_) (fun b23 hq hk_b23 => ?_)
        · replace hE := fw_om_none hq hE
          refine lv_iload_n hx hb d_Mo_ask_158 rfl (lv_at hl 1 rfl) ?_
          refine lv_iconst (v := 1) hx hb d_Mo_ask_159 (by decide) ?_
          cases hE
        · replace hE := fw_om_some hq hE
          refine lv_iload_n hx hb d_Mo_ask_158 rfl (lv_at hl 1 rfl) ?_
          refine lv_iconst (v := 1) hx hb d_Mo_ask_159 (by decide) ?_
          obtain ⟨hi24, hE⟩ := fw_ifn hE
          refine fw_iast C R (by decide) hk_b23 hi24 d_Mo_ask_160 (fun H locs R => ?_)
          obtain ⟨S25, eS25, hE⟩ := fw_let_ex hE
          rw [← eS25] at R
          clear eS25
          refine lv_aload_n hx hb d_Mo_ask_161 rfl (lv_at hl 0 rfl) ?_
          refine fw_getr C R ft_field_7_87 hk_v0 rfl rfl d_Mo_ask_162 (fun hq => ?_) (fun b26 hq hk_b26 => ?_)
          · replace hE := fw_om_none hq hE
            refine lv_iload_n hx hb d_Mo_ask_165 rfl (lv_at hl 1 rfl) ?_
            refine lv_iconst (v := -1) hx hb d_Mo_ask_166 (by decide) ?_
            cases hE
          · replace hE := fw_om_some hq hE
            refine lv_iload_n hx hb d_Mo_ask_165 rfl (lv_at hl 1 rfl) ?_
            refine lv_iconst (v := -1) hx hb d_Mo_ask_166 (by decide) ?_
            obtain ⟨hi27, hE⟩ := fw_ifn hE
            refine fw_iast C R (by decide) hk_b26 hi27 d_Mo_ask_167 (fun H locs R => ?_)
            obtain ⟨S28, eS28, hE⟩ := fw_let_ex hE
            rw [← eS28] at R
            clear eS28
            refine lv_goto (tgt := 176) hx hb d_Mo_ask_168 (by decide) ?_
            refine lv_iload_n hx hb d_Mo_ask_176 rfl (lv_at hl 1 rfl) ?_
            cases hE
            exact fw_iret C fw_X.rf rfl R d_Mo_ask_177
  have h_l75 : ∀ (n : Nat), ∀ v0 : Nat, ∀ v3 : Int32, ∀ v4 : Int32, ∀ S0 : fw_S, kd0 v0 = some 7 → ∀ (H : Heap) (locs : List Loc) (ls : Array Slot), fw_R G kd0 S0 H locs → lv_has ls 5 [(0, .ref v0), (3, .int v3), (4, .int v4)] → F_Mo_ask_l75 n v0 v3 v4 S0 = some (r0, S') → W p l e { frames := 4, cells := 0, slots := 0, locals := 93 } s m ([.ref a0, .int p1, .int p2] : List Value).toArray below meth c H locs 0 0 (MQ below (fw_Q G kd0 (some (.int r0)) S' (fun k => k = kd0)) ([.ref a0, .int p1, .int p2] : List Value).toArray s 0 0 (fw_A G)) (F0 m 75 ls []) := by
    intro n
    induction n with
    | zero =>
      intro v0 v3 v4 S0 hk_v0 H locs ls R hl hE
      rw [F_Mo_ask_l75] at hE
      cases hE
    | succ n ih =>
      intro v0 v3 v4 S0 hk_v0 H locs ls R hl hE
      rw [F_Mo_ask_l75] at hE
      refine lv_iload hx hb d_Mo_ask_75 (lv_at hl 2 rfl) ?_
      refine lv_aload_n hx hb d_Mo_ask_77 rfl (lv_at hl 0 rfl) ?_
      refine fw_get (v := .int (fw_g S0 v0 11)) C R ft_field_7_166 hk_v0 rfl d_Mo_ask_78 ?_
      refine lv_icmp_ge (tgt := 140) hx hb d_Mo_ask_81 (by decide) (fun hc => ?_) (fun hc => ?_)
      · replace hE := fw_if_t hc hE
        exact h_j140 _ _ _ hk_v0 _ _ _ R (lv_sub hl [0, 1] rfl) hE
      · replace hE := fw_if_f hc hE
        refine lv_aload_n hx hb d_Mo_ask_84 rfl (lv_at hl 0 rfl) ?_
        refine fw_getr C R ft_field_7_57 hk_v0 rfl rfl d_Mo_ask_85 (fun hq => ?_) (fun b29 hq hk_b29 => ?_)
        · replace hE := fw_om_none hq hE
          refine lv_bipush (v := 20) hx hb d_Mo_ask_88 (by decide) ?_
          refine lv_iload_n hx hb d_Mo_ask_90 rfl (lv_at hl 1 rfl) ?_
          refine lv_imul hx hb d_Mo_ask_91 ?_
          refine lv_iload hx hb d_Mo_ask_92 (lv_at hl 2 rfl) ?_
          refine lv_iadd hx hb d_Mo_ask_94 ?_
          refine lv_aload_n hx hb d_Mo_ask_95 rfl (lv_at hl 0 rfl) ?_
          refine fw_getr C R ft_field_7_36 hk_v0 rfl rfl d_Mo_ask_96 (fun hq => ?_) (fun b30 hq hk_b30 => ?_)
          · replace hE := fw_om_none hq hE
            refine lv_iload hx hb d_Mo_ask_99 (lv_at hl 2 rfl) ?_
            cases hE
          · replace hE := fw_om_some hq hE
            refine lv_iload hx hb d_Mo_ask_99 (lv_at hl 2 rfl) ?_
            obtain ⟨hi31, hE⟩ := fw_ifn hE
            refine fw_iald C R (by decide) hk_b30 hi31 d_Mo_ask_101 ?_
            cases hE
        · replace hE := fw_om_some hq hE
          refine lv_bipush (v := 20) hx hb d_Mo_ask_88 (by decide) ?_
          refine lv_iload_n hx hb d_Mo_ask_90 rfl (lv_at hl 1 rfl) ?_
          refine lv_imul hx hb d_Mo_ask_91 ?_
          refine lv_iload hx hb d_Mo_ask_92 (lv_at hl 2 rfl) ?_
          refine lv_iadd hx hb d_Mo_ask_94 ?_
          refine lv_aload_n hx hb d_Mo_ask_95 rfl (lv_at hl 0 rfl) ?_
          refine fw_getr C R ft_field_7_36 hk_v0 rfl rfl d_Mo_ask_96 (fun hq => ?_) (fun b32 hq hk_b32 => ?_)
          · replace hE := fw_om_none hq hE
            refine lv_iload hx hb d_Mo_ask_99 (lv_at hl 2 rfl) ?_
            cases hE
          · replace hE := fw_om_some hq hE
            refine lv_iload hx hb d_Mo_ask_99 (lv_at hl 2 rfl) ?_
            obtain ⟨hi33, hE⟩ := fw_ifn hE
            refine fw_iald C R (by decide) hk_b32 hi33 d_Mo_ask_101 ?_
            obtain ⟨hi34, hE⟩ := fw_ifn hE
            refine fw_iast C R (by decide) hk_b29 hi34 d_Mo_ask_102 (fun H locs R => ?_)
            obtain ⟨S35, eS35, hE⟩ := fw_let_ex hE
            rw [← eS35] at R
            clear eS35
            refine lv_aload_n hx hb d_Mo_ask_103 rfl (lv_at hl 0 rfl) ?_
            refine fw_getr C R ft_field_7_60 hk_v0 rfl rfl d_Mo_ask_104 (fun hq => ?_) (fun b36 hq hk_b36 => ?_)
            · replace hE := fw_om_none hq hE
              refine lv_bipush (v := 20) hx hb d_Mo_ask_107 (by decide) ?_
              refine lv_iload_n hx hb d_Mo_ask_109 rfl (lv_at hl 1 rfl) ?_
              refine lv_imul hx hb d_Mo_ask_110 ?_
              refine lv_iload hx hb d_Mo_ask_111 (lv_at hl 2 rfl) ?_
              refine lv_iadd hx hb d_Mo_ask_113 ?_
              refine lv_aload_n hx hb d_Mo_ask_114 rfl (lv_at hl 0 rfl) ?_
              refine fw_getr C R ft_field_7_39 hk_v0 rfl rfl d_Mo_ask_115 (fun hq => ?_) (fun b37 hq hk_b37 => ?_)
              · replace hE := fw_om_none hq hE
                refine lv_iload hx hb d_Mo_ask_118 (lv_at hl 2 rfl) ?_
                cases hE
              · replace hE := fw_om_some hq hE
                refine lv_iload hx hb d_Mo_ask_118 (lv_at hl 2 rfl) ?_
                obtain ⟨hi38, hE⟩ := fw_ifn hE
                refine fw_iald C R (by decide) hk_b37 hi38 d_Mo_ask_120 ?_
                cases hE
            · replace hE := fw_om_some hq hE
              refine lv_bipush (v := 20) hx hb d_Mo_ask_107 (by decide) ?_
              refine lv_iload_n hx hb d_Mo_ask_109 rfl (lv_at hl 1 rfl) ?_
              refine lv_imul hx hb d_Mo_ask_110 ?_
              refine lv_iload hx hb d_Mo_ask_111 (lv_at hl 2 rfl) ?_
              refine lv_iadd hx hb d_Mo_ask_113 ?_
              refine lv_aload_n hx hb d_Mo_ask_114 rfl (lv_at hl 0 rfl) ?_
              refine fw_getr C R ft_field_7_39 hk_v0 rfl rfl d_Mo_ask_115 (fun hq => ?_) (fun b39 hq hk_b39 => ?_)
              · replace hE := fw_om_none hq hE
                refine lv_iload hx hb d_Mo_ask_118 (lv_at hl 2 rfl) ?_
                cases hE
              · replace hE := fw_om_some hq hE
                refine lv_iload hx hb d_Mo_ask_118 (lv_at hl 2 rfl) ?_
                obtain ⟨hi40, hE⟩ := fw_ifn hE
                refine fw_iald C R (by decide) hk_b39 hi40 d_Mo_ask_120 ?_
                obtain ⟨hi41, hE⟩ := fw_ifn hE
                refine fw_iast C R (by decide) hk_b36 hi41 d_Mo_ask_121 (fun H locs R => ?_)
                obtain ⟨S42, eS42, hE⟩ := fw_let_ex hE
                rw [← eS42] at R
                clear eS42
                refine lv_aload_n hx hb d_Mo_ask_122 rfl (lv_at hl 0 rfl) ?_
                refine lv_iload_n hx hb d_Mo_ask_123 rfl (lv_at hl 1 rfl) ?_
                refine lv_aload_n hx hb d_Mo_ask_124 rfl (lv_at hl 0 rfl) ?_
                refine fw_getr C R ft_field_7_36 hk_v0 rfl rfl d_Mo_ask_125 (fun hq => ?_) (fun b43 hq hk_b43 => ?_)
                · replace hE := fw_om_none hq hE
                  refine lv_iload hx hb d_Mo_ask_128 (lv_at hl 2 rfl) ?_
                  cases hE
                · replace hE := fw_om_some hq hE
                  refine lv_iload hx hb d_Mo_ask_128 (lv_at hl 2 rfl) ?_
                  obtain ⟨hi44, hE⟩ := fw_ifn hE
                  refine fw_iald C R (by decide) hk_b43 hi44 d_Mo_ask_130 ?_
                  obtain ⟨S45, hF, hE⟩ := fw_bind hE
                  refine fw_callV (As := [.int v3, .int (fw_g S42 b43 v4.toNatClampNeg)]) (rest := []) C R ft_callV_7_172 yi_Mo_addKey ys_Mo_addKey (ct_Mo_addKey l G kd0 S42 _ _ _ _ hk_v0 hF) hk_v0 (by decide) rfl rfl hl.1 rfl (lv_room (Nat.le_of_ble_eq_true rfl)) ⟨Nat.le_of_ble_eq_true rfl, Nat.le_of_ble_eq_true rfl⟩ ⟨Nat.le_of_ble_eq_true rfl, Nat.le_of_ble_eq_true rfl⟩ d_Mo_ask_131 (fun H locs kd46 hxkd46 hP R => ?_)
                  rw [hP] at R; clear hP hxkd46
                  refine lv_iinc (v := (v4 + (1 : Int32))) (lv' := [(4, .int (v4 + (1 : Int32))), (0, .ref v0), (3, .int v3)]) hx hb d_Mo_ask_134 hl (k := 2) rfl rfl (by decide) rfl (fun ls hl => ?_)
                  refine lv_goto (tgt := 75) hx hb d_Mo_ask_137 (by decide) ?_
                  exact ih _ _ _ _ hk_v0 _ _ _ R (lv_sub hl [1, 2, 0] rfl) hE
  unfold F_Mo_ask at hE
  refine lv_iload_n hx hb d_Mo_ask_0 rfl (lv_at hl 1 rfl) ?_
  refine lv_iconst (v := 0) hx hb d_Mo_ask_1 (by decide) ?_
  refine lv_iconst (v := 3) hx hb d_Mo_ask_2 (by decide) ?_
  obtain ⟨x1, hF, hE⟩ := fw_bind hE
  refine fw_callS (As := [.int p1, .int (0 : Int32), .int (3 : Int32)]) (rest := []) C R ft_callS_7_163 yt_Mo_isIn (ct_Mo_isIn l G kd0 S0 _ _ _ _  hF) rfl hl.1 rfl (lv_room (Nat.le_of_ble_eq_true rfl)) ⟨Nat.le_of_ble_eq_true rfl, Nat.le_of_ble_eq_true rfl⟩ ⟨Nat.le_of_ble_eq_true rfl, Nat.le_of_ble_eq_true rfl⟩ d_Mo_ask_3 (fun H locs kd2 hxkd2 hP R => ?_)
  rw [hP] at R; clear hP hxkd2
  refine lv_if_ne (tgt := 11) hx hb d_Mo_ask_6 (by decide) (fun hc => ?_) (fun hc => ?_)
  · replace hE := fw_if_f hc hE
    refine lv_aload_n hx hb d_Mo_ask_11 rfl (lv_at hl 0 rfl) ?_
    refine fw_get (v := .int (fw_g S0 a0 14)) C R ft_field_7_169 hk_a0 rfl d_Mo_ask_12 ?_
    refine lv_bipush (v := 24) hx hb d_Mo_ask_15 (by decide) ?_
    refine lv_icmp_ne (tgt := 23) hx hb d_Mo_ask_17 (by decide) (fun hc => ?_) (fun hc => ?_)
    · replace hE := fw_if_f hc hE
      refine lv_aload_n hx hb d_Mo_ask_23 rfl (lv_at hl 0 rfl) ?_
      refine fw_get (v := .int (fw_g S0 a0 14)) C R ft_field_7_169 hk_a0 rfl d_Mo_ask_24 ?_
      refine lv_topi (fun x3 ex3 => ?_)
      replace hE := fw_let_use ex3 hE
      clear ex3
      refine lv_istore_n (lv' := [(3, .int x3), (0, .ref a0), (1, .int p1), (2, .int p2)]) hx hb d_Mo_ask_27 rfl hl (by decide) rfl (fun ls hl => ?_)
      refine lv_aload_n hx hb d_Mo_ask_28 rfl (lv_at hl 1 rfl) ?_
      refine lv_dup hx hb d_Mo_ask_29 rfl ?_
      refine fw_get (v := .int (fw_g S0 a0 14)) C R ft_field_7_169 hk_a0 rfl d_Mo_ask_30 ?_
      refine lv_iconst (v := 1) hx hb d_Mo_ask_33 (by decide) ?_
      refine lv_iadd hx hb d_Mo_ask_34 ?_
      refine fw_puti C R ft_field_7_169 rfl hk_a0 d_Mo_ask_35 (fun H locs R => ?_)
      obtain ⟨S4, eS4, hE⟩ := fw_let_ex hE
      rw [← eS4] at R
      clear eS4
      refine lv_aload_n hx hb d_Mo_ask_38 rfl (lv_at hl 1 rfl) ?_
      refine fw_getr C R ft_field_7_42 hk_a0 rfl rfl d_Mo_ask_39 (fun hq => ?_) (fun b5 hq hk_b5 => ?_)
      · replace hE := fw_om_none hq hE
        refine lv_iload_n hx hb d_Mo_ask_42 rfl (lv_at hl 0 rfl) ?_
        refine lv_iload_n hx hb d_Mo_ask_43 rfl (lv_at hl 2 rfl) ?_
        cases hE
      · replace hE := fw_om_some hq hE
        refine lv_iload_n hx hb d_Mo_ask_42 rfl (lv_at hl 0 rfl) ?_
        refine lv_iload_n hx hb d_Mo_ask_43 rfl (lv_at hl 2 rfl) ?_
        obtain ⟨hi6, hE⟩ := fw_ifn hE
        refine fw_iast C R (by decide) hk_b5 hi6 d_Mo_ask_44 (fun H locs R => ?_)
        obtain ⟨S7, eS7, hE⟩ := fw_let_ex hE
        rw [← eS7] at R
        clear eS7
        refine lv_aload_n hx hb d_Mo_ask_45 rfl (lv_at hl 1 rfl) ?_
        refine fw_getr C R ft_field_7_45 hk_a0 rfl rfl d_Mo_ask_46 (fun hq => ?_) (fun b8 hq hk_b8 => ?_)
        · replace hE := fw_om_none hq hE
          refine lv_iload_n hx hb d_Mo_ask_49 rfl (lv_at hl 0 rfl) ?_
          refine lv_iload_n hx hb d_Mo_ask_50 rfl (lv_at hl 3 rfl) ?_
          cases hE
        · replace hE := fw_om_some hq hE
          refine lv_iload_n hx hb d_Mo_ask_49 rfl (lv_at hl 0 rfl) ?_
          refine lv_iload_n hx hb d_Mo_ask_50 rfl (lv_at hl 3 rfl) ?_
          obtain ⟨hz10, hE⟩ := fw_ifp hE
          obtain ⟨hi9, hE⟩ := fw_ifn hE
          refine fw_zast C R (by decide) hk_b8 hz10 hi9 d_Mo_ask_51 (fun H locs R => ?_)
          obtain ⟨S11, eS11, hE⟩ := fw_let_ex hE
          rw [← eS11] at R
          clear eS11
          refine lv_aload_n hx hb d_Mo_ask_52 rfl (lv_at hl 1 rfl) ?_
          refine fw_getr C R ft_field_7_69 hk_a0 rfl rfl d_Mo_ask_53 (fun hq => ?_) (fun b12 hq hk_b12 => ?_)
          · replace hE := fw_om_none hq hE
            refine lv_iload_n hx hb d_Mo_ask_56 rfl (lv_at hl 0 rfl) ?_
            refine lv_aload_n hx hb d_Mo_ask_57 rfl (lv_at hl 1 rfl) ?_
            refine fw_get (v := .int (fw_g S11 a0 5)) C R ft_field_7_26 hk_a0 rfl d_Mo_ask_58 ?_
            cases hE
          · replace hE := fw_om_some hq hE
            refine lv_iload_n hx hb d_Mo_ask_56 rfl (lv_at hl 0 rfl) ?_
            refine lv_aload_n hx hb d_Mo_ask_57 rfl (lv_at hl 1 rfl) ?_
            refine fw_get (v := .int (fw_g S11 a0 5)) C R ft_field_7_26 hk_a0 rfl d_Mo_ask_58 ?_
            obtain ⟨hi13, hE⟩ := fw_ifn hE
            refine fw_iast C R (by decide) hk_b12 hi13 d_Mo_ask_61 (fun H locs R => ?_)
            obtain ⟨S14, eS14, hE⟩ := fw_let_ex hE
            rw [← eS14] at R
            clear eS14
            refine lv_aload_n hx hb d_Mo_ask_62 rfl (lv_at hl 1 rfl) ?_
            refine fw_getr C R ft_field_7_54 hk_a0 rfl rfl d_Mo_ask_63 (fun hq => ?_) (fun b15 hq hk_b15 => ?_)
            · replace hE := fw_om_none hq hE
              refine lv_iload_n hx hb d_Mo_ask_66 rfl (lv_at hl 0 rfl) ?_
              refine lv_aload_n hx hb d_Mo_ask_67 rfl (lv_at hl 1 rfl) ?_
              refine fw_get (v := .int (fw_g S14 a0 11)) C R ft_field_7_166 hk_a0 rfl d_Mo_ask_68 ?_
              cases hE
            · replace hE := fw_om_some hq hE
              refine lv_iload_n hx hb d_Mo_ask_66 rfl (lv_at hl 0 rfl) ?_
              refine lv_aload_n hx hb d_Mo_ask_67 rfl (lv_at hl 1 rfl) ?_
              refine fw_get (v := .int (fw_g S14 a0 11)) C R ft_field_7_166 hk_a0 rfl d_Mo_ask_68 ?_
              obtain ⟨hi16, hE⟩ := fw_ifn hE
              refine fw_iast C R (by decide) hk_b15 hi16 d_Mo_ask_71 (fun H locs R => ?_)
              obtain ⟨S17, eS17, hE⟩ := fw_let_ex hE
              rw [← eS17] at R
              clear eS17
              refine lv_iconst (v := 0) hx hb d_Mo_ask_72 (by decide) ?_
              refine lv_istore (lv' := [(4, .int (0 : Int32)), (3, .int x3), (0, .ref a0), (1, .int p1), (2, .int p2)]) hx hb d_Mo_ask_73 hl (by decide) rfl (fun ls hl => ?_)
              exact h_l75 _ _ _ _ _ hk_a0 _ _ _ R (lv_sub hl [2, 1, 0] rfl) hE
    · replace hE := fw_if_t hc hE
      refine lv_bipush (v := -3) hx hb d_Mo_ask_20 (by decide) ?_
      cases hE
      exact fw_iret C fw_X.rf rfl R d_Mo_ask_22
  · replace hE := fw_if_t hc hE
    refine lv_iconst (v := -1) hx hb d_Mo_ask_9 (by decide) ?_
    cases hE
    exact fw_iret C fw_X.rf rfl R d_Mo_ask_10
set_option maxHeartbeats 4000000 in
set_option maxRecDepth 100000 in
theorem ct_Mo_isDropped (l : Launch) (G : fw_G) (kd0 : Nat → Option Nat) (S0 : fw_S) (a0 : Nat) (p1 : Int32) (p2 : Int32) (p3 : Int32) (p4 : Int32) (r0 : Int32) (S' : fw_S) (hk_a0 : kd0 a0 = some 7) (hE : F_Mo_isDropped a0 p1 p2 p3 p4 S0 = some (r0, S')) : fw_M l G y_Mo_isDropped prog_9_method_15_code 7 (some .boolean) 4 93 0 0 kd0 S0 ([.ref a0, .int p1, .int p2, .int p3, .int p4] : List Value) (some (.int r0)) S' (fun k => k = kd0) := by
  refine fw_start (by decide) (Nat.le_of_ble_eq_true rfl) ?_
  intro p e s m below meth c ls C hnm R hl
  clear hnm
  have hx := C.1
  have hb := C.2.1
  have hl : lv_has ls 7 [(0, .ref a0), (1, .int p1), (2, .int p2), (3, .int p3), (4, .int p4)] := hl
  have h_j242 : ∀ v0 : Nat, ∀ v3 : Int32, ∀ v6 : Int32, ∀ S0 : fw_S, kd0 v0 = some 7 → ∀ (H : Heap) (locs : List Loc) (ls : Array Slot), fw_R G kd0 S0 H locs → lv_has ls 7 [(0, .ref v0), (3, .int v3), (6, .int v6)] → F_Mo_isDropped_j242 v0 v3 v6 S0 = some (r0, S') → W p l e { frames := 4, cells := 0, slots := 0, locals := 93 } s m ([.ref a0, .int p1, .int p2, .int p3, .int p4] : List Value).toArray below meth c H locs 0 0 (MQ below (fw_Q G kd0 (some (.int r0)) S' (fun k => k = kd0)) ([.ref a0, .int p1, .int p2, .int p3, .int p4] : List Value).toArray s 0 0 (fw_A G)) (F0 m 242 ls []) := by
    intro v0 v3 v6 S0 hk_v0 H locs ls R hl hE
    unfold F_Mo_isDropped_j242 at hE
    refine lv_aload_n hx hb d_Mo_isDropped_242 rfl (lv_at hl 0 rfl) ?_
    refine fw_getr C R ft_field_7_87 hk_v0 rfl rfl d_Mo_isDropped_243 (fun hq => ?_) (fun b18 hq hk_b18 => ?_)
    · replace hE := fw_om_none hq hE
      refine lv_iload_n hx hb d_Mo_isDropped_246 rfl (lv_at hl 1 rfl) ?_
      refine lv_aload_n hx hb d_Mo_isDropped_247 rfl (lv_at hl 0 rfl) ?_
      refine fw_getr C R ft_field_7_87 hk_v0 rfl rfl d_Mo_isDropped_248 (fun hq => ?_) (fun b19 hq hk_b19 => ?_)
      · replace hE := fw_om_none hq hE
        refine lv_iload_n hx hb d_Mo_isDropped_251 rfl (lv_at hl 1 rfl) ?_
        cases hE
      · replace hE := fw_om_some hq hE
        refine lv_iload_n hx hb d_Mo_isDropped_251 rfl (lv_at hl 1 rfl) ?_
        obtain ⟨hi20, hE⟩ := fw_ifn hE
        refine fw_iald C R (by decide) hk_b19 hi20 d_Mo_isDropped_252 ?_
        refine lv_iconst (v := 1) hx hb d_Mo_isDropped_253 (by decide) ?_
        refine lv_iadd hx hb d_Mo_isDropped_254 ?_
        refine lv_sipush (v := 255) hx hb d_Mo_isDropped_255 (by decide) ?_
        refine lv_iand hx hb d_Mo_isDropped_258 ?_
        cases hE
    · replace hE := fw_om_some hq hE
      refine lv_iload_n hx hb d_Mo_isDropped_246 rfl (lv_at hl 1 rfl) ?_
      refine lv_aload_n hx hb d_Mo_isDropped_247 rfl (lv_at hl 0 rfl) ?_
      refine fw_getr C R ft_field_7_87 hk_v0 rfl rfl d_Mo_isDropped_248 (fun hq => ?_) (fun b21 hq hk_b21 => ?_)
      · replace hE := fw_om_none hq hE
        refine lv_iload_n hx hb d_Mo_isDropped_251 rfl (lv_at hl 1 rfl) ?_
        cases hE
      · replace hE := fw_om_some hq hE
        refine lv_iload_n hx hb d_Mo_isDropped_251 rfl (lv_at hl 1 rfl) ?_
        obtain ⟨hi22, hE⟩ := fw_ifn hE
        refine fw_iald C R (by decide) hk_b21 hi22 d_Mo_isDropped_252 ?_
        refine lv_iconst (v := 1) hx hb d_Mo_isDropped_253 (by decide) ?_
        refine lv_iadd hx hb d_Mo_isDropped_254 ?_
        refine lv_sipush (v := 255) hx hb d_Mo_isDropped_255 (by decide) ?_
        refine lv_iand hx hb d_Mo_isDropped_258 ?_
        obtain ⟨hi23, hE⟩ := fw_ifn hE
        refine fw_iast C R (by decide) hk_b18 hi23 d_Mo_isDropped_259 (fun H locs R => ?_)
        obtain ⟨S24, eS24, hE⟩ := fw_let_ex hE
        rw [← eS24] at R
        clear eS24
        refine lv_iload hx hb d_Mo_isDropped_260 (lv_at hl 2 rfl) ?_
        refine lv_if_eq (tgt := 299) hx hb d_Mo_isDropped_262 (by decide) (fun hc => ?_) (fun hc => ?_)
        · replace hE := fw_if_t hc hE
          refine lv_aload_n hx hb d_Mo_isDropped_299 rfl (lv_at hl 0 rfl) ?_
          refine lv_iload_n hx hb d_Mo_isDropped_300 rfl (lv_at hl 1 rfl) ?_
          obtain ⟨S25, hF, hE⟩ := fw_bind hE
          refine fw_callV (As := [.int v3]) (rest := []) C R ft_callV_7_175 yi_Mo_askPart ys_Mo_askPart (ct_Mo_askPart l G kd0 S24 _ _ _ hk_v0 hF) hk_v0 (by decide) rfl rfl hl.1 rfl (lv_room (Nat.le_of_ble_eq_true rfl)) ⟨Nat.le_of_ble_eq_true rfl, Nat.le_of_ble_eq_true rfl⟩ ⟨Nat.le_of_ble_eq_true rfl, Nat.le_of_ble_eq_true rfl⟩ d_Mo_isDropped_301 (fun H locs kd26 hxkd26 hP R => ?_)
          rw [hP] at R; clear hP hxkd26
          refine lv_iconst (v := 0) hx hb d_Mo_isDropped_304 (by decide) ?_
          cases hE
          exact fw_zret C (by decide) fw_X.rf rfl R d_Mo_isDropped_305
        · replace hE := fw_if_f hc hE
          refine lv_aload_n hx hb d_Mo_isDropped_265 rfl (lv_at hl 0 rfl) ?_
          refine lv_iconst (v := 0) hx hb d_Mo_isDropped_266 (by decide) ?_
          refine fw_puti C R ft_field_7_138 rfl hk_v0 d_Mo_isDropped_267 (fun H locs R => ?_)
          obtain ⟨S27, eS27, hE⟩ := fw_let_ex hE
          rw [← eS27] at R
          clear eS27
          refine lv_aload_n hx hb d_Mo_isDropped_270 rfl (lv_at hl 0 rfl) ?_
          refine lv_aload_n hx hb d_Mo_isDropped_271 rfl (lv_at hl 0 rfl) ?_
          refine fw_getr C R ft_field_7_87 hk_v0 rfl rfl d_Mo_isDropped_272 (fun hq => ?_) (fun b28 hq hk_b28 => ?_)
          · replace hE := fw_om_none hq hE
            refine lv_iload_n hx hb d_Mo_isDropped_275 rfl (lv_at hl 1 rfl) ?_
            cases hE
          · replace hE := fw_om_some hq hE
            refine lv_iload_n hx hb d_Mo_isDropped_275 rfl (lv_at hl 1 rfl) ?_
            obtain ⟨hi29, hE⟩ := fw_ifn hE
            refine fw_iald C R (by decide) hk_b28 hi29 d_Mo_isDropped_276 ?_
            obtain ⟨S30, hF, hE⟩ := fw_bind hE
            refine fw_callV (As := [.int (fw_g S27 b28 v3.toNatClampNeg)]) (rest := []) C R ft_callV_7_144 yi_Mo_put ys_Mo_put (ct_Mo_put l G kd0 S27 _ _ _ hk_v0 hF) hk_v0 (by decide) rfl rfl hl.1 rfl (lv_room (Nat.le_of_ble_eq_true rfl)) ⟨Nat.le_of_ble_eq_true rfl, Nat.le_of_ble_eq_true rfl⟩ ⟨Nat.le_of_ble_eq_true rfl, Nat.le_of_ble_eq_true rfl⟩ d_Mo_isDropped_277 (fun H locs kd31 hxkd31 hP R => ?_)
            rw [hP] at R; clear hP hxkd31
            refine lv_aload_n hx hb d_Mo_isDropped_280 rfl (lv_at hl 0 rfl) ?_
            refine lv_aload_n hx hb d_Mo_isDropped_281 rfl (lv_at hl 0 rfl) ?_
            refine fw_getr C R ft_field_7_84 hk_v0 rfl rfl d_Mo_isDropped_282 (fun hq => ?_) (fun b32 hq hk_b32 => ?_)
            · replace hE := fw_om_none hq hE
              refine lv_iload_n hx hb d_Mo_isDropped_285 rfl (lv_at hl 1 rfl) ?_
              cases hE
            · replace hE := fw_om_some hq hE
              refine lv_iload_n hx hb d_Mo_isDropped_285 rfl (lv_at hl 1 rfl) ?_
              obtain ⟨hi33, hE⟩ := fw_ifn hE
              refine fw_iald C R (by decide) hk_b32 hi33 d_Mo_isDropped_286 ?_
              obtain ⟨S34, hF, hE⟩ := fw_bind hE
              refine fw_callV (As := [.int (fw_g S30 b32 v3.toNatClampNeg)]) (rest := []) C R ft_callV_7_144 yi_Mo_put ys_Mo_put (ct_Mo_put l G kd0 S30 _ _ _ hk_v0 hF) hk_v0 (by decide) rfl rfl hl.1 rfl (lv_room (Nat.le_of_ble_eq_true rfl)) ⟨Nat.le_of_ble_eq_true rfl, Nat.le_of_ble_eq_true rfl⟩ ⟨Nat.le_of_ble_eq_true rfl, Nat.le_of_ble_eq_true rfl⟩ d_Mo_isDropped_287 (fun H locs kd35 hxkd35 hP R => ?_)
              rw [hP] at R; clear hP hxkd35
              refine lv_aload_n hx hb d_Mo_isDropped_290 rfl (lv_at hl 0 rfl) ?_
              refine lv_iload_n hx hb d_Mo_isDropped_291 rfl (lv_at hl 1 rfl) ?_
              refine lv_iconst (v := 3) hx hb d_Mo_isDropped_292 (by decide) ?_
              obtain ⟨S36, hF, hE⟩ := fw_bind hE
              refine fw_callV (As := [.int v3, .int (3 : Int32)]) (rest := []) C R ft_callV_7_159 yi_Mo_keep ys_Mo_keep (ct_Mo_keep l G kd0 S34 _ _ _ _ hk_v0 hF) hk_v0 (by decide) rfl rfl hl.1 rfl (lv_room (Nat.le_of_ble_eq_true rfl)) ⟨Nat.le_of_ble_eq_true rfl, Nat.le_of_ble_eq_true rfl⟩ ⟨Nat.le_of_ble_eq_true rfl, Nat.le_of_ble_eq_true rfl⟩ d_Mo_isDropped_293 (fun H locs kd37 hxkd37 hP R => ?_)
              rw [hP] at R; clear hP hxkd37
              refine lv_goto (tgt := 304) hx hb d_Mo_isDropped_296 (by decide) ?_
              refine lv_iconst (v := 0) hx hb d_Mo_isDropped_304 (by decide) ?_
              cases hE
              exact fw_zret C (by decide) fw_X.rf rfl R d_Mo_isDropped_305
  have h_j213 : ∀ v0 : Nat, ∀ v3 : Int32, ∀ s0 : Int32, ∀ S0 : fw_S, kd0 v0 = some 7 → ∀ (H : Heap) (locs : List Loc) (ls : Array Slot), fw_R G kd0 S0 H locs → lv_has ls 7 [(0, .ref v0), (3, .int v3)] → F_Mo_isDropped_j213 v0 v3 s0 S0 = some (r0, S') → W p l e { frames := 4, cells := 0, slots := 0, locals := 93 } s m ([.ref a0, .int p1, .int p2, .int p3, .int p4] : List Value).toArray below meth c H locs 0 0 (MQ below (fw_Q G kd0 (some (.int r0)) S' (fun k => k = kd0)) ([.ref a0, .int p1, .int p2, .int p3, .int p4] : List Value).toArray s 0 0 (fw_A G)) (F0 m 213 ls [.int s0]) := by
    intro v0 v3 s0 S0 hk_v0 H locs ls R hl hE
    unfold F_Mo_isDropped_j213 at hE
    refine lv_istore (lv' := [(6, .int s0), (0, .ref v0), (3, .int v3)]) hx hb d_Mo_isDropped_213 hl (by decide) rfl (fun ls hl => ?_)
    refine lv_iload hx hb d_Mo_isDropped_215 (lv_at hl 0 rfl) ?_
    refine lv_if_ne (tgt := 242) hx hb d_Mo_isDropped_217 (by decide) (fun hc => ?_) (fun hc => ?_)
    · replace hE := fw_if_f hc hE
      exact h_j242 _ _ _ _ hk_v0 _ _ _ R (lv_sub hl [1, 2, 0] rfl) hE
    · replace hE := fw_if_t hc hE
      refine lv_aload_n hx hb d_Mo_isDropped_220 rfl (lv_at hl 1 rfl) ?_
      refine fw_getr C R ft_field_7_72 hk_v0 rfl rfl d_Mo_isDropped_221 (fun hq => ?_) (fun b38 hq hk_b38 => ?_)
      · replace hE := fw_om_none hq hE
        refine lv_iload_n hx hb d_Mo_isDropped_224 rfl (lv_at hl 2 rfl) ?_
        cases hE
      · replace hE := fw_om_some hq hE
        refine lv_iload_n hx hb d_Mo_isDropped_224 rfl (lv_at hl 2 rfl) ?_
        obtain ⟨hi39, hE⟩ := fw_ifn hE
        refine fw_iald C R (by decide) hk_b38 hi39 d_Mo_isDropped_225 ?_
        refine lv_aload_n hx hb d_Mo_isDropped_226 rfl (lv_at hl 1 rfl) ?_
        refine fw_getr C R ft_field_7_63 hk_v0 rfl rfl d_Mo_isDropped_227 (fun hq => ?_) (fun b40 hq hk_b40 => ?_)
        · replace hE := fw_om_none hq hE
          refine lv_iload_n hx hb d_Mo_isDropped_230 rfl (lv_at hl 2 rfl) ?_
          cases hE
        · replace hE := fw_om_some hq hE
          refine lv_iload_n hx hb d_Mo_isDropped_230 rfl (lv_at hl 2 rfl) ?_
          obtain ⟨hi41, hE⟩ := fw_ifn hE
          refine fw_iald C R (by decide) hk_b40 hi41 d_Mo_isDropped_231 ?_
          refine lv_icmp_ne (tgt := 242) hx hb d_Mo_isDropped_232 (by decide) (fun hc => ?_) (fun hc => ?_)
          · replace hE := fw_if_f hc hE
            exact h_j242 _ _ _ _ hk_v0 _ _ _ R (lv_sub hl [1, 2, 0] rfl) hE
          · replace hE := fw_if_t hc hE
            refine lv_aload_n hx hb d_Mo_isDropped_235 rfl (lv_at hl 1 rfl) ?_
            refine lv_iload_n hx hb d_Mo_isDropped_236 rfl (lv_at hl 2 rfl) ?_
            obtain ⟨S42, hF, hE⟩ := fw_bind hE
            refine fw_callV (As := [.int v3]) (rest := []) C R ft_callV_7_181 yi_Mo_finish ys_Mo_finish (ct_Mo_finish l G kd0 S0 _ _ _ hk_v0 hF) hk_v0 (by decide) rfl rfl hl.1 rfl (lv_room (Nat.le_of_ble_eq_true rfl)) ⟨Nat.le_of_ble_eq_true rfl, Nat.le_of_ble_eq_true rfl⟩ ⟨Nat.le_of_ble_eq_true rfl, Nat.le_of_ble_eq_true rfl⟩ d_Mo_isDropped_237 (fun H locs kd43 hxkd43 hP R => ?_)
            rw [hP] at R; clear hP hxkd43
            refine lv_iconst (v := 0) hx hb d_Mo_isDropped_240 (by decide) ?_
            cases hE
            exact fw_zret C (by decide) fw_X.rf rfl R d_Mo_isDropped_241
  have h_j184 : ∀ v0 : Nat, ∀ v3 : Int32, ∀ v4 : Int32, ∀ v5 : Int32, ∀ S0 : fw_S, kd0 v0 = some 7 → ∀ (H : Heap) (locs : List Loc) (ls : Array Slot), fw_R G kd0 S0 H locs → lv_has ls 7 [(0, .ref v0), (3, .int v3), (4, .int v4), (5, .int v5)] → F_Mo_isDropped_j184 v0 v3 v4 v5 S0 = some (r0, S') → W p l e { frames := 4, cells := 0, slots := 0, locals := 93 } s m ([.ref a0, .int p1, .int p2, .int p3, .int p4] : List Value).toArray below meth c H locs 0 0 (MQ below (fw_Q G kd0 (some (.int r0)) S' (fun k => k = kd0)) ([.ref a0, .int p1, .int p2, .int p3, .int p4] : List Value).toArray s 0 0 (fw_A G)) (F0 m 184 ls []) := by
    intro v0 v3 v4 v5 S0 hk_v0 H locs ls R hl hE
    unfold F_Mo_isDropped_j184 at hE
    refine lv_aload_n hx hb d_Mo_isDropped_184 rfl (lv_at hl 0 rfl) ?_
    refine fw_getr C R ft_field_7_84 hk_v0 rfl rfl d_Mo_isDropped_185 (fun hq => ?_) (fun b12 hq hk_b12 => ?_)
    · replace hE := fw_om_none hq hE
      refine lv_iload_n hx hb d_Mo_isDropped_188 rfl (lv_at hl 1 rfl) ?_
      refine lv_dup2_11 hx hb d_Mo_isDropped_189 rfl rfl ?_
      cases hE
    · replace hE := fw_om_some hq hE
      refine lv_iload_n hx hb d_Mo_isDropped_188 rfl (lv_at hl 1 rfl) ?_
      refine lv_dup2_11 hx hb d_Mo_isDropped_189 rfl rfl ?_
      obtain ⟨hi13, hE⟩ := fw_ifn hE
      refine fw_iald C R (by decide) hk_b12 hi13 d_Mo_isDropped_190 ?_
      refine lv_iload hx hb d_Mo_isDropped_191 (lv_at hl 3 rfl) ?_
      refine lv_iadd hx hb d_Mo_isDropped_193 ?_
      obtain ⟨hi14, hE⟩ := fw_ifn hE
      refine fw_iast C R (by decide) hk_b12 hi14 d_Mo_isDropped_194 (fun H locs R => ?_)
      obtain ⟨S15, eS15, hE⟩ := fw_let_ex hE
      rw [← eS15] at R
      clear eS15
      refine lv_aload_n hx hb d_Mo_isDropped_195 rfl (lv_at hl 0 rfl) ?_
      refine fw_getr C R ft_field_7_20 hk_v0 rfl rfl d_Mo_isDropped_196 (fun hq => ?_) (fun b16 hq hk_b16 => ?_)
      · replace hE := fw_om_none hq hE
        refine lv_iload hx hb d_Mo_isDropped_199 (lv_at hl 2 rfl) ?_
        refine lv_iconst (v := 5) hx hb d_Mo_isDropped_201 (by decide) ?_
        refine lv_iadd hx hb d_Mo_isDropped_202 ?_
        cases hE
      · replace hE := fw_om_some hq hE
        refine lv_iload hx hb d_Mo_isDropped_199 (lv_at hl 2 rfl) ?_
        refine lv_iconst (v := 5) hx hb d_Mo_isDropped_201 (by decide) ?_
        refine lv_iadd hx hb d_Mo_isDropped_202 ?_
        obtain ⟨hi17, hE⟩ := fw_ifn hE
        refine fw_iald C R (by decide) hk_b16 hi17 d_Mo_isDropped_203 ?_
        refine lv_iconst (v := 1) hx hb d_Mo_isDropped_204 (by decide) ?_
        refine lv_icmp_ne (tgt := 212) hx hb d_Mo_isDropped_205 (by decide) (fun hc => ?_) (fun hc => ?_)
        · replace hE := fw_if_f hc hE
          refine lv_iconst (v := 0) hx hb d_Mo_isDropped_212 (by decide) ?_
          exact h_j213 _ _ _ _ hk_v0 _ _ _ R (lv_sub hl [0, 1] rfl) hE
        · replace hE := fw_if_t hc hE
          refine lv_iconst (v := 1) hx hb d_Mo_isDropped_208 (by decide) ?_
          refine lv_goto (tgt := 213) hx hb d_Mo_isDropped_209 (by decide) ?_
          exact h_j213 _ _ _ _ hk_v0 _ _ _ R (lv_sub hl [0, 1] rfl) hE
  have h_l88 : ∀ (n : Nat), ∀ v0 : Nat, ∀ v3 : Int32, ∀ v4 : Int32, ∀ v5 : Int32, ∀ v6 : Int32, ∀ S0 : fw_S, kd0 v0 = some 7 → ∀ (H : Heap) (locs : List Loc) (ls : Array Slot), fw_R G kd0 S0 H locs → lv_has ls 7 [(0, .ref v0), (3, .int v3), (4, .int v4), (5, .int v5), (6, .int v6)] → F_Mo_isDropped_l88 n v0 v3 v4 v5 v6 S0 = some (r0, S') → W p l e { frames := 4, cells := 0, slots := 0, locals := 93 } s m ([.ref a0, .int p1, .int p2, .int p3, .int p4] : List Value).toArray below meth c H locs 0 0 (MQ below (fw_Q G kd0 (some (.int r0)) S' (fun k => k = kd0)) ([.ref a0, .int p1, .int p2, .int p3, .int p4] : List Value).toArray s 0 0 (fw_A G)) (F0 m 88 ls []) := by
    intro n
    induction n with
    | zero =>
      intro v0 v3 v4 v5 v6 S0 hk_v0 H locs ls R hl hE
      rw [F_Mo_isDropped_l88] at hE
      cases hE
    | succ n ih =>
      intro v0 v3 v4 v5 v6 S0 hk_v0 H locs ls R hl hE
      rw [F_Mo_isDropped_l88] at hE
      refine lv_iload hx hb d_Mo_isDropped_88 (lv_at hl 4 rfl) ?_
      refine lv_iload hx hb d_Mo_isDropped_90 (lv_at hl 3 rfl) ?_
      refine lv_icmp_ge (tgt := 184) hx hb d_Mo_isDropped_92 (by decide) (fun hc => ?_) (fun hc => ?_)
      · replace hE := fw_if_t hc hE
        exact h_j184 _ _ _ _ _ hk_v0 _ _ _ R (lv_sub hl [0, 1, 2, 3] rfl) hE
      · replace hE := fw_if_f hc hE
        refine lv_aload_n hx hb d_Mo_isDropped_95 rfl (lv_at hl 0 rfl) ?_
        refine fw_getr C R ft_field_7_75 hk_v0 rfl rfl d_Mo_isDropped_96 (fun hq => ?_) (fun b44 hq hk_b44 => ?_)
        · replace hE := fw_om_none hq hE
          refine lv_iload_n hx hb d_Mo_isDropped_99 rfl (lv_at hl 1 rfl) ?_
          cases hE
        · replace hE := fw_om_some hq hE
          refine lv_iload_n hx hb d_Mo_isDropped_99 rfl (lv_at hl 1 rfl) ?_
          obtain ⟨hi45, hE⟩ := fw_ifn hE
          refine fw_iald C R (by decide) hk_b44 hi45 d_Mo_isDropped_100 ?_
          refine lv_bipush (v := 60) hx hb d_Mo_isDropped_101 (by decide) ?_
          refine lv_icmp_ge (tgt := 178) hx hb d_Mo_isDropped_103 (by decide) (fun hc => ?_) (fun hc => ?_)
          · replace hE := fw_if_t hc hE
            refine lv_iinc (v := (v6 + (1 : Int32))) (lv' := [(6, .int (v6 + (1 : Int32))), (0, .ref v0), (3, .int v3), (4, .int v4), (5, .int v5)]) hx hb d_Mo_isDropped_178 hl (k := 4) rfl rfl (by decide) rfl (fun ls hl => ?_)
            refine lv_goto (tgt := 88) hx hb d_Mo_isDropped_181 (by decide) ?_
            exact ih _ _ _ _ _ _ hk_v0 _ _ _ R (lv_sub hl [1, 2, 3, 4, 0] rfl) hE
          · replace hE := fw_if_f hc hE
            refine lv_aload_n hx hb d_Mo_isDropped_106 rfl (lv_at hl 0 rfl) ?_
            refine fw_getr C R ft_field_7_78 hk_v0 rfl rfl d_Mo_isDropped_107 (fun hq => ?_) (fun b46 hq hk_b46 => ?_)
            · replace hE := fw_om_none hq hE
              refine lv_bipush (v := 60) hx hb d_Mo_isDropped_110 (by decide) ?_
              refine lv_iload_n hx hb d_Mo_isDropped_112 rfl (lv_at hl 1 rfl) ?_
              refine lv_imul hx hb d_Mo_isDropped_113 ?_
              refine lv_aload_n hx hb d_Mo_isDropped_114 rfl (lv_at hl 0 rfl) ?_
              refine fw_getr C R ft_field_7_75 hk_v0 rfl rfl d_Mo_isDropped_115 (fun hq => ?_) (fun b47 hq hk_b47 => ?_)
              · replace hE := fw_om_none hq hE
                refine lv_iload_n hx hb d_Mo_isDropped_118 rfl (lv_at hl 1 rfl) ?_
                cases hE
              · replace hE := fw_om_some hq hE
                refine lv_iload_n hx hb d_Mo_isDropped_118 rfl (lv_at hl 1 rfl) ?_
                obtain ⟨hi48, hE⟩ := fw_ifn hE
                refine fw_iald C R (by decide) hk_b47 hi48 d_Mo_isDropped_119 ?_
                refine lv_iadd hx hb d_Mo_isDropped_120 ?_
                refine lv_aload_n hx hb d_Mo_isDropped_121 rfl (lv_at hl 0 rfl) ?_
                refine fw_getr C R ft_field_7_20 hk_v0 rfl rfl d_Mo_isDropped_122 (fun hq => ?_) (fun b49 hq hk_b49 => ?_)
                · replace hE := fw_om_none hq hE
                  refine lv_iload hx hb d_Mo_isDropped_125 (lv_at hl 2 rfl) ?_
                  refine lv_bipush (v := 6) hx hb d_Mo_isDropped_127 (by decide) ?_
                  refine lv_iadd hx hb d_Mo_isDropped_129 ?_
                  refine lv_iconst (v := 2) hx hb d_Mo_isDropped_130 (by decide) ?_
                  refine lv_iload hx hb d_Mo_isDropped_131 (lv_at hl 4 rfl) ?_
                  refine lv_imul hx hb d_Mo_isDropped_133 ?_
                  refine lv_iadd hx hb d_Mo_isDropped_134 ?_
                  cases hE
                · replace hE := fw_om_some hq hE
                  refine lv_iload hx hb d_Mo_isDropped_125 (lv_at hl 2 rfl) ?_
                  refine lv_bipush (v := 6) hx hb d_Mo_isDropped_127 (by decide) ?_
                  refine lv_iadd hx hb d_Mo_isDropped_129 ?_
                  refine lv_iconst (v := 2) hx hb d_Mo_isDropped_130 (by decide) ?_
                  refine lv_iload hx hb d_Mo_isDropped_131 (lv_at hl 4 rfl) ?_
                  refine lv_imul hx hb d_Mo_isDropped_133 ?_
                  refine lv_iadd hx hb d_Mo_isDropped_134 ?_
                  obtain ⟨hi50, hE⟩ := fw_ifn hE
                  refine fw_iald C R (by decide) hk_b49 hi50 d_Mo_isDropped_135 ?_
                  cases hE
            · replace hE := fw_om_some hq hE
              refine lv_bipush (v := 60) hx hb d_Mo_isDropped_110 (by decide) ?_
              refine lv_iload_n hx hb d_Mo_isDropped_112 rfl (lv_at hl 1 rfl) ?_
              refine lv_imul hx hb d_Mo_isDropped_113 ?_
              refine lv_aload_n hx hb d_Mo_isDropped_114 rfl (lv_at hl 0 rfl) ?_
              refine fw_getr C R ft_field_7_75 hk_v0 rfl rfl d_Mo_isDropped_115 (fun hq => ?_) (fun b51 hq hk_b51 => ?_)
              · replace hE := fw_om_none hq hE
                refine lv_iload_n hx hb d_Mo_isDropped_118 rfl (lv_at hl 1 rfl) ?_
                cases hE
              · replace hE := fw_om_some hq hE
                refine lv_iload_n hx hb d_Mo_isDropped_118 rfl (lv_at hl 1 rfl) ?_
                obtain ⟨hi52, hE⟩ := fw_ifn hE
                refine fw_iald C R (by decide) hk_b51 hi52 d_Mo_isDropped_119 ?_
                refine lv_iadd hx hb d_Mo_isDropped_120 ?_
                refine lv_aload_n hx hb d_Mo_isDropped_121 rfl (lv_at hl 0 rfl) ?_
                refine fw_getr C R ft_field_7_20 hk_v0 rfl rfl d_Mo_isDropped_122 (fun hq => ?_) (fun b53 hq hk_b53 => ?_)
                · replace hE := fw_om_none hq hE
                  refine lv_iload hx hb d_Mo_isDropped_125 (lv_at hl 2 rfl) ?_
                  refine lv_bipush (v := 6) hx hb d_Mo_isDropped_127 (by decide) ?_
                  refine lv_iadd hx hb d_Mo_isDropped_129 ?_
                  refine lv_iconst (v := 2) hx hb d_Mo_isDropped_130 (by decide) ?_
                  refine lv_iload hx hb d_Mo_isDropped_131 (lv_at hl 4 rfl) ?_
                  refine lv_imul hx hb d_Mo_isDropped_133 ?_
                  refine lv_iadd hx hb d_Mo_isDropped_134 ?_
                  cases hE
                · replace hE := fw_om_some hq hE
                  refine lv_iload hx hb d_Mo_isDropped_125 (lv_at hl 2 rfl) ?_
                  refine lv_bipush (v := 6) hx hb d_Mo_isDropped_127 (by decide) ?_
                  refine lv_iadd hx hb d_Mo_isDropped_129 ?_
                  refine lv_iconst (v := 2) hx hb d_Mo_isDropped_130 (by decide) ?_
                  refine lv_iload hx hb d_Mo_isDropped_131 (lv_at hl 4 rfl) ?_
                  refine lv_imul hx hb d_Mo_isDropped_133 ?_
                  refine lv_iadd hx hb d_Mo_isDropped_134 ?_
                  obtain ⟨hi54, hE⟩ := fw_ifn hE
                  refine fw_iald C R (by decide) hk_b53 hi54 d_Mo_isDropped_135 ?_
                  obtain ⟨hi55, hE⟩ := fw_ifn hE
                  refine fw_iast C R (by decide) hk_b46 hi55 d_Mo_isDropped_136 (fun H locs R => ?_)
                  obtain ⟨S56, eS56, hE⟩ := fw_let_ex hE
                  rw [← eS56] at R
                  clear eS56
                  refine lv_aload_n hx hb d_Mo_isDropped_137 rfl (lv_at hl 0 rfl) ?_
                  refine fw_getr C R ft_field_7_81 hk_v0 rfl rfl d_Mo_isDropped_138 (fun hq => ?_) (fun b57 hq hk_b57 => ?_)
                  · replace hE := fw_om_none hq hE
                    refine lv_bipush (v := 60) hx hb d_Mo_isDropped_141 (by decide) ?_
                    refine lv_iload_n hx hb d_Mo_isDropped_143 rfl (lv_at hl 1 rfl) ?_
                    refine lv_imul hx hb d_Mo_isDropped_144 ?_
                    refine lv_aload_n hx hb d_Mo_isDropped_145 rfl (lv_at hl 0 rfl) ?_
                    refine fw_getr C R ft_field_7_75 hk_v0 rfl rfl d_Mo_isDropped_146 (fun hq => ?_) (fun b58 hq hk_b58 => ?_)
                    · replace hE := fw_om_none hq hE
                      refine lv_iload_n hx hb d_Mo_isDropped_149 rfl (lv_at hl 1 rfl) ?_
                      cases hE
                    · replace hE := fw_om_some hq hE
                      refine lv_iload_n hx hb d_Mo_isDropped_149 rfl (lv_at hl 1 rfl) ?_
                      obtain ⟨hi59, hE⟩ := fw_ifn hE
                      refine fw_iald C R (by decide) hk_b58 hi59 d_Mo_isDropped_150 ?_
                      refine lv_iadd hx hb d_Mo_isDropped_151 ?_
                      refine lv_aload_n hx hb d_Mo_isDropped_152 rfl (lv_at hl 0 rfl) ?_
                      refine fw_getr C R ft_field_7_20 hk_v0 rfl rfl d_Mo_isDropped_153 (fun hq => ?_) (fun b60 hq hk_b60 => ?_)
                      · replace hE := fw_om_none hq hE
                        refine lv_iload hx hb d_Mo_isDropped_156 (lv_at hl 2 rfl) ?_
                        refine lv_bipush (v := 7) hx hb d_Mo_isDropped_158 (by decide) ?_
                        refine lv_iadd hx hb d_Mo_isDropped_160 ?_
                        refine lv_iconst (v := 2) hx hb d_Mo_isDropped_161 (by decide) ?_
                        refine lv_iload hx hb d_Mo_isDropped_162 (lv_at hl 4 rfl) ?_
                        refine lv_imul hx hb d_Mo_isDropped_164 ?_
                        refine lv_iadd hx hb d_Mo_isDropped_165 ?_
                        cases hE
                      · replace hE := fw_om_some hq hE
                        refine lv_iload hx hb d_Mo_isDropped_156 (lv_at hl 2 rfl) ?_
                        refine lv_bipush (v := 7) hx hb d_Mo_isDropped_158 (by decide) ?_
                        refine lv_iadd hx hb d_Mo_isDropped_160 ?_
                        refine lv_iconst (v := 2) hx hb d_Mo_isDropped_161 (by decide) ?_
                        refine lv_iload hx hb d_Mo_isDropped_162 (lv_at hl 4 rfl) ?_
                        refine lv_imul hx hb d_Mo_isDropped_164 ?_
                        refine lv_iadd hx hb d_Mo_isDropped_165 ?_
                        obtain ⟨hi61, hE⟩ := fw_ifn hE
                        refine fw_iald C R (by decide) hk_b60 hi61 d_Mo_isDropped_166 ?_
                        cases hE
                  · replace hE := fw_om_some hq hE
                    refine lv_bipush (v := 60) hx hb d_Mo_isDropped_141 (by decide) ?_
                    refine lv_iload_n hx hb d_Mo_isDropped_143 rfl (lv_at hl 1 rfl) ?_
                    refine lv_imul hx hb d_Mo_isDropped_144 ?_
                    refine lv_aload_n hx hb d_Mo_isDropped_145 rfl (lv_at hl 0 rfl) ?_
                    refine fw_getr C R ft_field_7_75 hk_v0 rfl rfl d_Mo_isDropped_146 (fun hq => ?_) (fun b62 hq hk_b62 => ?_)
                    · replace hE := fw_om_none hq hE
                      refine lv_iload_n hx hb d_Mo_isDropped_149 rfl (lv_at hl 1 rfl) ?_
                      cases hE
                    · replace hE := fw_om_some hq hE
                      refine lv_iload_n hx hb d_Mo_isDropped_149 rfl (lv_at hl 1 rfl) ?_
                      obtain ⟨hi63, hE⟩ := fw_ifn hE
                      refine fw_iald C R (by decide) hk_b62 hi63 d_Mo_isDropped_150 ?_
                      refine lv_iadd hx hb d_Mo_isDropped_151 ?_
                      refine lv_aload_n hx hb d_Mo_isDropped_152 rfl (lv_at hl 0 rfl) ?_
                      refine fw_getr C R ft_field_7_20 hk_v0 rfl rfl d_Mo_isDropped_153 (fun hq => ?_) (fun b64 hq hk_b64 => ?_)
                      · replace hE := fw_om_none hq hE
                        refine lv_iload hx hb d_Mo_isDropped_156 (lv_at hl 2 rfl) ?_
                        refine lv_bipush (v := 7) hx hb d_Mo_isDropped_158 (by decide) ?_
                        refine lv_iadd hx hb d_Mo_isDropped_160 ?_
                        refine lv_iconst (v := 2) hx hb d_Mo_isDropped_161 (by decide) ?_
                        refine lv_iload hx hb d_Mo_isDropped_162 (lv_at hl 4 rfl) ?_
                        refine lv_imul hx hb d_Mo_isDropped_164 ?_
                        refine lv_iadd hx hb d_Mo_isDropped_165 ?_
                        cases hE
                      · replace hE := fw_om_some hq hE
                        refine lv_iload hx hb d_Mo_isDropped_156 (lv_at hl 2 rfl) ?_
                        refine lv_bipush (v := 7) hx hb d_Mo_isDropped_158 (by decide) ?_
                        refine lv_iadd hx hb d_Mo_isDropped_160 ?_
                        refine lv_iconst (v := 2) hx hb d_Mo_isDropped_161 (by decide) ?_
                        refine lv_iload hx hb d_Mo_isDropped_162 (lv_at hl 4 rfl) ?_
                        refine lv_imul hx hb d_Mo_isDropped_164 ?_
                        refine lv_iadd hx hb d_Mo_isDropped_165 ?_
                        obtain ⟨hi65, hE⟩ := fw_ifn hE
                        refine fw_iald C R (by decide) hk_b64 hi65 d_Mo_isDropped_166 ?_
                        obtain ⟨hi66, hE⟩ := fw_ifn hE
                        refine fw_iast C R (by decide) hk_b57 hi66 d_Mo_isDropped_167 (fun H locs R => ?_)
                        obtain ⟨S67, eS67, hE⟩ := fw_let_ex hE
                        rw [← eS67] at R
                        clear eS67
                        refine lv_aload_n hx hb d_Mo_isDropped_168 rfl (lv_at hl 0 rfl) ?_
                        refine fw_getr C R ft_field_7_75 hk_v0 rfl rfl d_Mo_isDropped_169 (fun hq => ?_) (fun b68 hq hk_b68 => ?_)
                        · replace hE := fw_om_none hq hE
                          refine lv_iload_n hx hb d_Mo_isDropped_172 rfl (lv_at hl 1 rfl) ?_
                          refine lv_dup2_11 hx hb d_Mo_isDropped_173 rfl rfl ?_
                          cases hE
                        · replace hE := fw_om_some hq hE
                          refine lv_iload_n hx hb d_Mo_isDropped_172 rfl (lv_at hl 1 rfl) ?_
                          refine lv_dup2_11 hx hb d_Mo_isDropped_173 rfl rfl ?_
                          obtain ⟨hi69, hE⟩ := fw_ifn hE
                          refine fw_iald C R (by decide) hk_b68 hi69 d_Mo_isDropped_174 ?_
                          refine lv_iconst (v := 1) hx hb d_Mo_isDropped_175 (by decide) ?_
                          refine lv_iadd hx hb d_Mo_isDropped_176 ?_
                          obtain ⟨hi70, hE⟩ := fw_ifn hE
                          refine fw_iast C R (by decide) hk_b68 hi70 d_Mo_isDropped_177 (fun H locs R => ?_)
                          obtain ⟨S71, eS71, hE⟩ := fw_let_ex hE
                          rw [← eS71] at R
                          clear eS71
                          refine lv_iinc (v := (v6 + (1 : Int32))) (lv' := [(6, .int (v6 + (1 : Int32))), (0, .ref v0), (3, .int v3), (4, .int v4), (5, .int v5)]) hx hb d_Mo_isDropped_178 hl (k := 4) rfl rfl (by decide) rfl (fun ls hl => ?_)
                          refine lv_goto (tgt := 88) hx hb d_Mo_isDropped_181 (by decide) ?_
                          exact ih _ _ _ _ _ _ hk_v0 _ _ _ R (lv_sub hl [1, 2, 3, 4, 0] rfl) hE
  have h_j10 : ∀ v0 : Nat, ∀ v1 : Int32, ∀ v2 : Int32, ∀ v3 : Int32, ∀ v4 : Int32, ∀ S0 : fw_S, kd0 v0 = some 7 → ∀ (H : Heap) (locs : List Loc) (ls : Array Slot), fw_R G kd0 S0 H locs → lv_has ls 7 [(0, .ref v0), (1, .int v1), (2, .int v2), (3, .int v3), (4, .int v4)] → F_Mo_isDropped_j10 v0 v1 v2 v3 v4 S0 = some (r0, S') → W p l e { frames := 4, cells := 0, slots := 0, locals := 93 } s m ([.ref a0, .int p1, .int p2, .int p3, .int p4] : List Value).toArray below meth c H locs 0 0 (MQ below (fw_Q G kd0 (some (.int r0)) S' (fun k => k = kd0)) ([.ref a0, .int p1, .int p2, .int p3, .int p4] : List Value).toArray s 0 0 (fw_A G)) (F0 m 10 ls []) := by
    intro v0 v1 v2 v3 v4 S0 hk_v0 H locs ls R hl hE
    unfold F_Mo_isDropped_j10 at hE
    refine lv_iload_n hx hb d_Mo_isDropped_10 rfl (lv_at hl 3 rfl) ?_
    refine lv_aload_n hx hb d_Mo_isDropped_11 rfl (lv_at hl 0 rfl) ?_
    refine fw_get (v := .int (fw_g S0 v0 14)) C R ft_field_7_169 hk_v0 rfl d_Mo_isDropped_12 ?_
    refine lv_icmp_ge (tgt := 55) hx hb d_Mo_isDropped_15 (by decide) (fun hc => ?_) (fun hc => ?_)
    · replace hE := fw_if_t hc hE
      refine lv_iconst (v := 1) hx hb d_Mo_isDropped_55 (by decide) ?_
      cases hE
      exact fw_zret C (by decide) fw_X.rf rfl R d_Mo_isDropped_56
    · replace hE := fw_if_f hc hE
      refine lv_aload_n hx hb d_Mo_isDropped_18 rfl (lv_at hl 0 rfl) ?_
      refine fw_getr C R ft_field_7_48 hk_v0 rfl rfl d_Mo_isDropped_19 (fun hq => ?_) (fun b1 hq hk_b1 => ?_)
      · replace hE := fw_om_none hq hE
        refine lv_iload_n hx hb d_Mo_isDropped_22 rfl (lv_at hl 3 rfl) ?_
        cases hE
      · replace hE := fw_om_some hq hE
        refine lv_iload_n hx hb d_Mo_isDropped_22 rfl (lv_at hl 3 rfl) ?_
        obtain ⟨hi2, hE⟩ := fw_ifn hE
        refine fw_iald C R (by decide) hk_b1 hi2 d_Mo_isDropped_23 ?_
        refine lv_if_ne (tgt := 55) hx hb d_Mo_isDropped_24 (by decide) (fun hc => ?_) (fun hc => ?_)
        · replace hE := fw_if_f hc hE
          refine lv_iconst (v := 1) hx hb d_Mo_isDropped_55 (by decide) ?_
          cases hE
          exact fw_zret C (by decide) fw_X.rf rfl R d_Mo_isDropped_56
        · replace hE := fw_if_t hc hE
          refine lv_aload_n hx hb d_Mo_isDropped_27 rfl (lv_at hl 0 rfl) ?_
          refine fw_getr C R ft_field_7_42 hk_v0 rfl rfl d_Mo_isDropped_28 (fun hq => ?_) (fun b3 hq hk_b3 => ?_)
          · replace hE := fw_om_none hq hE
            refine lv_iload_n hx hb d_Mo_isDropped_31 rfl (lv_at hl 3 rfl) ?_
            cases hE
          · replace hE := fw_om_some hq hE
            refine lv_iload_n hx hb d_Mo_isDropped_31 rfl (lv_at hl 3 rfl) ?_
            obtain ⟨hi4, hE⟩ := fw_ifn hE
            refine fw_iald C R (by decide) hk_b3 hi4 d_Mo_isDropped_32 ?_
            refine lv_iload_n hx hb d_Mo_isDropped_33 rfl (lv_at hl 1 rfl) ?_
            refine lv_icmp_ne (tgt := 55) hx hb d_Mo_isDropped_34 (by decide) (fun hc => ?_) (fun hc => ?_)
            · replace hE := fw_if_f hc hE
              refine lv_iconst (v := 1) hx hb d_Mo_isDropped_55 (by decide) ?_
              cases hE
              exact fw_zret C (by decide) fw_X.rf rfl R d_Mo_isDropped_56
            · replace hE := fw_if_t hc hE
              refine lv_aload_n hx hb d_Mo_isDropped_37 rfl (lv_at hl 0 rfl) ?_
              refine fw_getr C R ft_field_7_87 hk_v0 rfl rfl d_Mo_isDropped_38 (fun hq => ?_) (fun b5 hq hk_b5 => ?_)
              · replace hE := fw_om_none hq hE
                refine lv_iload_n hx hb d_Mo_isDropped_41 rfl (lv_at hl 3 rfl) ?_
                cases hE
              · replace hE := fw_om_some hq hE
                refine lv_iload_n hx hb d_Mo_isDropped_41 rfl (lv_at hl 3 rfl) ?_
                obtain ⟨hi6, hE⟩ := fw_ifn hE
                refine fw_iald C R (by decide) hk_b5 hi6 d_Mo_isDropped_42 ?_
                refine lv_aload_n hx hb d_Mo_isDropped_43 rfl (lv_at hl 0 rfl) ?_
                refine fw_getr C R ft_field_7_20 hk_v0 rfl rfl d_Mo_isDropped_44 (fun hq => ?_) (fun b7 hq hk_b7 => ?_)
                · replace hE := fw_om_none hq hE
                  refine lv_iload hx hb d_Mo_isDropped_47 (lv_at hl 4 rfl) ?_
                  refine lv_iconst (v := 4) hx hb d_Mo_isDropped_49 (by decide) ?_
                  refine lv_iadd hx hb d_Mo_isDropped_50 ?_
                  cases hE
                · replace hE := fw_om_some hq hE
                  refine lv_iload hx hb d_Mo_isDropped_47 (lv_at hl 4 rfl) ?_
                  refine lv_iconst (v := 4) hx hb d_Mo_isDropped_49 (by decide) ?_
                  refine lv_iadd hx hb d_Mo_isDropped_50 ?_
                  obtain ⟨hi8, hE⟩ := fw_ifn hE
                  refine fw_iald C R (by decide) hk_b7 hi8 d_Mo_isDropped_51 ?_
                  refine lv_icmp_eq (tgt := 57) hx hb d_Mo_isDropped_52 (by decide) (fun hc => ?_) (fun hc => ?_)
                  · replace hE := fw_if_t hc hE
                    refine lv_iload_n hx hb d_Mo_isDropped_57 rfl (lv_at hl 2 rfl) ?_
                    refine lv_iconst (v := 4) hx hb d_Mo_isDropped_58 (by decide) ?_
                    refine lv_icmp_ne (tgt := 70) hx hb d_Mo_isDropped_59 (by decide) (fun hc => ?_) (fun hc => ?_)
                    · replace hE := fw_if_f hc hE
                      refine lv_aload_n hx hb d_Mo_isDropped_70 rfl (lv_at hl 0 rfl) ?_
                      refine fw_getr C R ft_field_7_20 hk_v0 rfl rfl d_Mo_isDropped_71 (fun hq => ?_) (fun b9 hq hk_b9 => ?_)
                      · replace hE := fw_om_none hq hE
                        refine lv_iload hx hb d_Mo_isDropped_74 (lv_at hl 4 rfl) ?_
                        refine lv_iconst (v := 3) hx hb d_Mo_isDropped_76 (by decide) ?_
                        refine lv_iadd hx hb d_Mo_isDropped_77 ?_
                        cases hE
                      · replace hE := fw_om_some hq hE
                        refine lv_iload hx hb d_Mo_isDropped_74 (lv_at hl 4 rfl) ?_
                        refine lv_iconst (v := 3) hx hb d_Mo_isDropped_76 (by decide) ?_
                        refine lv_iadd hx hb d_Mo_isDropped_77 ?_
                        obtain ⟨hi10, hE⟩ := fw_ifn hE
                        refine fw_iald C R (by decide) hk_b9 hi10 d_Mo_isDropped_78 ?_
                        refine lv_iconst (v := 2) hx hb d_Mo_isDropped_79 (by decide) ?_
                        refine lv_idiv hx hb d_Mo_isDropped_80 (by decide) ?_
                        refine lv_iconst (v := 1) hx hb d_Mo_isDropped_81 (by decide) ?_
                        refine lv_isub hx hb d_Mo_isDropped_82 ?_
                        refine lv_topi (fun x11 ex11 => ?_)
                        replace hE := fw_let_use ex11 hE
                        clear ex11
                        refine lv_istore (lv' := [(5, .int x11), (0, .ref v0), (1, .int v1), (2, .int v2), (3, .int v3), (4, .int v4)]) hx hb d_Mo_isDropped_83 hl (by decide) rfl (fun ls hl => ?_)
                        refine lv_iconst (v := 0) hx hb d_Mo_isDropped_85 (by decide) ?_
                        refine lv_istore (lv' := [(6, .int (0 : Int32)), (5, .int x11), (0, .ref v0), (1, .int v1), (2, .int v2), (3, .int v3), (4, .int v4)]) hx hb d_Mo_isDropped_86 hl (by decide) rfl (fun ls hl => ?_)
                        exact h_l88 _ _ _ _ _ _ _ hk_v0 _ _ _ R (lv_sub hl [2, 5, 6, 1, 0] rfl) hE
                    · replace hE := fw_if_t hc hE
                      refine lv_aload_n hx hb d_Mo_isDropped_62 rfl (lv_at hl 0 rfl) ?_
                      refine lv_iload_n hx hb d_Mo_isDropped_63 rfl (lv_at hl 3 rfl) ?_
                      refine lv_iconst (v := 3) hx hb d_Mo_isDropped_64 (by decide) ?_
                      obtain ⟨S72, hF, hE⟩ := fw_bind hE
                      refine fw_callV (As := [.int v3, .int (3 : Int32)]) (rest := []) C R ft_callV_7_178 yi_Mo_fail ys_Mo_fail (ct_Mo_fail l G kd0 S0 _ _ _ _ hk_v0 hF) hk_v0 (by decide) rfl rfl hl.1 rfl (lv_room (Nat.le_of_ble_eq_true rfl)) ⟨Nat.le_of_ble_eq_true rfl, Nat.le_of_ble_eq_true rfl⟩ ⟨Nat.le_of_ble_eq_true rfl, Nat.le_of_ble_eq_true rfl⟩ d_Mo_isDropped_65 (fun H locs kd73 hxkd73 hP R => ?_)
                      rw [hP] at R; clear hP hxkd73
                      refine lv_iconst (v := 0) hx hb d_Mo_isDropped_68 (by decide) ?_
                      cases hE
                      exact fw_zret C (by decide) fw_X.rf rfl R d_Mo_isDropped_69
                  · replace hE := fw_if_f hc hE
                    refine lv_iconst (v := 1) hx hb d_Mo_isDropped_55 (by decide) ?_
                    cases hE
                    exact fw_zret C (by decide) fw_X.rf rfl R d_Mo_isDropped_56
  unfold F_Mo_isDropped at hE
  refine lv_iload_n hx hb d_Mo_isDropped_0 rfl (lv_at hl 2 rfl) ?_
  refine lv_iconst (v := 2) hx hb d_Mo_isDropped_1 (by decide) ?_
  refine lv_icmp_eq (tgt := 10) hx hb d_Mo_isDropped_2 (by decide) (fun hc => ?_) (fun hc => ?_)
  · replace hE := fw_if_t hc hE
    exact h_j10 _ _ _ _ _ _ hk_a0 _ _ _ R (lv_sub hl [0, 1, 2, 3, 4] rfl) hE
  · replace hE := fw_if_f hc hE
    refine lv_iload_n hx hb d_Mo_isDropped_5 rfl (lv_at hl 2 rfl) ?_
    refine lv_iconst (v := 4) hx hb d_Mo_isDropped_6 (by decide) ?_
    refine lv_icmp_ne (tgt := 55) hx hb d_Mo_isDropped_7 (by decide) (fun hc => ?_) (fun hc => ?_)
    · replace hE := fw_if_f hc hE
      refine lv_iconst (v := 1) hx hb d_Mo_isDropped_55 (by decide) ?_
      cases hE
      exact fw_zret C (by decide) fw_X.rf rfl R d_Mo_isDropped_56
    · replace hE := fw_if_t hc hE
      exact h_j10 _ _ _ _ _ _ hk_a0 _ _ _ R (lv_sub hl [0, 1, 2, 3, 4] rfl) hE
