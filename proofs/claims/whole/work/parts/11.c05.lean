set_option maxHeartbeats 4000000 in
set_option maxRecDepth 100000 in
theorem ct_Mo_init (l : Launch) (G : fw_G) (kd0 : Nat → Option Nat) (S0 : fw_S) (a0 : Nat) (S' : fw_S) (hk_a0 : kd0 a0 = some 7) (hE : F_Mo_init a0 S0 = some S') : fw_M l G y_Mo_init prog_9_method_1_code 1 none 1 20 39 8133 kd0 S0 ([.ref a0] : List Value) none S' (fun _ => True) := by
  refine fw_start (by decide) (Nat.le_of_ble_eq_true rfl) ?_
  intro p e s m below meth c ls C hnm R hl
  have hx := C.1
  have hb := C.2.1
  have hl : lv_has ls 1 [(0, .ref a0)] := hl
  unfold F_Mo_init at hE
  refine lv_aload_n hx hb d_Mo_init_0 rfl (lv_at hl 0 rfl) ?_
  refine fw_obj C ft_obj_7_1 ob_1 ob_2 hl.1 d_Mo_init_1 (Nat.le_of_ble_eq_true rfl) (Nat.le_of_ble_eq_true rfl) ?_
  refine lv_aload_n hx hb d_Mo_init_4 rfl (lv_at hl 0 rfl) ?_
  refine lv_iconst (v := 5) hx hb d_Mo_init_5 (by decide) ?_
  refine fw_newaz C R (by decide) (by decide) (by decide) (by decide) d_Mo_init_6 (fun H kd3 hxkd3 hk_new R => ?_)
  refine W.widen (k := 1) (n := 5) (by decide) (by decide) ?_
  obtain ⟨b2, eb2, hE⟩ := fw_let_ex hE
  obtain ⟨S1, eS1, hE⟩ := fw_let_ex hE
  rw [← eS1] at R
  rw [← eb2] at hk_new ⊢
  have hk_b2 := hk_new
  have hXkd3 := fw_X.tr fw_X.rf hxkd3
  have hk_a0 := hxkd3 _ _ hk_a0
  clear eS1 eb2 hk_new
  refine fw_putFr C hnm R ft_field_7_7 rfl ft_nonest_7_7 rfl rfl (by decide) hk_b2 hk_a0 d_Mo_init_8 (fun H locs R => ?_)
  obtain ⟨S4, eS4, hE⟩ := fw_let_ex hE
  rw [← eS4] at R
  clear eS4
  refine lv_aload_n hx hb d_Mo_init_11 rfl (lv_at hl 0 rfl) ?_
  refine lv_sipush (v := 1500) hx hb d_Mo_init_12 (by decide) ?_
  refine fw_newai C R (by decide) (by decide) (by decide) (by decide) d_Mo_init_15 (fun H kd7 hxkd7 hk_new R => ?_)
  refine W.widen (k := 2) (n := 1505) (by decide) (by decide) ?_
  obtain ⟨b6, eb6, hE⟩ := fw_let_ex hE
  obtain ⟨S5, eS5, hE⟩ := fw_let_ex hE
  rw [← eS5] at R
  rw [← eb6] at hk_new ⊢
  have hk_b6 := hk_new
  have hXkd7 := fw_X.tr hXkd3 hxkd7
  have hk_a0 := hxkd7 _ _ hk_a0
  have hk_b2 := hxkd7 _ _ hk_b2
  clear eS5 eb6 hk_new
  refine fw_putFr C hnm R ft_field_7_13 rfl ft_nonest_7_13 rfl rfl (by decide) hk_b6 hk_a0 d_Mo_init_17 (fun H locs R => ?_)
  obtain ⟨S8, eS8, hE⟩ := fw_let_ex hE
  rw [← eS8] at R
  clear eS8
  refine lv_aload_n hx hb d_Mo_init_20 rfl (lv_at hl 0 rfl) ?_
  refine lv_iconst (v := 5) hx hb d_Mo_init_21 (by decide) ?_
  refine fw_newai C R (by decide) (by decide) (by decide) (by decide) d_Mo_init_22 (fun H kd11 hxkd11 hk_new R => ?_)
  refine W.widen (k := 3) (n := 1510) (by decide) (by decide) ?_
  obtain ⟨b10, eb10, hE⟩ := fw_let_ex hE
  obtain ⟨S9, eS9, hE⟩ := fw_let_ex hE
  rw [← eS9] at R
  rw [← eb10] at hk_new ⊢
  have hk_b10 := hk_new
  have hXkd11 := fw_X.tr hXkd7 hxkd11
  have hk_a0 := hxkd11 _ _ hk_a0
  have hk_b2 := hxkd11 _ _ hk_b2
  have hk_b6 := hxkd11 _ _ hk_b6
  clear eS9 eb10 hk_new
  refine fw_putFr C hnm R ft_field_7_17 rfl ft_nonest_7_17 rfl rfl (by decide) hk_b10 hk_a0 d_Mo_init_24 (fun H locs R => ?_)
  obtain ⟨S12, eS12, hE⟩ := fw_let_ex hE
  rw [← eS12] at R
  clear eS12
  refine lv_aload_n hx hb d_Mo_init_27 rfl (lv_at hl 0 rfl) ?_
  refine lv_sipush (v := 150) hx hb d_Mo_init_28 (by decide) ?_
  refine fw_newai C R (by decide) (by decide) (by decide) (by decide) d_Mo_init_31 (fun H kd15 hxkd15 hk_new R => ?_)
  refine W.widen (k := 4) (n := 1660) (by decide) (by decide) ?_
  obtain ⟨b14, eb14, hE⟩ := fw_let_ex hE
  obtain ⟨S13, eS13, hE⟩ := fw_let_ex hE
  rw [← eS13] at R
  rw [← eb14] at hk_new ⊢
  have hk_b14 := hk_new
  have hXkd15 := fw_X.tr hXkd11 hxkd15
  have hk_a0 := hxkd15 _ _ hk_a0
  have hk_b2 := hxkd15 _ _ hk_b2
  have hk_b6 := hxkd15 _ _ hk_b6
  have hk_b10 := hxkd15 _ _ hk_b10
  clear eS13 eb14 hk_new
  refine fw_putFr C hnm R ft_field_7_20 rfl ft_nonest_7_20 rfl rfl (by decide) hk_b14 hk_a0 d_Mo_init_33 (fun H locs R => ?_)
  obtain ⟨S16, eS16, hE⟩ := fw_let_ex hE
  rw [← eS16] at R
  clear eS16
  refine lv_aload_n hx hb d_Mo_init_36 rfl (lv_at hl 0 rfl) ?_
  refine lv_iconst (v := 5) hx hb d_Mo_init_37 (by decide) ?_
  refine fw_newai C R (by decide) (by decide) (by decide) (by decide) d_Mo_init_38 (fun H kd19 hxkd19 hk_new R => ?_)
  refine W.widen (k := 5) (n := 1665) (by decide) (by decide) ?_
  obtain ⟨b18, eb18, hE⟩ := fw_let_ex hE
  obtain ⟨S17, eS17, hE⟩ := fw_let_ex hE
  rw [← eS17] at R
  rw [← eb18] at hk_new ⊢
  have hk_b18 := hk_new
  have hXkd19 := fw_X.tr hXkd15 hxkd19
  have hk_a0 := hxkd19 _ _ hk_a0
  have hk_b2 := hxkd19 _ _ hk_b2
  have hk_b6 := hxkd19 _ _ hk_b6
  have hk_b10 := hxkd19 _ _ hk_b10
  have hk_b14 := hxkd19 _ _ hk_b14
  clear eS17 eb18 hk_new
  refine fw_putFr C hnm R ft_field_7_23 rfl ft_nonest_7_23 rfl rfl (by decide) hk_b18 hk_a0 d_Mo_init_40 (fun H locs R => ?_)
  obtain ⟨S20, eS20, hE⟩ := fw_let_ex hE
  rw [← eS20] at R
  clear eS20
  refine lv_aload_n hx hb d_Mo_init_43 rfl (lv_at hl 0 rfl) ?_
  refine lv_iconst (v := 4) hx hb d_Mo_init_44 (by decide) ?_
  refine fw_puti C R ft_field_7_26 rfl hk_a0 d_Mo_init_45 (fun H locs R => ?_)
  obtain ⟨S21, eS21, hE⟩ := fw_let_ex hE
  rw [← eS21] at R
  clear eS21
  refine lv_aload_n hx hb d_Mo_init_48 rfl (lv_at hl 0 rfl) ?_
  refine lv_bipush (v := 10) hx hb d_Mo_init_49 (by decide) ?_
  refine fw_puti C R ft_field_7_30 rfl hk_a0 d_Mo_init_51 (fun H locs R => ?_)
  obtain ⟨S22, eS22, hE⟩ := fw_let_ex hE
  rw [← eS22] at R
  clear eS22
  refine lv_aload_n hx hb d_Mo_init_54 rfl (lv_at hl 0 rfl) ?_
  refine lv_iconst (v := 2) hx hb d_Mo_init_55 (by decide) ?_
  refine fw_puti C R ft_field_7_33 rfl hk_a0 d_Mo_init_56 (fun H locs R => ?_)
  obtain ⟨S23, eS23, hE⟩ := fw_let_ex hE
  rw [← eS23] at R
  clear eS23
  refine lv_aload_n hx hb d_Mo_init_59 rfl (lv_at hl 0 rfl) ?_
  refine lv_bipush (v := 20) hx hb d_Mo_init_60 (by decide) ?_
  refine fw_newai C R (by decide) (by decide) (by decide) (by decide) d_Mo_init_62 (fun H kd26 hxkd26 hk_new R => ?_)
  refine W.widen (k := 6) (n := 1685) (by decide) (by decide) ?_
  obtain ⟨b25, eb25, hE⟩ := fw_let_ex hE
  obtain ⟨S24, eS24, hE⟩ := fw_let_ex hE
  rw [← eS24] at R
  rw [← eb25] at hk_new ⊢
  have hk_b25 := hk_new
  have hXkd26 := fw_X.tr hXkd19 hxkd26
  have hk_a0 := hxkd26 _ _ hk_a0
  have hk_b2 := hxkd26 _ _ hk_b2
  have hk_b6 := hxkd26 _ _ hk_b6
  have hk_b10 := hxkd26 _ _ hk_b10
  have hk_b14 := hxkd26 _ _ hk_b14
  have hk_b18 := hxkd26 _ _ hk_b18
  clear eS24 eb25 hk_new
  refine fw_putFr C hnm R ft_field_7_36 rfl ft_nonest_7_36 rfl rfl (by decide) hk_b25 hk_a0 d_Mo_init_64 (fun H locs R => ?_)
  obtain ⟨S27, eS27, hE⟩ := fw_let_ex hE
  rw [← eS27] at R
  clear eS27
  refine lv_aload_n hx hb d_Mo_init_67 rfl (lv_at hl 0 rfl) ?_
  refine lv_bipush (v := 20) hx hb d_Mo_init_68 (by decide) ?_
  refine fw_newai C R (by decide) (by decide) (by decide) (by decide) d_Mo_init_70 (fun H kd30 hxkd30 hk_new R => ?_)
  refine W.widen (k := 7) (n := 1705) (by decide) (by decide) ?_
  obtain ⟨b29, eb29, hE⟩ := fw_let_ex hE
  obtain ⟨S28, eS28, hE⟩ := fw_let_ex hE
  rw [← eS28] at R
  rw [← eb29] at hk_new ⊢
  have hk_b29 := hk_new
  have hXkd30 := fw_X.tr hXkd26 hxkd30
  have hk_a0 := hxkd30 _ _ hk_a0
  have hk_b2 := hxkd30 _ _ hk_b2
  have hk_b6 := hxkd30 _ _ hk_b6
  have hk_b10 := hxkd30 _ _ hk_b10
  have hk_b14 := hxkd30 _ _ hk_b14
  have hk_b18 := hxkd30 _ _ hk_b18
  have hk_b25 := hxkd30 _ _ hk_b25
  clear eS28 eb29 hk_new
  refine fw_putFr C hnm R ft_field_7_39 rfl ft_nonest_7_39 rfl rfl (by decide) hk_b29 hk_a0 d_Mo_init_72 (fun H locs R => ?_)
  obtain ⟨S31, eS31, hE⟩ := fw_let_ex hE
  rw [← eS31] at R
  clear eS31
  refine lv_aload_n hx hb d_Mo_init_75 rfl (lv_at hl 0 rfl) ?_
  refine lv_bipush (v := 24) hx hb d_Mo_init_76 (by decide) ?_
  refine fw_newai C R (by decide) (by decide) (by decide) (by decide) d_Mo_init_78 (fun H kd34 hxkd34 hk_new R => ?_)
  refine W.widen (k := 8) (n := 1729) (by decide) (by decide) ?_
  obtain ⟨b33, eb33, hE⟩ := fw_let_ex hE
  obtain ⟨S32, eS32, hE⟩ := fw_let_ex hE
  rw [← eS32] at R
  rw [← eb33] at hk_new ⊢
  have hk_b33 := hk_new
  have hXkd34 := fw_X.tr hXkd30 hxkd34
  have hk_a0 := hxkd34 _ _ hk_a0
  have hk_b2 := hxkd34 _ _ hk_b2
  have hk_b6 := hxkd34 _ _ hk_b6
  have hk_b10 := hxkd34 _ _ hk_b10
  have hk_b14 := hxkd34 _ _ hk_b14
  have hk_b18 := hxkd34 _ _ hk_b18
  have hk_b25 := hxkd34 _ _ hk_b25
  have hk_b29 := hxkd34 _ _ hk_b29
  clear eS32 eb33 hk_new
  refine fw_putFr C hnm R ft_field_7_42 rfl ft_nonest_7_42 rfl rfl (by decide) hk_b33 hk_a0 d_Mo_init_80 (fun H locs R => ?_)
  obtain ⟨S35, eS35, hE⟩ := fw_let_ex hE
  rw [← eS35] at R
  clear eS35
  refine lv_aload_n hx hb d_Mo_init_83 rfl (lv_at hl 0 rfl) ?_
  refine lv_bipush (v := 24) hx hb d_Mo_init_84 (by decide) ?_
  refine fw_newaz C R (by decide) (by decide) (by decide) (by decide) d_Mo_init_86 (fun H kd38 hxkd38 hk_new R => ?_)
  refine W.widen (k := 9) (n := 1753) (by decide) (by decide) ?_
  obtain ⟨b37, eb37, hE⟩ := fw_let_ex hE
  obtain ⟨S36, eS36, hE⟩ := fw_let_ex hE
  rw [← eS36] at R
  rw [← eb37] at hk_new ⊢
  have hk_b37 := hk_new
  have hXkd38 := fw_X.tr hXkd34 hxkd38
  have hk_a0 := hxkd38 _ _ hk_a0
  have hk_b2 := hxkd38 _ _ hk_b2
  have hk_b6 := hxkd38 _ _ hk_b6
  have hk_b10 := hxkd38 _ _ hk_b10
  have hk_b14 := hxkd38 _ _ hk_b14
  have hk_b18 := hxkd38 _ _ hk_b18
  have hk_b25 := hxkd38 _ _ hk_b25
  have hk_b29 := hxkd38 _ _ hk_b29
  have hk_b33 := hxkd38 _ _ hk_b33
  clear eS36 eb37 hk_new
  refine fw_putFr C hnm R ft_field_7_45 rfl ft_nonest_7_45 rfl rfl (by decide) hk_b37 hk_a0 d_Mo_init_88 (fun H locs R => ?_)
  obtain ⟨S39, eS39, hE⟩ := fw_let_ex hE
  rw [← eS39] at R
  clear eS39
  refine lv_aload_n hx hb d_Mo_init_91 rfl (lv_at hl 0 rfl) ?_
  refine lv_bipush (v := 24) hx hb d_Mo_init_92 (by decide) ?_
  refine fw_newai C R (by decide) (by decide) (by decide) (by decide) d_Mo_init_94 (fun H kd42 hxkd42 hk_new R => ?_)
  refine W.widen (k := 10) (n := 1777) (by decide) (by decide) ?_
  obtain ⟨b41, eb41, hE⟩ := fw_let_ex hE
  obtain ⟨S40, eS40, hE⟩ := fw_let_ex hE
  rw [← eS40] at R
  rw [← eb41] at hk_new ⊢
  have hk_b41 := hk_new
  have hXkd42 := fw_X.tr hXkd38 hxkd42
  have hk_a0 := hxkd42 _ _ hk_a0
  have hk_b2 := hxkd42 _ _ hk_b2
  have hk_b6 := hxkd42 _ _ hk_b6
  have hk_b10 := hxkd42 _ _ hk_b10
  have hk_b14 := hxkd42 _ _ hk_b14
  have hk_b18 := hxkd42 _ _ hk_b18
  have hk_b25 := hxkd42 _ _ hk_b25
  have hk_b29 := hxkd42 _ _ hk_b29
  have hk_b33 := hxkd42 _ _ hk_b33
  have hk_b37 := hxkd42 _ _ hk_b37
  clear eS40 eb41 hk_new
  refine fw_putFr C hnm R ft_field_7_48 rfl ft_nonest_7_48 rfl rfl (by decide) hk_b41 hk_a0 d_Mo_init_96 (fun H locs R => ?_)
  obtain ⟨S43, eS43, hE⟩ := fw_let_ex hE
  rw [← eS43] at R
  clear eS43
  refine lv_aload_n hx hb d_Mo_init_99 rfl (lv_at hl 0 rfl) ?_
  refine lv_bipush (v := 24) hx hb d_Mo_init_100 (by decide) ?_
  refine fw_newai C R (by decide) (by decide) (by decide) (by decide) d_Mo_init_102 (fun H kd46 hxkd46 hk_new R => ?_)
  refine W.widen (k := 11) (n := 1801) (by decide) (by decide) ?_
  obtain ⟨b45, eb45, hE⟩ := fw_let_ex hE
  obtain ⟨S44, eS44, hE⟩ := fw_let_ex hE
  rw [← eS44] at R
  rw [← eb45] at hk_new ⊢
  have hk_b45 := hk_new
  have hXkd46 := fw_X.tr hXkd42 hxkd46
  have hk_a0 := hxkd46 _ _ hk_a0
  have hk_b2 := hxkd46 _ _ hk_b2
  have hk_b6 := hxkd46 _ _ hk_b6
  have hk_b10 := hxkd46 _ _ hk_b10
  have hk_b14 := hxkd46 _ _ hk_b14
  have hk_b18 := hxkd46 _ _ hk_b18
  have hk_b25 := hxkd46 _ _ hk_b25
  have hk_b29 := hxkd46 _ _ hk_b29
  have hk_b33 := hxkd46 _ _ hk_b33
  have hk_b37 := hxkd46 _ _ hk_b37
  have hk_b41 := hxkd46 _ _ hk_b41
  clear eS44 eb45 hk_new
  refine fw_putFr C hnm R ft_field_7_51 rfl ft_nonest_7_51 rfl rfl (by decide) hk_b45 hk_a0 d_Mo_init_104 (fun H locs R => ?_)
  obtain ⟨S47, eS47, hE⟩ := fw_let_ex hE
  rw [← eS47] at R
  clear eS47
  refine lv_aload_n hx hb d_Mo_init_107 rfl (lv_at hl 0 rfl) ?_
  refine lv_bipush (v := 24) hx hb d_Mo_init_108 (by decide) ?_
  refine fw_newai C R (by decide) (by decide) (by decide) (by decide) d_Mo_init_110 (fun H kd50 hxkd50 hk_new R => ?_)
  refine W.widen (k := 12) (n := 1825) (by decide) (by decide) ?_
  obtain ⟨b49, eb49, hE⟩ := fw_let_ex hE
  obtain ⟨S48, eS48, hE⟩ := fw_let_ex hE
  rw [← eS48] at R
  rw [← eb49] at hk_new ⊢
  have hk_b49 := hk_new
  have hXkd50 := fw_X.tr hXkd46 hxkd50
  have hk_a0 := hxkd50 _ _ hk_a0
  have hk_b2 := hxkd50 _ _ hk_b2
  have hk_b6 := hxkd50 _ _ hk_b6
  have hk_b10 := hxkd50 _ _ hk_b10
  have hk_b14 := hxkd50 _ _ hk_b14
  have hk_b18 := hxkd50 _ _ hk_b18
  have hk_b25 := hxkd50 _ _ hk_b25
  have hk_b29 := hxkd50 _ _ hk_b29
  have hk_b33 := hxkd50 _ _ hk_b33
  have hk_b37 := hxkd50 _ _ hk_b37
  have hk_b41 := hxkd50 _ _ hk_b41
  have hk_b45 := hxkd50 _ _ hk_b45
  clear eS48 eb49 hk_new
  refine fw_putFr C hnm R ft_field_7_54 rfl ft_nonest_7_54 rfl rfl (by decide) hk_b49 hk_a0 d_Mo_init_112 (fun H locs R => ?_)
  obtain ⟨S51, eS51, hE⟩ := fw_let_ex hE
  rw [← eS51] at R
  clear eS51
  refine lv_aload_n hx hb d_Mo_init_115 rfl (lv_at hl 0 rfl) ?_
  refine lv_sipush (v := 480) hx hb d_Mo_init_116 (by decide) ?_
  refine fw_newai C R (by decide) (by decide) (by decide) (by decide) d_Mo_init_119 (fun H kd54 hxkd54 hk_new R => ?_)
  refine W.widen (k := 13) (n := 2305) (by decide) (by decide) ?_
  obtain ⟨b53, eb53, hE⟩ := fw_let_ex hE
  obtain ⟨S52, eS52, hE⟩ := fw_let_ex hE
  rw [← eS52] at R
  rw [← eb53] at hk_new ⊢
  have hk_b53 := hk_new
  have hXkd54 := fw_X.tr hXkd50 hxkd54
  have hk_a0 := hxkd54 _ _ hk_a0
  have hk_b2 := hxkd54 _ _ hk_b2
  have hk_b6 := hxkd54 _ _ hk_b6
  have hk_b10 := hxkd54 _ _ hk_b10
  have hk_b14 := hxkd54 _ _ hk_b14
  have hk_b18 := hxkd54 _ _ hk_b18
  have hk_b25 := hxkd54 _ _ hk_b25
  have hk_b29 := hxkd54 _ _ hk_b29
  have hk_b33 := hxkd54 _ _ hk_b33
  have hk_b37 := hxkd54 _ _ hk_b37
  have hk_b41 := hxkd54 _ _ hk_b41
  have hk_b45 := hxkd54 _ _ hk_b45
  have hk_b49 := hxkd54 _ _ hk_b49
  clear eS52 eb53 hk_new
  refine fw_putFr C hnm R ft_field_7_57 rfl ft_nonest_7_57 rfl rfl (by decide) hk_b53 hk_a0 d_Mo_init_121 (fun H locs R => ?_)
  obtain ⟨S55, eS55, hE⟩ := fw_let_ex hE
  rw [← eS55] at R
  clear eS55
  refine lv_aload_n hx hb d_Mo_init_124 rfl (lv_at hl 0 rfl) ?_
  refine lv_sipush (v := 480) hx hb d_Mo_init_125 (by decide) ?_
  refine fw_newai C R (by decide) (by decide) (by decide) (by decide) d_Mo_init_128 (fun H kd58 hxkd58 hk_new R => ?_)
  refine W.widen (k := 14) (n := 2785) (by decide) (by decide) ?_
  obtain ⟨b57, eb57, hE⟩ := fw_let_ex hE
  obtain ⟨S56, eS56, hE⟩ := fw_let_ex hE
  rw [← eS56] at R
  rw [← eb57] at hk_new ⊢
  have hk_b57 := hk_new
  have hXkd58 := fw_X.tr hXkd54 hxkd58
  have hk_a0 := hxkd58 _ _ hk_a0
  have hk_b2 := hxkd58 _ _ hk_b2
  have hk_b6 := hxkd58 _ _ hk_b6
  have hk_b10 := hxkd58 _ _ hk_b10
  have hk_b14 := hxkd58 _ _ hk_b14
  have hk_b18 := hxkd58 _ _ hk_b18
  have hk_b25 := hxkd58 _ _ hk_b25
  have hk_b29 := hxkd58 _ _ hk_b29
  have hk_b33 := hxkd58 _ _ hk_b33
  have hk_b37 := hxkd58 _ _ hk_b37
  have hk_b41 := hxkd58 _ _ hk_b41
  have hk_b45 := hxkd58 _ _ hk_b45
  have hk_b49 := hxkd58 _ _ hk_b49
  have hk_b53 := hxkd58 _ _ hk_b53
  clear eS56 eb57 hk_new
  refine fw_putFr C hnm R ft_field_7_60 rfl ft_nonest_7_60 rfl rfl (by decide) hk_b57 hk_a0 d_Mo_init_130 (fun H locs R => ?_)
  obtain ⟨S59, eS59, hE⟩ := fw_let_ex hE
  rw [← eS59] at R
  clear eS59
  refine lv_aload_n hx hb d_Mo_init_133 rfl (lv_at hl 0 rfl) ?_
  refine lv_bipush (v := 24) hx hb d_Mo_init_134 (by decide) ?_
  refine fw_newai C R (by decide) (by decide) (by decide) (by decide) d_Mo_init_136 (fun H kd62 hxkd62 hk_new R => ?_)
  refine W.widen (k := 15) (n := 2809) (by decide) (by decide) ?_
  obtain ⟨b61, eb61, hE⟩ := fw_let_ex hE
  obtain ⟨S60, eS60, hE⟩ := fw_let_ex hE
  rw [← eS60] at R
  rw [← eb61] at hk_new ⊢
  have hk_b61 := hk_new
  have hXkd62 := fw_X.tr hXkd58 hxkd62
  have hk_a0 := hxkd62 _ _ hk_a0
  have hk_b2 := hxkd62 _ _ hk_b2
  have hk_b6 := hxkd62 _ _ hk_b6
  have hk_b10 := hxkd62 _ _ hk_b10
  have hk_b14 := hxkd62 _ _ hk_b14
  have hk_b18 := hxkd62 _ _ hk_b18
  have hk_b25 := hxkd62 _ _ hk_b25
  have hk_b29 := hxkd62 _ _ hk_b29
  have hk_b33 := hxkd62 _ _ hk_b33
  have hk_b37 := hxkd62 _ _ hk_b37
  have hk_b41 := hxkd62 _ _ hk_b41
  have hk_b45 := hxkd62 _ _ hk_b45
  have hk_b49 := hxkd62 _ _ hk_b49
  have hk_b53 := hxkd62 _ _ hk_b53
  have hk_b57 := hxkd62 _ _ hk_b57
  clear eS60 eb61 hk_new
  refine fw_putFr C hnm R ft_field_7_63 rfl ft_nonest_7_63 rfl rfl (by decide) hk_b61 hk_a0 d_Mo_init_138 (fun H locs R => ?_)
  obtain ⟨S63, eS63, hE⟩ := fw_let_ex hE
  rw [← eS63] at R
  clear eS63
  refine lv_aload_n hx hb d_Mo_init_141 rfl (lv_at hl 0 rfl) ?_
  refine lv_sipush (v := 480) hx hb d_Mo_init_142 (by decide) ?_
  refine fw_newai C R (by decide) (by decide) (by decide) (by decide) d_Mo_init_145 (fun H kd66 hxkd66 hk_new R => ?_)
  refine W.widen (k := 16) (n := 3289) (by decide) (by decide) ?_
  obtain ⟨b65, eb65, hE⟩ := fw_let_ex hE
  obtain ⟨S64, eS64, hE⟩ := fw_let_ex hE
  rw [← eS64] at R
  rw [← eb65] at hk_new ⊢
  have hk_b65 := hk_new
  have hXkd66 := fw_X.tr hXkd62 hxkd66
  have hk_a0 := hxkd66 _ _ hk_a0
  have hk_b2 := hxkd66 _ _ hk_b2
  have hk_b6 := hxkd66 _ _ hk_b6
  have hk_b10 := hxkd66 _ _ hk_b10
  have hk_b14 := hxkd66 _ _ hk_b14
  have hk_b18 := hxkd66 _ _ hk_b18
  have hk_b25 := hxkd66 _ _ hk_b25
  have hk_b29 := hxkd66 _ _ hk_b29
  have hk_b33 := hxkd66 _ _ hk_b33
  have hk_b37 := hxkd66 _ _ hk_b37
  have hk_b41 := hxkd66 _ _ hk_b41
  have hk_b45 := hxkd66 _ _ hk_b45
  have hk_b49 := hxkd66 _ _ hk_b49
  have hk_b53 := hxkd66 _ _ hk_b53
  have hk_b57 := hxkd66 _ _ hk_b57
  have hk_b61 := hxkd66 _ _ hk_b61
  clear eS64 eb65 hk_new
  refine fw_putFr C hnm R ft_field_7_66 rfl ft_nonest_7_66 rfl rfl (by decide) hk_b65 hk_a0 d_Mo_init_147 (fun H locs R => ?_)
  obtain ⟨S67, eS67, hE⟩ := fw_let_ex hE
  rw [← eS67] at R
  clear eS67
  refine lv_aload_n hx hb d_Mo_init_150 rfl (lv_at hl 0 rfl) ?_
  refine lv_bipush (v := 24) hx hb d_Mo_init_151 (by decide) ?_
  refine fw_newai C R (by decide) (by decide) (by decide) (by decide) d_Mo_init_153 (fun H kd70 hxkd70 hk_new R => ?_)
  refine W.widen (k := 17) (n := 3313) (by decide) (by decide) ?_
  obtain ⟨b69, eb69, hE⟩ := fw_let_ex hE
  obtain ⟨S68, eS68, hE⟩ := fw_let_ex hE
  rw [← eS68] at R
  rw [← eb69] at hk_new ⊢
  have hk_b69 := hk_new
  have hXkd70 := fw_X.tr hXkd66 hxkd70
  have hk_a0 := hxkd70 _ _ hk_a0
  have hk_b2 := hxkd70 _ _ hk_b2
  have hk_b6 := hxkd70 _ _ hk_b6
  have hk_b10 := hxkd70 _ _ hk_b10
  have hk_b14 := hxkd70 _ _ hk_b14
  have hk_b18 := hxkd70 _ _ hk_b18
  have hk_b25 := hxkd70 _ _ hk_b25
  have hk_b29 := hxkd70 _ _ hk_b29
  have hk_b33 := hxkd70 _ _ hk_b33
  have hk_b37 := hxkd70 _ _ hk_b37
  have hk_b41 := hxkd70 _ _ hk_b41
  have hk_b45 := hxkd70 _ _ hk_b45
  have hk_b49 := hxkd70 _ _ hk_b49
  have hk_b53 := hxkd70 _ _ hk_b53
  have hk_b57 := hxkd70 _ _ hk_b57
  have hk_b61 := hxkd70 _ _ hk_b61
  have hk_b65 := hxkd70 _ _ hk_b65
  clear eS68 eb69 hk_new
  refine fw_putFr C hnm R ft_field_7_69 rfl ft_nonest_7_69 rfl rfl (by decide) hk_b69 hk_a0 d_Mo_init_155 (fun H locs R => ?_)
  obtain ⟨S71, eS71, hE⟩ := fw_let_ex hE
  rw [← eS71] at R
  clear eS71
  refine lv_aload_n hx hb d_Mo_init_158 rfl (lv_at hl 0 rfl) ?_
  refine lv_bipush (v := 24) hx hb d_Mo_init_159 (by decide) ?_
  refine fw_newai C R (by decide) (by decide) (by decide) (by decide) d_Mo_init_161 (fun H kd74 hxkd74 hk_new R => ?_)
  refine W.widen (k := 18) (n := 3337) (by decide) (by decide) ?_
  obtain ⟨b73, eb73, hE⟩ := fw_let_ex hE
  obtain ⟨S72, eS72, hE⟩ := fw_let_ex hE
  rw [← eS72] at R
  rw [← eb73] at hk_new ⊢
  have hk_b73 := hk_new
  have hXkd74 := fw_X.tr hXkd70 hxkd74
  have hk_a0 := hxkd74 _ _ hk_a0
  have hk_b2 := hxkd74 _ _ hk_b2
  have hk_b6 := hxkd74 _ _ hk_b6
  have hk_b10 := hxkd74 _ _ hk_b10
  have hk_b14 := hxkd74 _ _ hk_b14
  have hk_b18 := hxkd74 _ _ hk_b18
  have hk_b25 := hxkd74 _ _ hk_b25
  have hk_b29 := hxkd74 _ _ hk_b29
  have hk_b33 := hxkd74 _ _ hk_b33
  have hk_b37 := hxkd74 _ _ hk_b37
  have hk_b41 := hxkd74 _ _ hk_b41
  have hk_b45 := hxkd74 _ _ hk_b45
  have hk_b49 := hxkd74 _ _ hk_b49
  have hk_b53 := hxkd74 _ _ hk_b53
  have hk_b57 := hxkd74 _ _ hk_b57
  have hk_b61 := hxkd74 _ _ hk_b61
  have hk_b65 := hxkd74 _ _ hk_b65
  have hk_b69 := hxkd74 _ _ hk_b69
  clear eS72 eb73 hk_new
  refine fw_putFr C hnm R ft_field_7_72 rfl ft_nonest_7_72 rfl rfl (by decide) hk_b73 hk_a0 d_Mo_init_163 (fun H locs R => ?_)
  obtain ⟨S75, eS75, hE⟩ := fw_let_ex hE
  rw [← eS75] at R
  clear eS75
  refine lv_aload_n hx hb d_Mo_init_166 rfl (lv_at hl 0 rfl) ?_
  refine lv_bipush (v := 24) hx hb d_Mo_init_167 (by decide) ?_
  refine fw_newai C R (by decide) (by decide) (by decide) (by decide) d_Mo_init_169 (fun H kd78 hxkd78 hk_new R => ?_)
  refine W.widen (k := 19) (n := 3361) (by decide) (by decide) ?_
  obtain ⟨b77, eb77, hE⟩ := fw_let_ex hE
  obtain ⟨S76, eS76, hE⟩ := fw_let_ex hE
  rw [← eS76] at R
  rw [← eb77] at hk_new ⊢
  have hk_b77 := hk_new
  have hXkd78 := fw_X.tr hXkd74 hxkd78
  have hk_a0 := hxkd78 _ _ hk_a0
  have hk_b2 := hxkd78 _ _ hk_b2
  have hk_b6 := hxkd78 _ _ hk_b6
  have hk_b10 := hxkd78 _ _ hk_b10
  have hk_b14 := hxkd78 _ _ hk_b14
  have hk_b18 := hxkd78 _ _ hk_b18
  have hk_b25 := hxkd78 _ _ hk_b25
  have hk_b29 := hxkd78 _ _ hk_b29
  have hk_b33 := hxkd78 _ _ hk_b33
  have hk_b37 := hxkd78 _ _ hk_b37
  have hk_b41 := hxkd78 _ _ hk_b41
  have hk_b45 := hxkd78 _ _ hk_b45
  have hk_b49 := hxkd78 _ _ hk_b49
  have hk_b53 := hxkd78 _ _ hk_b53
  have hk_b57 := hxkd78 _ _ hk_b57
  have hk_b61 := hxkd78 _ _ hk_b61
  have hk_b65 := hxkd78 _ _ hk_b65
  have hk_b69 := hxkd78 _ _ hk_b69
  have hk_b73 := hxkd78 _ _ hk_b73
  clear eS76 eb77 hk_new
  refine fw_putFr C hnm R ft_field_7_75 rfl ft_nonest_7_75 rfl rfl (by decide) hk_b77 hk_a0 d_Mo_init_171 (fun H locs R => ?_)
  obtain ⟨S79, eS79, hE⟩ := fw_let_ex hE
  rw [← eS79] at R
  clear eS79
  refine lv_aload_n hx hb d_Mo_init_174 rfl (lv_at hl 0 rfl) ?_
  refine lv_sipush (v := 1440) hx hb d_Mo_init_175 (by decide) ?_
  refine fw_newai C R (by decide) (by decide) (by decide) (by decide) d_Mo_init_178 (fun H kd82 hxkd82 hk_new R => ?_)
  refine W.widen (k := 20) (n := 4801) (by decide) (by decide) ?_
  obtain ⟨b81, eb81, hE⟩ := fw_let_ex hE
  obtain ⟨S80, eS80, hE⟩ := fw_let_ex hE
  rw [← eS80] at R
  rw [← eb81] at hk_new ⊢
  have hk_b81 := hk_new
  have hXkd82 := fw_X.tr hXkd78 hxkd82
  have hk_a0 := hxkd82 _ _ hk_a0
  have hk_b2 := hxkd82 _ _ hk_b2
  have hk_b6 := hxkd82 _ _ hk_b6
  have hk_b10 := hxkd82 _ _ hk_b10
  have hk_b14 := hxkd82 _ _ hk_b14
  have hk_b18 := hxkd82 _ _ hk_b18
  have hk_b25 := hxkd82 _ _ hk_b25
  have hk_b29 := hxkd82 _ _ hk_b29
  have hk_b33 := hxkd82 _ _ hk_b33
  have hk_b37 := hxkd82 _ _ hk_b37
  have hk_b41 := hxkd82 _ _ hk_b41
  have hk_b45 := hxkd82 _ _ hk_b45
  have hk_b49 := hxkd82 _ _ hk_b49
  have hk_b53 := hxkd82 _ _ hk_b53
  have hk_b57 := hxkd82 _ _ hk_b57
  have hk_b61 := hxkd82 _ _ hk_b61
  have hk_b65 := hxkd82 _ _ hk_b65
  have hk_b69 := hxkd82 _ _ hk_b69
  have hk_b73 := hxkd82 _ _ hk_b73
  have hk_b77 := hxkd82 _ _ hk_b77
  clear eS80 eb81 hk_new
  refine fw_putFr C hnm R ft_field_7_78 rfl ft_nonest_7_78 rfl rfl (by decide) hk_b81 hk_a0 d_Mo_init_180 (fun H locs R => ?_)
  obtain ⟨S83, eS83, hE⟩ := fw_let_ex hE
  rw [← eS83] at R
  clear eS83
  refine lv_aload_n hx hb d_Mo_init_183 rfl (lv_at hl 0 rfl) ?_
  refine lv_sipush (v := 1440) hx hb d_Mo_init_184 (by decide) ?_
  refine fw_newai C R (by decide) (by decide) (by decide) (by decide) d_Mo_init_187 (fun H kd86 hxkd86 hk_new R => ?_)
  refine W.widen (k := 21) (n := 6241) (by decide) (by decide) ?_
  obtain ⟨b85, eb85, hE⟩ := fw_let_ex hE
  obtain ⟨S84, eS84, hE⟩ := fw_let_ex hE
  rw [← eS84] at R
  rw [← eb85] at hk_new ⊢
  have hk_b85 := hk_new
  have hXkd86 := fw_X.tr hXkd82 hxkd86
  have hk_a0 := hxkd86 _ _ hk_a0
  have hk_b2 := hxkd86 _ _ hk_b2
  have hk_b6 := hxkd86 _ _ hk_b6
  have hk_b10 := hxkd86 _ _ hk_b10
  have hk_b14 := hxkd86 _ _ hk_b14
  have hk_b18 := hxkd86 _ _ hk_b18
  have hk_b25 := hxkd86 _ _ hk_b25
  have hk_b29 := hxkd86 _ _ hk_b29
  have hk_b33 := hxkd86 _ _ hk_b33
  have hk_b37 := hxkd86 _ _ hk_b37
  have hk_b41 := hxkd86 _ _ hk_b41
  have hk_b45 := hxkd86 _ _ hk_b45
  have hk_b49 := hxkd86 _ _ hk_b49
  have hk_b53 := hxkd86 _ _ hk_b53
  have hk_b57 := hxkd86 _ _ hk_b57
  have hk_b61 := hxkd86 _ _ hk_b61
  have hk_b65 := hxkd86 _ _ hk_b65
  have hk_b69 := hxkd86 _ _ hk_b69
  have hk_b73 := hxkd86 _ _ hk_b73
  have hk_b77 := hxkd86 _ _ hk_b77
  have hk_b81 := hxkd86 _ _ hk_b81
  clear eS84 eb85 hk_new
  refine fw_putFr C hnm R ft_field_7_81 rfl ft_nonest_7_81 rfl rfl (by decide) hk_b85 hk_a0 d_Mo_init_189 (fun H locs R => ?_)
  obtain ⟨S87, eS87, hE⟩ := fw_let_ex hE
  rw [← eS87] at R
  clear eS87
  refine lv_aload_n hx hb d_Mo_init_192 rfl (lv_at hl 0 rfl) ?_
  refine lv_bipush (v := 24) hx hb d_Mo_init_193 (by decide) ?_
  refine fw_newai C R (by decide) (by decide) (by decide) (by decide) d_Mo_init_195 (fun H kd90 hxkd90 hk_new R => ?_)
  refine W.widen (k := 22) (n := 6265) (by decide) (by decide) ?_
  obtain ⟨b89, eb89, hE⟩ := fw_let_ex hE
  obtain ⟨S88, eS88, hE⟩ := fw_let_ex hE
  rw [← eS88] at R
  rw [← eb89] at hk_new ⊢
  have hk_b89 := hk_new
  have hXkd90 := fw_X.tr hXkd86 hxkd90
  have hk_a0 := hxkd90 _ _ hk_a0
  have hk_b2 := hxkd90 _ _ hk_b2
  have hk_b6 := hxkd90 _ _ hk_b6
  have hk_b10 := hxkd90 _ _ hk_b10
  have hk_b14 := hxkd90 _ _ hk_b14
  have hk_b18 := hxkd90 _ _ hk_b18
  have hk_b25 := hxkd90 _ _ hk_b25
  have hk_b29 := hxkd90 _ _ hk_b29
  have hk_b33 := hxkd90 _ _ hk_b33
  have hk_b37 := hxkd90 _ _ hk_b37
  have hk_b41 := hxkd90 _ _ hk_b41
  have hk_b45 := hxkd90 _ _ hk_b45
  have hk_b49 := hxkd90 _ _ hk_b49
  have hk_b53 := hxkd90 _ _ hk_b53
  have hk_b57 := hxkd90 _ _ hk_b57
  have hk_b61 := hxkd90 _ _ hk_b61
  have hk_b65 := hxkd90 _ _ hk_b65
  have hk_b69 := hxkd90 _ _ hk_b69
  have hk_b73 := hxkd90 _ _ hk_b73
  have hk_b77 := hxkd90 _ _ hk_b77
  have hk_b81 := hxkd90 _ _ hk_b81
  have hk_b85 := hxkd90 _ _ hk_b85
  clear eS88 eb89 hk_new
  refine fw_putFr C hnm R ft_field_7_84 rfl ft_nonest_7_84 rfl rfl (by decide) hk_b89 hk_a0 d_Mo_init_197 (fun H locs R => ?_)
  obtain ⟨S91, eS91, hE⟩ := fw_let_ex hE
  rw [← eS91] at R
  clear eS91
  refine lv_aload_n hx hb d_Mo_init_200 rfl (lv_at hl 0 rfl) ?_
  refine lv_bipush (v := 24) hx hb d_Mo_init_201 (by decide) ?_
  refine fw_newai C R (by decide) (by decide) (by decide) (by decide) d_Mo_init_203 (fun H kd94 hxkd94 hk_new R => ?_)
  refine W.widen (k := 23) (n := 6289) (by decide) (by decide) ?_
  obtain ⟨b93, eb93, hE⟩ := fw_let_ex hE
  obtain ⟨S92, eS92, hE⟩ := fw_let_ex hE
  rw [← eS92] at R
  rw [← eb93] at hk_new ⊢
  have hk_b93 := hk_new
  have hXkd94 := fw_X.tr hXkd90 hxkd94
  have hk_a0 := hxkd94 _ _ hk_a0
  have hk_b2 := hxkd94 _ _ hk_b2
  have hk_b6 := hxkd94 _ _ hk_b6
  have hk_b10 := hxkd94 _ _ hk_b10
  have hk_b14 := hxkd94 _ _ hk_b14
  have hk_b18 := hxkd94 _ _ hk_b18
  have hk_b25 := hxkd94 _ _ hk_b25
  have hk_b29 := hxkd94 _ _ hk_b29
  have hk_b33 := hxkd94 _ _ hk_b33
  have hk_b37 := hxkd94 _ _ hk_b37
  have hk_b41 := hxkd94 _ _ hk_b41
  have hk_b45 := hxkd94 _ _ hk_b45
  have hk_b49 := hxkd94 _ _ hk_b49
  have hk_b53 := hxkd94 _ _ hk_b53
  have hk_b57 := hxkd94 _ _ hk_b57
  have hk_b61 := hxkd94 _ _ hk_b61
  have hk_b65 := hxkd94 _ _ hk_b65
  have hk_b69 := hxkd94 _ _ hk_b69
  have hk_b73 := hxkd94 _ _ hk_b73
  have hk_b77 := hxkd94 _ _ hk_b77
  have hk_b81 := hxkd94 _ _ hk_b81
  have hk_b85 := hxkd94 _ _ hk_b85
  have hk_b89 := hxkd94 _ _ hk_b89
  clear eS92 eb93 hk_new
  refine fw_putFr C hnm R ft_field_7_87 rfl ft_nonest_7_87 rfl rfl (by decide) hk_b93 hk_a0 d_Mo_init_205 (fun H locs R => ?_)
  obtain ⟨S95, eS95, hE⟩ := fw_let_ex hE
  rw [← eS95] at R
  clear eS95
  refine lv_aload_n hx hb d_Mo_init_208 rfl (lv_at hl 0 rfl) ?_
  refine lv_bipush (v := 24) hx hb d_Mo_init_209 (by decide) ?_
  refine fw_newai C R (by decide) (by decide) (by decide) (by decide) d_Mo_init_211 (fun H kd98 hxkd98 hk_new R => ?_)
  refine W.widen (k := 24) (n := 6313) (by decide) (by decide) ?_
  obtain ⟨b97, eb97, hE⟩ := fw_let_ex hE
  obtain ⟨S96, eS96, hE⟩ := fw_let_ex hE
  rw [← eS96] at R
  rw [← eb97] at hk_new ⊢
  have hk_b97 := hk_new
  have hXkd98 := fw_X.tr hXkd94 hxkd98
  have hk_a0 := hxkd98 _ _ hk_a0
  have hk_b2 := hxkd98 _ _ hk_b2
  have hk_b6 := hxkd98 _ _ hk_b6
  have hk_b10 := hxkd98 _ _ hk_b10
  have hk_b14 := hxkd98 _ _ hk_b14
  have hk_b18 := hxkd98 _ _ hk_b18
  have hk_b25 := hxkd98 _ _ hk_b25
  have hk_b29 := hxkd98 _ _ hk_b29
  have hk_b33 := hxkd98 _ _ hk_b33
  have hk_b37 := hxkd98 _ _ hk_b37
  have hk_b41 := hxkd98 _ _ hk_b41
  have hk_b45 := hxkd98 _ _ hk_b45
  have hk_b49 := hxkd98 _ _ hk_b49
  have hk_b53 := hxkd98 _ _ hk_b53
  have hk_b57 := hxkd98 _ _ hk_b57
  have hk_b61 := hxkd98 _ _ hk_b61
  have hk_b65 := hxkd98 _ _ hk_b65
  have hk_b69 := hxkd98 _ _ hk_b69
  have hk_b73 := hxkd98 _ _ hk_b73
  have hk_b77 := hxkd98 _ _ hk_b77
  have hk_b81 := hxkd98 _ _ hk_b81
  have hk_b85 := hxkd98 _ _ hk_b85
  have hk_b89 := hxkd98 _ _ hk_b89
  have hk_b93 := hxkd98 _ _ hk_b93
  clear eS96 eb97 hk_new
  refine fw_putFr C hnm R ft_field_7_90 rfl ft_nonest_7_90 rfl rfl (by decide) hk_b97 hk_a0 d_Mo_init_213 (fun H locs R => ?_)
  obtain ⟨S99, eS99, hE⟩ := fw_let_ex hE
  rw [← eS99] at R
  clear eS99
  refine lv_aload_n hx hb d_Mo_init_216 rfl (lv_at hl 0 rfl) ?_
  refine lv_bipush (v := 24) hx hb d_Mo_init_217 (by decide) ?_
  refine fw_newai C R (by decide) (by decide) (by decide) (by decide) d_Mo_init_219 (fun H kd102 hxkd102 hk_new R => ?_)
  refine W.widen (k := 25) (n := 6337) (by decide) (by decide) ?_
  obtain ⟨b101, eb101, hE⟩ := fw_let_ex hE
  obtain ⟨S100, eS100, hE⟩ := fw_let_ex hE
  rw [← eS100] at R
  rw [← eb101] at hk_new ⊢
  have hk_b101 := hk_new
  have hXkd102 := fw_X.tr hXkd98 hxkd102
  have hk_a0 := hxkd102 _ _ hk_a0
  have hk_b2 := hxkd102 _ _ hk_b2
  have hk_b6 := hxkd102 _ _ hk_b6
  have hk_b10 := hxkd102 _ _ hk_b10
  have hk_b14 := hxkd102 _ _ hk_b14
  have hk_b18 := hxkd102 _ _ hk_b18
  have hk_b25 := hxkd102 _ _ hk_b25
  have hk_b29 := hxkd102 _ _ hk_b29
  have hk_b33 := hxkd102 _ _ hk_b33
  have hk_b37 := hxkd102 _ _ hk_b37
  have hk_b41 := hxkd102 _ _ hk_b41
  have hk_b45 := hxkd102 _ _ hk_b45
  have hk_b49 := hxkd102 _ _ hk_b49
  have hk_b53 := hxkd102 _ _ hk_b53
  have hk_b57 := hxkd102 _ _ hk_b57
  have hk_b61 := hxkd102 _ _ hk_b61
  have hk_b65 := hxkd102 _ _ hk_b65
  have hk_b69 := hxkd102 _ _ hk_b69
  have hk_b73 := hxkd102 _ _ hk_b73
  have hk_b77 := hxkd102 _ _ hk_b77
  have hk_b81 := hxkd102 _ _ hk_b81
  have hk_b85 := hxkd102 _ _ hk_b85
  have hk_b89 := hxkd102 _ _ hk_b89
  have hk_b93 := hxkd102 _ _ hk_b93
  have hk_b97 := hxkd102 _ _ hk_b97
  clear eS100 eb101 hk_new
  refine fw_putFr C hnm R ft_field_7_93 rfl ft_nonest_7_93 rfl rfl (by decide) hk_b101 hk_a0 d_Mo_init_221 (fun H locs R => ?_)
  obtain ⟨S103, eS103, hE⟩ := fw_let_ex hE
  rw [← eS103] at R
  clear eS103
  refine lv_aload_n hx hb d_Mo_init_224 rfl (lv_at hl 0 rfl) ?_
  refine lv_bipush (v := 24) hx hb d_Mo_init_225 (by decide) ?_
  refine fw_newai C R (by decide) (by decide) (by decide) (by decide) d_Mo_init_227 (fun H kd106 hxkd106 hk_new R => ?_)
  refine W.widen (k := 26) (n := 6361) (by decide) (by decide) ?_
  obtain ⟨b105, eb105, hE⟩ := fw_let_ex hE
  obtain ⟨S104, eS104, hE⟩ := fw_let_ex hE
  rw [← eS104] at R
  rw [← eb105] at hk_new ⊢
  have hk_b105 := hk_new
  have hXkd106 := fw_X.tr hXkd102 hxkd106
  have hk_a0 := hxkd106 _ _ hk_a0
  have hk_b2 := hxkd106 _ _ hk_b2
  have hk_b6 := hxkd106 _ _ hk_b6
  have hk_b10 := hxkd106 _ _ hk_b10
  have hk_b14 := hxkd106 _ _ hk_b14
  have hk_b18 := hxkd106 _ _ hk_b18
  have hk_b25 := hxkd106 _ _ hk_b25
  have hk_b29 := hxkd106 _ _ hk_b29
  have hk_b33 := hxkd106 _ _ hk_b33
  have hk_b37 := hxkd106 _ _ hk_b37
  have hk_b41 := hxkd106 _ _ hk_b41
  have hk_b45 := hxkd106 _ _ hk_b45
  have hk_b49 := hxkd106 _ _ hk_b49
  have hk_b53 := hxkd106 _ _ hk_b53
  have hk_b57 := hxkd106 _ _ hk_b57
  have hk_b61 := hxkd106 _ _ hk_b61
  have hk_b65 := hxkd106 _ _ hk_b65
  have hk_b69 := hxkd106 _ _ hk_b69
  have hk_b73 := hxkd106 _ _ hk_b73
  have hk_b77 := hxkd106 _ _ hk_b77
  have hk_b81 := hxkd106 _ _ hk_b81
  have hk_b85 := hxkd106 _ _ hk_b85
  have hk_b89 := hxkd106 _ _ hk_b89
  have hk_b93 := hxkd106 _ _ hk_b93
  have hk_b97 := hxkd106 _ _ hk_b97
  have hk_b101 := hxkd106 _ _ hk_b101
  clear eS104 eb105 hk_new
  refine fw_putFr C hnm R ft_field_7_96 rfl ft_nonest_7_96 rfl rfl (by decide) hk_b105 hk_a0 d_Mo_init_229 (fun H locs R => ?_)
  obtain ⟨S107, eS107, hE⟩ := fw_let_ex hE
  rw [← eS107] at R
  clear eS107
  refine lv_aload_n hx hb d_Mo_init_232 rfl (lv_at hl 0 rfl) ?_
  refine lv_bipush (v := 24) hx hb d_Mo_init_233 (by decide) ?_
  refine fw_newai C R (by decide) (by decide) (by decide) (by decide) d_Mo_init_235 (fun H kd110 hxkd110 hk_new R => ?_)
  refine W.widen (k := 27) (n := 6385) (by decide) (by decide) ?_
  obtain ⟨b109, eb109, hE⟩ := fw_let_ex hE
  obtain ⟨S108, eS108, hE⟩ := fw_let_ex hE
  rw [← eS108] at R
  rw [← eb109] at hk_new ⊢
  have hk_b109 := hk_new
  have hXkd110 := fw_X.tr hXkd106 hxkd110
  have hk_a0 := hxkd110 _ _ hk_a0
  have hk_b2 := hxkd110 _ _ hk_b2
  have hk_b6 := hxkd110 _ _ hk_b6
  have hk_b10 := hxkd110 _ _ hk_b10
  have hk_b14 := hxkd110 _ _ hk_b14
  have hk_b18 := hxkd110 _ _ hk_b18
  have hk_b25 := hxkd110 _ _ hk_b25
  have hk_b29 := hxkd110 _ _ hk_b29
  have hk_b33 := hxkd110 _ _ hk_b33
  have hk_b37 := hxkd110 _ _ hk_b37
  have hk_b41 := hxkd110 _ _ hk_b41
  have hk_b45 := hxkd110 _ _ hk_b45
  have hk_b49 := hxkd110 _ _ hk_b49
  have hk_b53 := hxkd110 _ _ hk_b53
  have hk_b57 := hxkd110 _ _ hk_b57
  have hk_b61 := hxkd110 _ _ hk_b61
  have hk_b65 := hxkd110 _ _ hk_b65
  have hk_b69 := hxkd110 _ _ hk_b69
  have hk_b73 := hxkd110 _ _ hk_b73
  have hk_b77 := hxkd110 _ _ hk_b77
  have hk_b81 := hxkd110 _ _ hk_b81
  have hk_b85 := hxkd110 _ _ hk_b85
  have hk_b89 := hxkd110 _ _ hk_b89
  have hk_b93 := hxkd110 _ _ hk_b93
  have hk_b97 := hxkd110 _ _ hk_b97
  have hk_b101 := hxkd110 _ _ hk_b101
  have hk_b105 := hxkd110 _ _ hk_b105
  clear eS108 eb109 hk_new
  refine fw_putFr C hnm R ft_field_7_99 rfl ft_nonest_7_99 rfl rfl (by decide) hk_b109 hk_a0 d_Mo_init_237 (fun H locs R => ?_)
  obtain ⟨S111, eS111, hE⟩ := fw_let_ex hE
  rw [← eS111] at R
  clear eS111
  refine lv_aload_n hx hb d_Mo_init_240 rfl (lv_at hl 0 rfl) ?_
  refine lv_sipush (v := 480) hx hb d_Mo_init_241 (by decide) ?_
  refine fw_newai C R (by decide) (by decide) (by decide) (by decide) d_Mo_init_244 (fun H kd114 hxkd114 hk_new R => ?_)
  refine W.widen (k := 28) (n := 6865) (by decide) (by decide) ?_
  obtain ⟨b113, eb113, hE⟩ := fw_let_ex hE
  obtain ⟨S112, eS112, hE⟩ := fw_let_ex hE
  rw [← eS112] at R
  rw [← eb113] at hk_new ⊢
  have hk_b113 := hk_new
  have hXkd114 := fw_X.tr hXkd110 hxkd114
  have hk_a0 := hxkd114 _ _ hk_a0
  have hk_b2 := hxkd114 _ _ hk_b2
  have hk_b6 := hxkd114 _ _ hk_b6
  have hk_b10 := hxkd114 _ _ hk_b10
  have hk_b14 := hxkd114 _ _ hk_b14
  have hk_b18 := hxkd114 _ _ hk_b18
  have hk_b25 := hxkd114 _ _ hk_b25
  have hk_b29 := hxkd114 _ _ hk_b29
  have hk_b33 := hxkd114 _ _ hk_b33
  have hk_b37 := hxkd114 _ _ hk_b37
  have hk_b41 := hxkd114 _ _ hk_b41
  have hk_b45 := hxkd114 _ _ hk_b45
  have hk_b49 := hxkd114 _ _ hk_b49
  have hk_b53 := hxkd114 _ _ hk_b53
  have hk_b57 := hxkd114 _ _ hk_b57
  have hk_b61 := hxkd114 _ _ hk_b61
  have hk_b65 := hxkd114 _ _ hk_b65
  have hk_b69 := hxkd114 _ _ hk_b69
  have hk_b73 := hxkd114 _ _ hk_b73
  have hk_b77 := hxkd114 _ _ hk_b77
  have hk_b81 := hxkd114 _ _ hk_b81
  have hk_b85 := hxkd114 _ _ hk_b85
  have hk_b89 := hxkd114 _ _ hk_b89
  have hk_b93 := hxkd114 _ _ hk_b93
  have hk_b97 := hxkd114 _ _ hk_b97
  have hk_b101 := hxkd114 _ _ hk_b101
  have hk_b105 := hxkd114 _ _ hk_b105
  have hk_b109 := hxkd114 _ _ hk_b109
  clear eS112 eb113 hk_new
  refine fw_putFr C hnm R ft_field_7_102 rfl ft_nonest_7_102 rfl rfl (by decide) hk_b113 hk_a0 d_Mo_init_246 (fun H locs R => ?_)
  obtain ⟨S115, eS115, hE⟩ := fw_let_ex hE
  rw [← eS115] at R
  clear eS115
  refine lv_aload_n hx hb d_Mo_init_249 rfl (lv_at hl 0 rfl) ?_
  refine lv_iconst (v := 4) hx hb d_Mo_init_250 (by decide) ?_
  refine fw_newai C R (by decide) (by decide) (by decide) (by decide) d_Mo_init_251 (fun H kd118 hxkd118 hk_new R => ?_)
  refine W.widen (k := 29) (n := 6869) (by decide) (by decide) ?_
  obtain ⟨b117, eb117, hE⟩ := fw_let_ex hE
  obtain ⟨S116, eS116, hE⟩ := fw_let_ex hE
  rw [← eS116] at R
  rw [← eb117] at hk_new ⊢
  have hk_b117 := hk_new
  have hXkd118 := fw_X.tr hXkd114 hxkd118
  have hk_a0 := hxkd118 _ _ hk_a0
  have hk_b2 := hxkd118 _ _ hk_b2
  have hk_b6 := hxkd118 _ _ hk_b6
  have hk_b10 := hxkd118 _ _ hk_b10
  have hk_b14 := hxkd118 _ _ hk_b14
  have hk_b18 := hxkd118 _ _ hk_b18
  have hk_b25 := hxkd118 _ _ hk_b25
  have hk_b29 := hxkd118 _ _ hk_b29
  have hk_b33 := hxkd118 _ _ hk_b33
  have hk_b37 := hxkd118 _ _ hk_b37
  have hk_b41 := hxkd118 _ _ hk_b41
  have hk_b45 := hxkd118 _ _ hk_b45
  have hk_b49 := hxkd118 _ _ hk_b49
  have hk_b53 := hxkd118 _ _ hk_b53
  have hk_b57 := hxkd118 _ _ hk_b57
  have hk_b61 := hxkd118 _ _ hk_b61
  have hk_b65 := hxkd118 _ _ hk_b65
  have hk_b69 := hxkd118 _ _ hk_b69
  have hk_b73 := hxkd118 _ _ hk_b73
  have hk_b77 := hxkd118 _ _ hk_b77
  have hk_b81 := hxkd118 _ _ hk_b81
  have hk_b85 := hxkd118 _ _ hk_b85
  have hk_b89 := hxkd118 _ _ hk_b89
  have hk_b93 := hxkd118 _ _ hk_b93
  have hk_b97 := hxkd118 _ _ hk_b97
  have hk_b101 := hxkd118 _ _ hk_b101
  have hk_b105 := hxkd118 _ _ hk_b105
  have hk_b109 := hxkd118 _ _ hk_b109
  have hk_b113 := hxkd118 _ _ hk_b113
  clear eS116 eb117 hk_new
  refine lv_dup hx hb d_Mo_init_253 rfl ?_
  refine lv_iconst (v := 0) hx hb d_Mo_init_254 (by decide) ?_
  refine lv_sipush (v := 1000) hx hb d_Mo_init_255 (by decide) ?_
  obtain ⟨hi119, hE⟩ := fw_ifn hE
  refine fw_iast C R (by decide) hk_b117 hi119 d_Mo_init_258 (fun H locs R => ?_)
  obtain ⟨S120, eS120, hE⟩ := fw_let_ex hE
  rw [← eS120] at R
  clear eS120
  refine lv_dup hx hb d_Mo_init_259 rfl ?_
  refine lv_iconst (v := 1) hx hb d_Mo_init_260 (by decide) ?_
  refine lv_sipush (v := 1000) hx hb d_Mo_init_261 (by decide) ?_
  obtain ⟨hi121, hE⟩ := fw_ifn hE
  refine fw_iast C R (by decide) hk_b117 hi121 d_Mo_init_264 (fun H locs R => ?_)
  obtain ⟨S122, eS122, hE⟩ := fw_let_ex hE
  rw [← eS122] at R
  clear eS122
  refine lv_dup hx hb d_Mo_init_265 rfl ?_
  refine lv_iconst (v := 2) hx hb d_Mo_init_266 (by decide) ?_
  refine lv_sipush (v := 1000) hx hb d_Mo_init_267 (by decide) ?_
  obtain ⟨hi123, hE⟩ := fw_ifn hE
  refine fw_iast C R (by decide) hk_b117 hi123 d_Mo_init_270 (fun H locs R => ?_)
  obtain ⟨S124, eS124, hE⟩ := fw_let_ex hE
  rw [← eS124] at R
  clear eS124
  refine lv_dup hx hb d_Mo_init_271 rfl ?_
  refine lv_iconst (v := 3) hx hb d_Mo_init_272 (by decide) ?_
  refine lv_sipush (v := 1000) hx hb d_Mo_init_273 (by decide) ?_
  obtain ⟨hi125, hE⟩ := fw_ifn hE
  refine fw_iast C R (by decide) hk_b117 hi125 d_Mo_init_276 (fun H locs R => ?_)
  obtain ⟨S126, eS126, hE⟩ := fw_let_ex hE
  rw [← eS126] at R
  clear eS126
  refine fw_putFr C hnm R ft_field_7_105 rfl ft_nonest_7_105 rfl rfl (by decide) hk_b117 hk_a0 d_Mo_init_277 (fun H locs R => ?_)
  obtain ⟨S127, eS127, hE⟩ := fw_let_ex hE
  rw [← eS127] at R
  clear eS127
  refine lv_aload_n hx hb d_Mo_init_280 rfl (lv_at hl 0 rfl) ?_
  refine lv_iconst (v := 4) hx hb d_Mo_init_281 (by decide) ?_
  refine fw_newaz C R (by decide) (by decide) (by decide) (by decide) d_Mo_init_282 (fun H kd130 hxkd130 hk_new R => ?_)
  refine W.widen (k := 30) (n := 6873) (by decide) (by decide) ?_
  obtain ⟨b129, eb129, hE⟩ := fw_let_ex hE
  obtain ⟨S128, eS128, hE⟩ := fw_let_ex hE
  rw [← eS128] at R
  rw [← eb129] at hk_new ⊢
  have hk_b129 := hk_new
  have hXkd130 := fw_X.tr hXkd118 hxkd130
  have hk_a0 := hxkd130 _ _ hk_a0
  have hk_b2 := hxkd130 _ _ hk_b2
  have hk_b6 := hxkd130 _ _ hk_b6
  have hk_b10 := hxkd130 _ _ hk_b10
  have hk_b14 := hxkd130 _ _ hk_b14
  have hk_b18 := hxkd130 _ _ hk_b18
  have hk_b25 := hxkd130 _ _ hk_b25
  have hk_b29 := hxkd130 _ _ hk_b29
  have hk_b33 := hxkd130 _ _ hk_b33
  have hk_b37 := hxkd130 _ _ hk_b37
  have hk_b41 := hxkd130 _ _ hk_b41
  have hk_b45 := hxkd130 _ _ hk_b45
  have hk_b49 := hxkd130 _ _ hk_b49
  have hk_b53 := hxkd130 _ _ hk_b53
  have hk_b57 := hxkd130 _ _ hk_b57
  have hk_b61 := hxkd130 _ _ hk_b61
  have hk_b65 := hxkd130 _ _ hk_b65
  have hk_b69 := hxkd130 _ _ hk_b69
  have hk_b73 := hxkd130 _ _ hk_b73
  have hk_b77 := hxkd130 _ _ hk_b77
  have hk_b81 := hxkd130 _ _ hk_b81
  have hk_b85 := hxkd130 _ _ hk_b85
  have hk_b89 := hxkd130 _ _ hk_b89
  have hk_b93 := hxkd130 _ _ hk_b93
  have hk_b97 := hxkd130 _ _ hk_b97
  have hk_b101 := hxkd130 _ _ hk_b101
  have hk_b105 := hxkd130 _ _ hk_b105
  have hk_b109 := hxkd130 _ _ hk_b109
  have hk_b113 := hxkd130 _ _ hk_b113
  have hk_b117 := hxkd130 _ _ hk_b117
  clear eS128 eb129 hk_new
  refine fw_putFr C hnm R ft_field_7_108 rfl ft_nonest_7_108 rfl rfl (by decide) hk_b129 hk_a0 d_Mo_init_284 (fun H locs R => ?_)
  obtain ⟨S131, eS131, hE⟩ := fw_let_ex hE
  rw [← eS131] at R
  clear eS131
  refine lv_aload_n hx hb d_Mo_init_287 rfl (lv_at hl 0 rfl) ?_
  refine lv_bipush (v := 60) hx hb d_Mo_init_288 (by decide) ?_
  refine fw_newai C R (by decide) (by decide) (by decide) (by decide) d_Mo_init_290 (fun H kd134 hxkd134 hk_new R => ?_)
  refine W.widen (k := 31) (n := 6933) (by decide) (by decide) ?_
  obtain ⟨b133, eb133, hE⟩ := fw_let_ex hE
  obtain ⟨S132, eS132, hE⟩ := fw_let_ex hE
  rw [← eS132] at R
  rw [← eb133] at hk_new ⊢
  have hk_b133 := hk_new
  have hXkd134 := fw_X.tr hXkd130 hxkd134
  have hk_a0 := hxkd134 _ _ hk_a0
  have hk_b2 := hxkd134 _ _ hk_b2
  have hk_b6 := hxkd134 _ _ hk_b6
  have hk_b10 := hxkd134 _ _ hk_b10
  have hk_b14 := hxkd134 _ _ hk_b14
  have hk_b18 := hxkd134 _ _ hk_b18
  have hk_b25 := hxkd134 _ _ hk_b25
  have hk_b29 := hxkd134 _ _ hk_b29
  have hk_b33 := hxkd134 _ _ hk_b33
  have hk_b37 := hxkd134 _ _ hk_b37
  have hk_b41 := hxkd134 _ _ hk_b41
  have hk_b45 := hxkd134 _ _ hk_b45
  have hk_b49 := hxkd134 _ _ hk_b49
  have hk_b53 := hxkd134 _ _ hk_b53
  have hk_b57 := hxkd134 _ _ hk_b57
  have hk_b61 := hxkd134 _ _ hk_b61
  have hk_b65 := hxkd134 _ _ hk_b65
  have hk_b69 := hxkd134 _ _ hk_b69
  have hk_b73 := hxkd134 _ _ hk_b73
  have hk_b77 := hxkd134 _ _ hk_b77
  have hk_b81 := hxkd134 _ _ hk_b81
  have hk_b85 := hxkd134 _ _ hk_b85
  have hk_b89 := hxkd134 _ _ hk_b89
  have hk_b93 := hxkd134 _ _ hk_b93
  have hk_b97 := hxkd134 _ _ hk_b97
  have hk_b101 := hxkd134 _ _ hk_b101
  have hk_b105 := hxkd134 _ _ hk_b105
  have hk_b109 := hxkd134 _ _ hk_b109
  have hk_b113 := hxkd134 _ _ hk_b113
  have hk_b117 := hxkd134 _ _ hk_b117
  have hk_b129 := hxkd134 _ _ hk_b129
  clear eS132 eb133 hk_new
  refine fw_putFr C hnm R ft_field_7_111 rfl ft_nonest_7_111 rfl rfl (by decide) hk_b133 hk_a0 d_Mo_init_292 (fun H locs R => ?_)
  obtain ⟨S135, eS135, hE⟩ := fw_let_ex hE
  rw [← eS135] at R
  clear eS135
  refine lv_aload_n hx hb d_Mo_init_295 rfl (lv_at hl 0 rfl) ?_
  refine lv_bipush (v := 60) hx hb d_Mo_init_296 (by decide) ?_
  refine fw_newai C R (by decide) (by decide) (by decide) (by decide) d_Mo_init_298 (fun H kd138 hxkd138 hk_new R => ?_)
  refine W.widen (k := 32) (n := 6993) (by decide) (by decide) ?_
  obtain ⟨b137, eb137, hE⟩ := fw_let_ex hE
  obtain ⟨S136, eS136, hE⟩ := fw_let_ex hE
  rw [← eS136] at R
  rw [← eb137] at hk_new ⊢
  have hk_b137 := hk_new
  have hXkd138 := fw_X.tr hXkd134 hxkd138
  have hk_a0 := hxkd138 _ _ hk_a0
  have hk_b2 := hxkd138 _ _ hk_b2
  have hk_b6 := hxkd138 _ _ hk_b6
  have hk_b10 := hxkd138 _ _ hk_b10
  have hk_b14 := hxkd138 _ _ hk_b14
  have hk_b18 := hxkd138 _ _ hk_b18
  have hk_b25 := hxkd138 _ _ hk_b25
  have hk_b29 := hxkd138 _ _ hk_b29
  have hk_b33 := hxkd138 _ _ hk_b33
  have hk_b37 := hxkd138 _ _ hk_b37
  have hk_b41 := hxkd138 _ _ hk_b41
  have hk_b45 := hxkd138 _ _ hk_b45
  have hk_b49 := hxkd138 _ _ hk_b49
  have hk_b53 := hxkd138 _ _ hk_b53
  have hk_b57 := hxkd138 _ _ hk_b57
  have hk_b61 := hxkd138 _ _ hk_b61
  have hk_b65 := hxkd138 _ _ hk_b65
  have hk_b69 := hxkd138 _ _ hk_b69
  have hk_b73 := hxkd138 _ _ hk_b73
  have hk_b77 := hxkd138 _ _ hk_b77
  have hk_b81 := hxkd138 _ _ hk_b81
  have hk_b85 := hxkd138 _ _ hk_b85
  have hk_b89 := hxkd138 _ _ hk_b89
  have hk_b93 := hxkd138 _ _ hk_b93
  have hk_b97 := hxkd138 _ _ hk_b97
  have hk_b101 := hxkd138 _ _ hk_b101
  have hk_b105 := hxkd138 _ _ hk_b105
  have hk_b109 := hxkd138 _ _ hk_b109
  have hk_b113 := hxkd138 _ _ hk_b113
  have hk_b117 := hxkd138 _ _ hk_b117
  have hk_b129 := hxkd138 _ _ hk_b129
  have hk_b133 := hxkd138 _ _ hk_b133
  clear eS136 eb137 hk_new
  refine fw_putFr C hnm R ft_field_7_114 rfl ft_nonest_7_114 rfl rfl (by decide) hk_b137 hk_a0 d_Mo_init_300 (fun H locs R => ?_)
  obtain ⟨S139, eS139, hE⟩ := fw_let_ex hE
  rw [← eS139] at R
  clear eS139
  refine lv_aload_n hx hb d_Mo_init_303 rfl (lv_at hl 0 rfl) ?_
  refine lv_bipush (v := 9) hx hb d_Mo_init_304 (by decide) ?_
  refine fw_newai C R (by decide) (by decide) (by decide) (by decide) d_Mo_init_306 (fun H kd142 hxkd142 hk_new R => ?_)
  refine W.widen (k := 33) (n := 7002) (by decide) (by decide) ?_
  obtain ⟨b141, eb141, hE⟩ := fw_let_ex hE
  obtain ⟨S140, eS140, hE⟩ := fw_let_ex hE
  rw [← eS140] at R
  rw [← eb141] at hk_new ⊢
  have hk_b141 := hk_new
  have hXkd142 := fw_X.tr hXkd138 hxkd142
  have hk_a0 := hxkd142 _ _ hk_a0
  have hk_b2 := hxkd142 _ _ hk_b2
  have hk_b6 := hxkd142 _ _ hk_b6
  have hk_b10 := hxkd142 _ _ hk_b10
  have hk_b14 := hxkd142 _ _ hk_b14
  have hk_b18 := hxkd142 _ _ hk_b18
  have hk_b25 := hxkd142 _ _ hk_b25
  have hk_b29 := hxkd142 _ _ hk_b29
  have hk_b33 := hxkd142 _ _ hk_b33
  have hk_b37 := hxkd142 _ _ hk_b37
  have hk_b41 := hxkd142 _ _ hk_b41
  have hk_b45 := hxkd142 _ _ hk_b45
  have hk_b49 := hxkd142 _ _ hk_b49
  have hk_b53 := hxkd142 _ _ hk_b53
  have hk_b57 := hxkd142 _ _ hk_b57
  have hk_b61 := hxkd142 _ _ hk_b61
  have hk_b65 := hxkd142 _ _ hk_b65
  have hk_b69 := hxkd142 _ _ hk_b69
  have hk_b73 := hxkd142 _ _ hk_b73
  have hk_b77 := hxkd142 _ _ hk_b77
  have hk_b81 := hxkd142 _ _ hk_b81
  have hk_b85 := hxkd142 _ _ hk_b85
  have hk_b89 := hxkd142 _ _ hk_b89
  have hk_b93 := hxkd142 _ _ hk_b93
  have hk_b97 := hxkd142 _ _ hk_b97
  have hk_b101 := hxkd142 _ _ hk_b101
  have hk_b105 := hxkd142 _ _ hk_b105
  have hk_b109 := hxkd142 _ _ hk_b109
  have hk_b113 := hxkd142 _ _ hk_b113
  have hk_b117 := hxkd142 _ _ hk_b117
  have hk_b129 := hxkd142 _ _ hk_b129
  have hk_b133 := hxkd142 _ _ hk_b133
  have hk_b137 := hxkd142 _ _ hk_b137
  clear eS140 eb141 hk_new
  refine fw_putFr C hnm R ft_field_7_117 rfl ft_nonest_7_117 rfl rfl (by decide) hk_b141 hk_a0 d_Mo_init_308 (fun H locs R => ?_)
  obtain ⟨S143, eS143, hE⟩ := fw_let_ex hE
  rw [← eS143] at R
  clear eS143
  refine lv_aload_n hx hb d_Mo_init_311 rfl (lv_at hl 0 rfl) ?_
  refine lv_bipush (v := 9) hx hb d_Mo_init_312 (by decide) ?_
  refine fw_newai C R (by decide) (by decide) (by decide) (by decide) d_Mo_init_314 (fun H kd146 hxkd146 hk_new R => ?_)
  refine W.widen (k := 34) (n := 7011) (by decide) (by decide) ?_
  obtain ⟨b145, eb145, hE⟩ := fw_let_ex hE
  obtain ⟨S144, eS144, hE⟩ := fw_let_ex hE
  rw [← eS144] at R
  rw [← eb145] at hk_new ⊢
  have hk_b145 := hk_new
  have hXkd146 := fw_X.tr hXkd142 hxkd146
  have hk_a0 := hxkd146 _ _ hk_a0
  have hk_b2 := hxkd146 _ _ hk_b2
  have hk_b6 := hxkd146 _ _ hk_b6
  have hk_b10 := hxkd146 _ _ hk_b10
  have hk_b14 := hxkd146 _ _ hk_b14
  have hk_b18 := hxkd146 _ _ hk_b18
  have hk_b25 := hxkd146 _ _ hk_b25
  have hk_b29 := hxkd146 _ _ hk_b29
  have hk_b33 := hxkd146 _ _ hk_b33
  have hk_b37 := hxkd146 _ _ hk_b37
  have hk_b41 := hxkd146 _ _ hk_b41
  have hk_b45 := hxkd146 _ _ hk_b45
  have hk_b49 := hxkd146 _ _ hk_b49
  have hk_b53 := hxkd146 _ _ hk_b53
  have hk_b57 := hxkd146 _ _ hk_b57
  have hk_b61 := hxkd146 _ _ hk_b61
  have hk_b65 := hxkd146 _ _ hk_b65
  have hk_b69 := hxkd146 _ _ hk_b69
  have hk_b73 := hxkd146 _ _ hk_b73
  have hk_b77 := hxkd146 _ _ hk_b77
  have hk_b81 := hxkd146 _ _ hk_b81
  have hk_b85 := hxkd146 _ _ hk_b85
  have hk_b89 := hxkd146 _ _ hk_b89
  have hk_b93 := hxkd146 _ _ hk_b93
  have hk_b97 := hxkd146 _ _ hk_b97
  have hk_b101 := hxkd146 _ _ hk_b101
  have hk_b105 := hxkd146 _ _ hk_b105
  have hk_b109 := hxkd146 _ _ hk_b109
  have hk_b113 := hxkd146 _ _ hk_b113
  have hk_b117 := hxkd146 _ _ hk_b117
  have hk_b129 := hxkd146 _ _ hk_b129
  have hk_b133 := hxkd146 _ _ hk_b133
  have hk_b137 := hxkd146 _ _ hk_b137
  have hk_b141 := hxkd146 _ _ hk_b141
  clear eS144 eb145 hk_new
  refine fw_putFr C hnm R ft_field_7_120 rfl ft_nonest_7_120 rfl rfl (by decide) hk_b145 hk_a0 d_Mo_init_316 (fun H locs R => ?_)
  obtain ⟨S147, eS147, hE⟩ := fw_let_ex hE
  rw [← eS147] at R
  clear eS147
  refine lv_aload_n hx hb d_Mo_init_319 rfl (lv_at hl 0 rfl) ?_
  refine lv_bipush (v := 9) hx hb d_Mo_init_320 (by decide) ?_
  refine fw_newai C R (by decide) (by decide) (by decide) (by decide) d_Mo_init_322 (fun H kd150 hxkd150 hk_new R => ?_)
  refine W.widen (k := 35) (n := 7020) (by decide) (by decide) ?_
  obtain ⟨b149, eb149, hE⟩ := fw_let_ex hE
  obtain ⟨S148, eS148, hE⟩ := fw_let_ex hE
  rw [← eS148] at R
  rw [← eb149] at hk_new ⊢
  have hk_b149 := hk_new
  have hXkd150 := fw_X.tr hXkd146 hxkd150
  have hk_a0 := hxkd150 _ _ hk_a0
  have hk_b2 := hxkd150 _ _ hk_b2
  have hk_b6 := hxkd150 _ _ hk_b6
  have hk_b10 := hxkd150 _ _ hk_b10
  have hk_b14 := hxkd150 _ _ hk_b14
  have hk_b18 := hxkd150 _ _ hk_b18
  have hk_b25 := hxkd150 _ _ hk_b25
  have hk_b29 := hxkd150 _ _ hk_b29
  have hk_b33 := hxkd150 _ _ hk_b33
  have hk_b37 := hxkd150 _ _ hk_b37
  have hk_b41 := hxkd150 _ _ hk_b41
  have hk_b45 := hxkd150 _ _ hk_b45
  have hk_b49 := hxkd150 _ _ hk_b49
  have hk_b53 := hxkd150 _ _ hk_b53
  have hk_b57 := hxkd150 _ _ hk_b57
  have hk_b61 := hxkd150 _ _ hk_b61
  have hk_b65 := hxkd150 _ _ hk_b65
  have hk_b69 := hxkd150 _ _ hk_b69
  have hk_b73 := hxkd150 _ _ hk_b73
  have hk_b77 := hxkd150 _ _ hk_b77
  have hk_b81 := hxkd150 _ _ hk_b81
  have hk_b85 := hxkd150 _ _ hk_b85
  have hk_b89 := hxkd150 _ _ hk_b89
  have hk_b93 := hxkd150 _ _ hk_b93
  have hk_b97 := hxkd150 _ _ hk_b97
  have hk_b101 := hxkd150 _ _ hk_b101
  have hk_b105 := hxkd150 _ _ hk_b105
  have hk_b109 := hxkd150 _ _ hk_b109
  have hk_b113 := hxkd150 _ _ hk_b113
  have hk_b117 := hxkd150 _ _ hk_b117
  have hk_b129 := hxkd150 _ _ hk_b129
  have hk_b133 := hxkd150 _ _ hk_b133
  have hk_b137 := hxkd150 _ _ hk_b137
  have hk_b141 := hxkd150 _ _ hk_b141
  have hk_b145 := hxkd150 _ _ hk_b145
  clear eS148 eb149 hk_new
  refine fw_putFr C hnm R ft_field_7_123 rfl ft_nonest_7_123 rfl rfl (by decide) hk_b149 hk_a0 d_Mo_init_324 (fun H locs R => ?_)
  obtain ⟨S151, eS151, hE⟩ := fw_let_ex hE
  rw [← eS151] at R
  clear eS151
  refine lv_aload_n hx hb d_Mo_init_327 rfl (lv_at hl 0 rfl) ?_
  refine lv_bipush (v := 9) hx hb d_Mo_init_328 (by decide) ?_
  refine fw_newai C R (by decide) (by decide) (by decide) (by decide) d_Mo_init_330 (fun H kd154 hxkd154 hk_new R => ?_)
  refine W.widen (k := 36) (n := 7029) (by decide) (by decide) ?_
  obtain ⟨b153, eb153, hE⟩ := fw_let_ex hE
  obtain ⟨S152, eS152, hE⟩ := fw_let_ex hE
  rw [← eS152] at R
  rw [← eb153] at hk_new ⊢
  have hk_b153 := hk_new
  have hXkd154 := fw_X.tr hXkd150 hxkd154
  have hk_a0 := hxkd154 _ _ hk_a0
  have hk_b2 := hxkd154 _ _ hk_b2
  have hk_b6 := hxkd154 _ _ hk_b6
  have hk_b10 := hxkd154 _ _ hk_b10
  have hk_b14 := hxkd154 _ _ hk_b14
  have hk_b18 := hxkd154 _ _ hk_b18
  have hk_b25 := hxkd154 _ _ hk_b25
  have hk_b29 := hxkd154 _ _ hk_b29
  have hk_b33 := hxkd154 _ _ hk_b33
  have hk_b37 := hxkd154 _ _ hk_b37
  have hk_b41 := hxkd154 _ _ hk_b41
  have hk_b45 := hxkd154 _ _ hk_b45
  have hk_b49 := hxkd154 _ _ hk_b49
  have hk_b53 := hxkd154 _ _ hk_b53
  have hk_b57 := hxkd154 _ _ hk_b57
  have hk_b61 := hxkd154 _ _ hk_b61
  have hk_b65 := hxkd154 _ _ hk_b65
  have hk_b69 := hxkd154 _ _ hk_b69
  have hk_b73 := hxkd154 _ _ hk_b73
  have hk_b77 := hxkd154 _ _ hk_b77
  have hk_b81 := hxkd154 _ _ hk_b81
  have hk_b85 := hxkd154 _ _ hk_b85
  have hk_b89 := hxkd154 _ _ hk_b89
  have hk_b93 := hxkd154 _ _ hk_b93
  have hk_b97 := hxkd154 _ _ hk_b97
  have hk_b101 := hxkd154 _ _ hk_b101
  have hk_b105 := hxkd154 _ _ hk_b105
  have hk_b109 := hxkd154 _ _ hk_b109
  have hk_b113 := hxkd154 _ _ hk_b113
  have hk_b117 := hxkd154 _ _ hk_b117
  have hk_b129 := hxkd154 _ _ hk_b129
  have hk_b133 := hxkd154 _ _ hk_b133
  have hk_b137 := hxkd154 _ _ hk_b137
  have hk_b141 := hxkd154 _ _ hk_b141
  have hk_b145 := hxkd154 _ _ hk_b145
  have hk_b149 := hxkd154 _ _ hk_b149
  clear eS152 eb153 hk_new
  refine fw_putFr C hnm R ft_field_7_126 rfl ft_nonest_7_126 rfl rfl (by decide) hk_b153 hk_a0 d_Mo_init_332 (fun H locs R => ?_)
  obtain ⟨S155, eS155, hE⟩ := fw_let_ex hE
  rw [← eS155] at R
  clear eS155
  refine lv_aload_n hx hb d_Mo_init_335 rfl (lv_at hl 0 rfl) ?_
  refine lv_sipush (v := 540) hx hb d_Mo_init_336 (by decide) ?_
  refine fw_newai C R (by decide) (by decide) (by decide) (by decide) d_Mo_init_339 (fun H kd158 hxkd158 hk_new R => ?_)
  refine W.widen (k := 37) (n := 7569) (by decide) (by decide) ?_
  obtain ⟨b157, eb157, hE⟩ := fw_let_ex hE
  obtain ⟨S156, eS156, hE⟩ := fw_let_ex hE
  rw [← eS156] at R
  rw [← eb157] at hk_new ⊢
  have hk_b157 := hk_new
  have hXkd158 := fw_X.tr hXkd154 hxkd158
  have hk_a0 := hxkd158 _ _ hk_a0
  have hk_b2 := hxkd158 _ _ hk_b2
  have hk_b6 := hxkd158 _ _ hk_b6
  have hk_b10 := hxkd158 _ _ hk_b10
  have hk_b14 := hxkd158 _ _ hk_b14
  have hk_b18 := hxkd158 _ _ hk_b18
  have hk_b25 := hxkd158 _ _ hk_b25
  have hk_b29 := hxkd158 _ _ hk_b29
  have hk_b33 := hxkd158 _ _ hk_b33
  have hk_b37 := hxkd158 _ _ hk_b37
  have hk_b41 := hxkd158 _ _ hk_b41
  have hk_b45 := hxkd158 _ _ hk_b45
  have hk_b49 := hxkd158 _ _ hk_b49
  have hk_b53 := hxkd158 _ _ hk_b53
  have hk_b57 := hxkd158 _ _ hk_b57
  have hk_b61 := hxkd158 _ _ hk_b61
  have hk_b65 := hxkd158 _ _ hk_b65
  have hk_b69 := hxkd158 _ _ hk_b69
  have hk_b73 := hxkd158 _ _ hk_b73
  have hk_b77 := hxkd158 _ _ hk_b77
  have hk_b81 := hxkd158 _ _ hk_b81
  have hk_b85 := hxkd158 _ _ hk_b85
  have hk_b89 := hxkd158 _ _ hk_b89
  have hk_b93 := hxkd158 _ _ hk_b93
  have hk_b97 := hxkd158 _ _ hk_b97
  have hk_b101 := hxkd158 _ _ hk_b101
  have hk_b105 := hxkd158 _ _ hk_b105
  have hk_b109 := hxkd158 _ _ hk_b109
  have hk_b113 := hxkd158 _ _ hk_b113
  have hk_b117 := hxkd158 _ _ hk_b117
  have hk_b129 := hxkd158 _ _ hk_b129
  have hk_b133 := hxkd158 _ _ hk_b133
  have hk_b137 := hxkd158 _ _ hk_b137
  have hk_b141 := hxkd158 _ _ hk_b141
  have hk_b145 := hxkd158 _ _ hk_b145
  have hk_b149 := hxkd158 _ _ hk_b149
  have hk_b153 := hxkd158 _ _ hk_b153
  clear eS156 eb157 hk_new
  refine fw_putFr C hnm R ft_field_7_129 rfl ft_nonest_7_129 rfl rfl (by decide) hk_b157 hk_a0 d_Mo_init_341 (fun H locs R => ?_)
  obtain ⟨S159, eS159, hE⟩ := fw_let_ex hE
  rw [← eS159] at R
  clear eS159
  refine lv_aload_n hx hb d_Mo_init_344 rfl (lv_at hl 0 rfl) ?_
  refine lv_sipush (v := 540) hx hb d_Mo_init_345 (by decide) ?_
  refine fw_newai C R (by decide) (by decide) (by decide) (by decide) d_Mo_init_348 (fun H kd162 hxkd162 hk_new R => ?_)
  refine W.widen (k := 38) (n := 8109) (by decide) (by decide) ?_
  obtain ⟨b161, eb161, hE⟩ := fw_let_ex hE
  obtain ⟨S160, eS160, hE⟩ := fw_let_ex hE
  rw [← eS160] at R
  rw [← eb161] at hk_new ⊢
  have hk_b161 := hk_new
  have hXkd162 := fw_X.tr hXkd158 hxkd162
  have hk_a0 := hxkd162 _ _ hk_a0
  have hk_b2 := hxkd162 _ _ hk_b2
  have hk_b6 := hxkd162 _ _ hk_b6
  have hk_b10 := hxkd162 _ _ hk_b10
  have hk_b14 := hxkd162 _ _ hk_b14
  have hk_b18 := hxkd162 _ _ hk_b18
  have hk_b25 := hxkd162 _ _ hk_b25
  have hk_b29 := hxkd162 _ _ hk_b29
  have hk_b33 := hxkd162 _ _ hk_b33
  have hk_b37 := hxkd162 _ _ hk_b37
  have hk_b41 := hxkd162 _ _ hk_b41
  have hk_b45 := hxkd162 _ _ hk_b45
  have hk_b49 := hxkd162 _ _ hk_b49
  have hk_b53 := hxkd162 _ _ hk_b53
  have hk_b57 := hxkd162 _ _ hk_b57
  have hk_b61 := hxkd162 _ _ hk_b61
  have hk_b65 := hxkd162 _ _ hk_b65
  have hk_b69 := hxkd162 _ _ hk_b69
  have hk_b73 := hxkd162 _ _ hk_b73
  have hk_b77 := hxkd162 _ _ hk_b77
  have hk_b81 := hxkd162 _ _ hk_b81
  have hk_b85 := hxkd162 _ _ hk_b85
  have hk_b89 := hxkd162 _ _ hk_b89
  have hk_b93 := hxkd162 _ _ hk_b93
  have hk_b97 := hxkd162 _ _ hk_b97
  have hk_b101 := hxkd162 _ _ hk_b101
  have hk_b105 := hxkd162 _ _ hk_b105
  have hk_b109 := hxkd162 _ _ hk_b109
  have hk_b113 := hxkd162 _ _ hk_b113
  have hk_b117 := hxkd162 _ _ hk_b117
  have hk_b129 := hxkd162 _ _ hk_b129
  have hk_b133 := hxkd162 _ _ hk_b133
  have hk_b137 := hxkd162 _ _ hk_b137
  have hk_b141 := hxkd162 _ _ hk_b141
  have hk_b145 := hxkd162 _ _ hk_b145
  have hk_b149 := hxkd162 _ _ hk_b149
  have hk_b153 := hxkd162 _ _ hk_b153
  have hk_b157 := hxkd162 _ _ hk_b157
  clear eS160 eb161 hk_new
  refine fw_putFr C hnm R ft_field_7_132 rfl ft_nonest_7_132 rfl rfl (by decide) hk_b161 hk_a0 d_Mo_init_350 (fun H locs R => ?_)
  obtain ⟨S163, eS163, hE⟩ := fw_let_ex hE
  rw [← eS163] at R
  clear eS163
  refine lv_aload_n hx hb d_Mo_init_353 rfl (lv_at hl 0 rfl) ?_
  refine lv_bipush (v := 24) hx hb d_Mo_init_354 (by decide) ?_
  refine fw_newai C R (by decide) (by decide) (by decide) (by decide) d_Mo_init_356 (fun H kd166 hxkd166 hk_new R => ?_)
  refine W.widen (k := 39) (n := 8133) (by decide) (by decide) ?_
  obtain ⟨b165, eb165, hE⟩ := fw_let_ex hE
  obtain ⟨S164, eS164, hE⟩ := fw_let_ex hE
  rw [← eS164] at R
  rw [← eb165] at hk_new ⊢
  have hk_b165 := hk_new
  have hXkd166 := fw_X.tr hXkd162 hxkd166
  have hk_a0 := hxkd166 _ _ hk_a0
  have hk_b2 := hxkd166 _ _ hk_b2
  have hk_b6 := hxkd166 _ _ hk_b6
  have hk_b10 := hxkd166 _ _ hk_b10
  have hk_b14 := hxkd166 _ _ hk_b14
  have hk_b18 := hxkd166 _ _ hk_b18
  have hk_b25 := hxkd166 _ _ hk_b25
  have hk_b29 := hxkd166 _ _ hk_b29
  have hk_b33 := hxkd166 _ _ hk_b33
  have hk_b37 := hxkd166 _ _ hk_b37
  have hk_b41 := hxkd166 _ _ hk_b41
  have hk_b45 := hxkd166 _ _ hk_b45
  have hk_b49 := hxkd166 _ _ hk_b49
  have hk_b53 := hxkd166 _ _ hk_b53
  have hk_b57 := hxkd166 _ _ hk_b57
  have hk_b61 := hxkd166 _ _ hk_b61
  have hk_b65 := hxkd166 _ _ hk_b65
  have hk_b69 := hxkd166 _ _ hk_b69
  have hk_b73 := hxkd166 _ _ hk_b73
  have hk_b77 := hxkd166 _ _ hk_b77
  have hk_b81 := hxkd166 _ _ hk_b81
  have hk_b85 := hxkd166 _ _ hk_b85
  have hk_b89 := hxkd166 _ _ hk_b89
  have hk_b93 := hxkd166 _ _ hk_b93
  have hk_b97 := hxkd166 _ _ hk_b97
  have hk_b101 := hxkd166 _ _ hk_b101
  have hk_b105 := hxkd166 _ _ hk_b105
  have hk_b109 := hxkd166 _ _ hk_b109
  have hk_b113 := hxkd166 _ _ hk_b113
  have hk_b117 := hxkd166 _ _ hk_b117
  have hk_b129 := hxkd166 _ _ hk_b129
  have hk_b133 := hxkd166 _ _ hk_b133
  have hk_b137 := hxkd166 _ _ hk_b137
  have hk_b141 := hxkd166 _ _ hk_b141
  have hk_b145 := hxkd166 _ _ hk_b145
  have hk_b149 := hxkd166 _ _ hk_b149
  have hk_b153 := hxkd166 _ _ hk_b153
  have hk_b157 := hxkd166 _ _ hk_b157
  have hk_b161 := hxkd166 _ _ hk_b161
  clear eS164 eb165 hk_new
  refine fw_putFr C hnm R ft_field_7_135 rfl ft_nonest_7_135 rfl rfl (by decide) hk_b165 hk_a0 d_Mo_init_358 (fun H locs R => ?_)
  obtain ⟨S167, eS167, hE⟩ := fw_let_ex hE
  rw [← eS167] at R
  clear eS167
  refine lv_aload_n hx hb d_Mo_init_361 rfl (lv_at hl 0 rfl) ?_
  refine fw_getr C R ft_field_7_7 hk_a0 rfl rfl d_Mo_init_362 (fun hq => ?_) (fun b168 hq hk_b168 => ?_)
  · replace hE := fw_om_none hq hE
    refine lv_iconst (v := 4) hx hb d_Mo_init_365 (by decide) ?_
    refine lv_iconst (v := 1) hx hb d_Mo_init_366 (by decide) ?_
    cases hE
  · replace hE := fw_om_some hq hE
    refine lv_iconst (v := 4) hx hb d_Mo_init_365 (by decide) ?_
    refine lv_iconst (v := 1) hx hb d_Mo_init_366 (by decide) ?_
    obtain ⟨hi169, hE⟩ := fw_ifn hE
    refine fw_zast C R (by decide) hk_b168 (by decide) hi169 d_Mo_init_367 (fun H locs R => ?_)
    obtain ⟨S170, eS170, hE⟩ := fw_let_ex hE
    rw [← eS170] at R
    clear eS170
    cases hE
    refine W.widen (k := 39) (n := 8133) (Nat.le_of_ble_eq_true rfl) (Nat.le_of_ble_eq_true rfl) ?_
    exact fw_vret C hXkd166 trivial R d_Mo_init_368
set_option maxHeartbeats 4000000 in
set_option maxRecDepth 100000 in
theorem ct_Mo_isIn (l : Launch) (G : fw_G) (kd0 : Nat → Option Nat) (S0 : fw_S) (p0 : Int32) (p1 : Int32) (p2 : Int32) (r0 : Int32) (hE : F_Mo_isIn p0 p1 p2 S0 = some r0) : fw_M l G y_Mo_isIn prog_9_method_2_code 3 (some .boolean) 0 0 0 0 kd0 S0 ([.int p0, .int p1, .int p2] : List Value) (some (.int r0)) S0 (fun k => k = kd0) := by
  refine fw_start (by decide) (Nat.le_of_ble_eq_true rfl) ?_
  intro p e s m below meth c ls C hnm R hl
  clear hnm
  have hx := C.1
  have hb := C.2.1
  have hl : lv_has ls 3 [(0, .int p0), (1, .int p1), (2, .int p2)] := hl
  unfold F_Mo_isIn at hE
  refine lv_iload_n hx hb d_Mo_isIn_0 rfl (lv_at hl 0 rfl) ?_
  refine lv_iload_n hx hb d_Mo_isIn_1 rfl (lv_at hl 1 rfl) ?_
  refine lv_icmp_lt (tgt := 14) hx hb d_Mo_isIn_2 (by decide) (fun hc => ?_) (fun hc => ?_)
  · replace hE := fw_if_t hc hE
    refine lv_iconst (v := 0) hx hb d_Mo_isIn_14 (by decide) ?_
    cases hE
    exact fw_zret C (by decide) fw_X.rf rfl R d_Mo_isIn_15
  · replace hE := fw_if_f hc hE
    refine lv_iload_n hx hb d_Mo_isIn_5 rfl (lv_at hl 0 rfl) ?_
    refine lv_iload_n hx hb d_Mo_isIn_6 rfl (lv_at hl 2 rfl) ?_
    refine lv_icmp_gt (tgt := 14) hx hb d_Mo_isIn_7 (by decide) (fun hc => ?_) (fun hc => ?_)
    · replace hE := fw_if_t hc hE
      refine lv_iconst (v := 0) hx hb d_Mo_isIn_14 (by decide) ?_
      cases hE
      exact fw_zret C (by decide) fw_X.rf rfl R d_Mo_isIn_15
    · replace hE := fw_if_f hc hE
      refine lv_iconst (v := 1) hx hb d_Mo_isIn_10 (by decide) ?_
      refine lv_goto (tgt := 15) hx hb d_Mo_isIn_11 (by decide) ?_
      cases hE
      exact fw_zret C (by decide) fw_X.rf rfl R d_Mo_isIn_15
set_option maxHeartbeats 4000000 in
set_option maxRecDepth 100000 in
theorem ct_Mo_send (l : Launch) (G : fw_G) (kd0 : Nat → Option Nat) (S0 : fw_S) (a0 : Nat) (p1 : Int32) (p2 : Int32) (p3 : Int32) (r0 : Int32) (S' : fw_S) (hk_a0 : kd0 a0 = some 7) (hE : F_Mo_send a0 p1 p2 p3 S0 = some (r0, S')) : fw_M l G y_Mo_send prog_9_method_3_code 7 (some .boolean) 0 0 0 0 kd0 S0 ([.ref a0, .int p1, .int p2, .int p3] : List Value) (some (.int r0)) S' (fun k => k = kd0) := by
  refine fw_start (by decide) (Nat.le_of_ble_eq_true rfl) ?_
  intro p e s m below meth c ls C hnm R hl
  clear hnm
  have hx := C.1
  have hb := C.2.1
  have hl : lv_has ls 7 [(0, .ref a0), (1, .int p1), (2, .int p2), (3, .int p3)] := hl
  have h_j155 : ∀ v0 : Nat, ∀ v1 : Int32, ∀ v4 : Int32, ∀ v5 : Int32, ∀ S0 : fw_S, kd0 v0 = some 7 → ∀ (H : Heap) (locs : List Loc) (ls : Array Slot), fw_R G kd0 S0 H locs → lv_has ls 7 [(0, .ref v0), (1, .int v1), (4, .int v4), (5, .int v5)] → F_Mo_send_j155 v0 v1 v4 v5 S0 = some (r0, S') → W p l e { frames := 0, cells := 0, slots := 0, locals := 0 } s m ([.ref a0, .int p1, .int p2, .int p3] : List Value).toArray below meth c H locs 0 0 (MQ below (fw_Q G kd0 (some (.int r0)) S' (fun k => k = kd0)) ([.ref a0, .int p1, .int p2, .int p3] : List Value).toArray s 0 0 (fw_A G)) (F0 m 155 ls []) := by
    intro v0 v1 v4 v5 S0 hk_v0 H locs ls R hl hE
    unfold F_Mo_send_j155 at hE
    refine lv_aload_n hx hb d_Mo_send_155 rfl (lv_at hl 0 rfl) ?_
    refine fw_getr C R ft_field_7_13 hk_v0 rfl rfl d_Mo_send_156 (fun hq => ?_) (fun b22 hq hk_b22 => ?_)
    · replace hE := fw_om_none hq hE
      refine lv_iload hx hb d_Mo_send_159 (lv_at hl 2 rfl) ?_
      refine lv_iconst (v := 4) hx hb d_Mo_send_161 (by decide) ?_
      refine lv_iadd hx hb d_Mo_send_162 ?_
      refine lv_aload_n hx hb d_Mo_send_163 rfl (lv_at hl 0 rfl) ?_
      refine fw_get (v := .int (fw_g S0 v0 49)) C R ft_field_7_138 hk_v0 rfl d_Mo_send_164 ?_
      refine lv_iadd hx hb d_Mo_send_167 ?_
      refine lv_iload hx hb d_Mo_send_168 (lv_at hl 3 rfl) ?_
      cases hE
    · replace hE := fw_om_some hq hE
      refine lv_iload hx hb d_Mo_send_159 (lv_at hl 2 rfl) ?_
      refine lv_iconst (v := 4) hx hb d_Mo_send_161 (by decide) ?_
      refine lv_iadd hx hb d_Mo_send_162 ?_
      refine lv_aload_n hx hb d_Mo_send_163 rfl (lv_at hl 0 rfl) ?_
      refine fw_get (v := .int (fw_g S0 v0 49)) C R ft_field_7_138 hk_v0 rfl d_Mo_send_164 ?_
      refine lv_iadd hx hb d_Mo_send_167 ?_
      refine lv_iload hx hb d_Mo_send_168 (lv_at hl 3 rfl) ?_
      obtain ⟨hi23, hE⟩ := fw_ifn hE
      refine fw_iast C R (by decide) hk_b22 hi23 d_Mo_send_170 (fun H locs R => ?_)
      obtain ⟨S24, eS24, hE⟩ := fw_let_ex hE
      rw [← eS24] at R
      clear eS24
      refine lv_aload_n hx hb d_Mo_send_171 rfl (lv_at hl 0 rfl) ?_
      refine fw_getr C R ft_field_7_17 hk_v0 rfl rfl d_Mo_send_172 (fun hq => ?_) (fun b25 hq hk_b25 => ?_)
      · replace hE := fw_om_none hq hE
        refine lv_iload_n hx hb d_Mo_send_175 rfl (lv_at hl 1 rfl) ?_
        refine lv_dup2_11 hx hb d_Mo_send_176 rfl rfl ?_
        cases hE
      · replace hE := fw_om_some hq hE
        refine lv_iload_n hx hb d_Mo_send_175 rfl (lv_at hl 1 rfl) ?_
        refine lv_dup2_11 hx hb d_Mo_send_176 rfl rfl ?_
        obtain ⟨hi26, hE⟩ := fw_ifn hE
        refine fw_iald C R (by decide) hk_b25 hi26 d_Mo_send_177 ?_
        refine lv_aload_n hx hb d_Mo_send_178 rfl (lv_at hl 0 rfl) ?_
        refine fw_get (v := .int (fw_g S24 v0 49)) C R ft_field_7_138 hk_v0 rfl d_Mo_send_179 ?_
        refine lv_iconst (v := 5) hx hb d_Mo_send_182 (by decide) ?_
        refine lv_iadd hx hb d_Mo_send_183 ?_
        refine lv_iadd hx hb d_Mo_send_184 ?_
        obtain ⟨hi27, hE⟩ := fw_ifn hE
        refine fw_iast C R (by decide) hk_b25 hi27 d_Mo_send_185 (fun H locs R => ?_)
        obtain ⟨S28, eS28, hE⟩ := fw_let_ex hE
        rw [← eS28] at R
        clear eS28
        refine lv_iconst (v := 1) hx hb d_Mo_send_186 (by decide) ?_
        cases hE
        exact fw_zret C (by decide) fw_X.rf rfl R d_Mo_send_187
  have h_l109 : ∀ (n : Nat), ∀ v0 : Nat, ∀ v1 : Int32, ∀ v4 : Int32, ∀ v5 : Int32, ∀ v6 : Int32, ∀ S0 : fw_S, kd0 v0 = some 7 → ∀ (H : Heap) (locs : List Loc) (ls : Array Slot), fw_R G kd0 S0 H locs → lv_has ls 7 [(0, .ref v0), (1, .int v1), (4, .int v4), (5, .int v5), (6, .int v6)] → F_Mo_send_l109 n v0 v1 v4 v5 v6 S0 = some (r0, S') → W p l e { frames := 0, cells := 0, slots := 0, locals := 0 } s m ([.ref a0, .int p1, .int p2, .int p3] : List Value).toArray below meth c H locs 0 0 (MQ below (fw_Q G kd0 (some (.int r0)) S' (fun k => k = kd0)) ([.ref a0, .int p1, .int p2, .int p3] : List Value).toArray s 0 0 (fw_A G)) (F0 m 109 ls []) := by
    intro n
    induction n with
    | zero =>
      intro v0 v1 v4 v5 v6 S0 hk_v0 H locs ls R hl hE
      rw [F_Mo_send_l109] at hE
      cases hE
    | succ n ih =>
      intro v0 v1 v4 v5 v6 S0 hk_v0 H locs ls R hl hE
      rw [F_Mo_send_l109] at hE
      refine lv_iload hx hb d_Mo_send_109 (lv_at hl 4 rfl) ?_
      refine lv_aload_n hx hb d_Mo_send_111 rfl (lv_at hl 0 rfl) ?_
      refine fw_get (v := .int (fw_g S0 v0 49)) C R ft_field_7_138 hk_v0 rfl d_Mo_send_112 ?_
      refine lv_icmp_ge (tgt := 155) hx hb d_Mo_send_115 (by decide) (fun hc => ?_) (fun hc => ?_)
      · replace hE := fw_if_t hc hE
        exact h_j155 _ _ _ _ _ hk_v0 _ _ _ R (lv_sub hl [0, 1, 2, 3] rfl) hE
      · replace hE := fw_if_f hc hE
        refine lv_aload_n hx hb d_Mo_send_118 rfl (lv_at hl 0 rfl) ?_
        refine fw_getr C R ft_field_7_13 hk_v0 rfl rfl d_Mo_send_119 (fun hq => ?_) (fun b29 hq hk_b29 => ?_)
        · replace hE := fw_om_none hq hE
          refine lv_iload hx hb d_Mo_send_122 (lv_at hl 2 rfl) ?_
          refine lv_iconst (v := 4) hx hb d_Mo_send_124 (by decide) ?_
          refine lv_iadd hx hb d_Mo_send_125 ?_
          refine lv_iload hx hb d_Mo_send_126 (lv_at hl 4 rfl) ?_
          refine lv_iadd hx hb d_Mo_send_128 ?_
          refine lv_aload_n hx hb d_Mo_send_129 rfl (lv_at hl 0 rfl) ?_
          refine fw_getr C R ft_field_7_135 hk_v0 rfl rfl d_Mo_send_130 (fun hq => ?_) (fun b30 hq hk_b30 => ?_)
          · replace hE := fw_om_none hq hE
            refine lv_iload hx hb d_Mo_send_133 (lv_at hl 4 rfl) ?_
            cases hE
          · replace hE := fw_om_some hq hE
            refine lv_iload hx hb d_Mo_send_133 (lv_at hl 4 rfl) ?_
            obtain ⟨hi31, hE⟩ := fw_ifn hE
            refine fw_iald C R (by decide) hk_b30 hi31 d_Mo_send_135 ?_
            cases hE
        · replace hE := fw_om_some hq hE
          refine lv_iload hx hb d_Mo_send_122 (lv_at hl 2 rfl) ?_
          refine lv_iconst (v := 4) hx hb d_Mo_send_124 (by decide) ?_
          refine lv_iadd hx hb d_Mo_send_125 ?_
          refine lv_iload hx hb d_Mo_send_126 (lv_at hl 4 rfl) ?_
          refine lv_iadd hx hb d_Mo_send_128 ?_
          refine lv_aload_n hx hb d_Mo_send_129 rfl (lv_at hl 0 rfl) ?_
          refine fw_getr C R ft_field_7_135 hk_v0 rfl rfl d_Mo_send_130 (fun hq => ?_) (fun b32 hq hk_b32 => ?_)
          · replace hE := fw_om_none hq hE
            refine lv_iload hx hb d_Mo_send_133 (lv_at hl 4 rfl) ?_
            cases hE
          · replace hE := fw_om_some hq hE
            refine lv_iload hx hb d_Mo_send_133 (lv_at hl 4 rfl) ?_
            obtain ⟨hi33, hE⟩ := fw_ifn hE
            refine fw_iald C R (by decide) hk_b32 hi33 d_Mo_send_135 ?_
            obtain ⟨hi34, hE⟩ := fw_ifn hE
            refine fw_iast C R (by decide) hk_b29 hi34 d_Mo_send_136 (fun H locs R => ?_)
            obtain ⟨S35, eS35, hE⟩ := fw_let_ex hE
            rw [← eS35] at R
            clear eS35
            refine lv_iload hx hb d_Mo_send_137 (lv_at hl 3 rfl) ?_
            refine lv_aload_n hx hb d_Mo_send_139 rfl (lv_at hl 0 rfl) ?_
            refine fw_getr C R ft_field_7_135 hk_v0 rfl rfl d_Mo_send_140 (fun hq => ?_) (fun b36 hq hk_b36 => ?_)
            · replace hE := fw_om_none hq hE
              refine lv_iload hx hb d_Mo_send_143 (lv_at hl 4 rfl) ?_
              cases hE
            · replace hE := fw_om_some hq hE
              refine lv_iload hx hb d_Mo_send_143 (lv_at hl 4 rfl) ?_
              obtain ⟨hi37, hE⟩ := fw_ifn hE
              refine fw_iald C R (by decide) hk_b36 hi37 d_Mo_send_145 ?_
              refine lv_ixor hx hb d_Mo_send_146 ?_
              refine lv_topi (fun x38 ex38 => ?_)
              replace hE := fw_let_use ex38 hE
              clear ex38
              refine lv_istore (lv' := [(5, .int x38), (0, .ref v0), (1, .int v1), (4, .int v4), (6, .int v6)]) hx hb d_Mo_send_147 hl (by decide) rfl (fun ls hl => ?_)
              refine lv_iinc (v := (v6 + (1 : Int32))) (lv' := [(6, .int (v6 + (1 : Int32))), (5, .int x38), (0, .ref v0), (1, .int v1), (4, .int v4)]) hx hb d_Mo_send_149 hl (k := 4) rfl rfl (by decide) rfl (fun ls hl => ?_)
              refine lv_goto (tgt := 109) hx hb d_Mo_send_152 (by decide) ?_
              exact ih _ _ _ _ _ _ hk_v0 _ _ _ R (lv_sub hl [2, 3, 4, 1, 0] rfl) hE
  unfold F_Mo_send at hE
  refine lv_aload_n hx hb d_Mo_send_0 rfl (lv_at hl 0 rfl) ?_
  refine fw_getr C R ft_field_7_7 hk_a0 rfl rfl d_Mo_send_1 (fun hq => ?_) (fun b1 hq hk_b1 => ?_)
  · replace hE := fw_om_none hq hE
    refine lv_iload_n hx hb d_Mo_send_4 rfl (lv_at hl 1 rfl) ?_
    cases hE
  · replace hE := fw_om_some hq hE
    refine lv_iload_n hx hb d_Mo_send_4 rfl (lv_at hl 1 rfl) ?_
    obtain ⟨hi2, hE⟩ := fw_ifn hE
    refine fw_zald C R (by decide) hk_b1 hi2 d_Mo_send_5 ?_
    refine lv_if_eq (tgt := 28) hx hb d_Mo_send_6 (by decide) (fun hc => ?_) (fun hc => ?_)
    · replace hE := fw_if_t hc hE
      refine lv_aload_n hx hb d_Mo_send_28 rfl (lv_at hl 0 rfl) ?_
      refine lv_dup hx hb d_Mo_send_29 rfl ?_
      refine fw_get (v := .int (fw_g S0 a0 10)) C R ft_field_7_141 hk_a0 rfl d_Mo_send_30 ?_
      refine lv_iconst (v := 1) hx hb d_Mo_send_33 (by decide) ?_
      refine lv_iadd hx hb d_Mo_send_34 ?_
      refine fw_puti C R ft_field_7_141 rfl hk_a0 d_Mo_send_35 (fun H locs R => ?_)
      obtain ⟨S3, eS3, hE⟩ := fw_let_ex hE
      rw [← eS3] at R
      clear eS3
      refine lv_iconst (v := 0) hx hb d_Mo_send_38 (by decide) ?_
      cases hE
      exact fw_zret C (by decide) fw_X.rf rfl R d_Mo_send_39
    · replace hE := fw_if_f hc hE
      refine lv_aload_n hx hb d_Mo_send_9 rfl (lv_at hl 0 rfl) ?_
      refine fw_getr C R ft_field_7_17 hk_a0 rfl rfl d_Mo_send_10 (fun hq => ?_) (fun b4 hq hk_b4 => ?_)
      · replace hE := fw_om_none hq hE
        refine lv_iload_n hx hb d_Mo_send_13 rfl (lv_at hl 1 rfl) ?_
        cases hE
      · replace hE := fw_om_some hq hE
        refine lv_iload_n hx hb d_Mo_send_13 rfl (lv_at hl 1 rfl) ?_
        obtain ⟨hi5, hE⟩ := fw_ifn hE
        refine fw_iald C R (by decide) hk_b4 hi5 d_Mo_send_14 ?_
        refine lv_aload_n hx hb d_Mo_send_15 rfl (lv_at hl 0 rfl) ?_
        refine fw_get (v := .int (fw_g S0 a0 49)) C R ft_field_7_138 hk_a0 rfl d_Mo_send_16 ?_
        refine lv_iadd hx hb d_Mo_send_19 ?_
        refine lv_iconst (v := 5) hx hb d_Mo_send_20 (by decide) ?_
        refine lv_iadd hx hb d_Mo_send_21 ?_
        refine lv_sipush (v := 300) hx hb d_Mo_send_22 (by decide) ?_
        refine lv_icmp_le (tgt := 40) hx hb d_Mo_send_25 (by decide) (fun hc => ?_) (fun hc => ?_)
        · replace hE := fw_if_t hc hE
          refine lv_sipush (v := 300) hx hb d_Mo_send_40 (by decide) ?_
          refine lv_iload_n hx hb d_Mo_send_43 rfl (lv_at hl 1 rfl) ?_
          refine lv_imul hx hb d_Mo_send_44 ?_
          refine lv_aload_n hx hb d_Mo_send_45 rfl (lv_at hl 0 rfl) ?_
          refine fw_getr C R ft_field_7_17 hk_a0 rfl rfl d_Mo_send_46 (fun hq => ?_) (fun b6 hq hk_b6 => ?_)
          · replace hE := fw_om_none hq hE
            refine lv_iload_n hx hb d_Mo_send_49 rfl (lv_at hl 1 rfl) ?_
            cases hE
          · replace hE := fw_om_some hq hE
            refine lv_iload_n hx hb d_Mo_send_49 rfl (lv_at hl 1 rfl) ?_
            obtain ⟨hi7, hE⟩ := fw_ifn hE
            refine fw_iald C R (by decide) hk_b6 hi7 d_Mo_send_50 ?_
            refine lv_iadd hx hb d_Mo_send_51 ?_
            refine lv_topi (fun x8 ex8 => ?_)
            replace hE := fw_let_use ex8 hE
            clear ex8
            refine lv_istore (lv' := [(4, .int x8), (0, .ref a0), (1, .int p1), (2, .int p2), (3, .int p3)]) hx hb d_Mo_send_52 hl (by decide) rfl (fun ls hl => ?_)
            refine lv_iload_n hx hb d_Mo_send_54 rfl (lv_at hl 3 rfl) ?_
            refine lv_iload_n hx hb d_Mo_send_55 rfl (lv_at hl 4 rfl) ?_
            refine lv_ixor hx hb d_Mo_send_56 ?_
            refine lv_aload_n hx hb d_Mo_send_57 rfl (lv_at hl 1 rfl) ?_
            refine fw_get (v := .int (fw_g S0 a0 49)) C R ft_field_7_138 hk_a0 rfl d_Mo_send_58 ?_
            refine lv_ixor hx hb d_Mo_send_61 ?_
            refine lv_topi (fun x9 ex9 => ?_)
            replace hE := fw_let_use ex9 hE
            clear ex9
            refine lv_istore (lv' := [(5, .int x9), (4, .int x8), (0, .ref a0), (1, .int p1), (2, .int p2), (3, .int p3)]) hx hb d_Mo_send_62 hl (by decide) rfl (fun ls hl => ?_)
            refine lv_aload_n hx hb d_Mo_send_64 rfl (lv_at hl 2 rfl) ?_
            refine fw_getr C R ft_field_7_13 hk_a0 rfl rfl d_Mo_send_65 (fun hq => ?_) (fun b10 hq hk_b10 => ?_)
            · replace hE := fw_om_none hq hE
              refine lv_iload hx hb d_Mo_send_68 (lv_at hl 1 rfl) ?_
              refine lv_bipush (v := 126) hx hb d_Mo_send_70 (by decide) ?_
              cases hE
            · replace hE := fw_om_some hq hE
              refine lv_iload hx hb d_Mo_send_68 (lv_at hl 1 rfl) ?_
              refine lv_bipush (v := 126) hx hb d_Mo_send_70 (by decide) ?_
              obtain ⟨hi11, hE⟩ := fw_ifn hE
              refine fw_iast C R (by decide) hk_b10 hi11 d_Mo_send_72 (fun H locs R => ?_)
              obtain ⟨S12, eS12, hE⟩ := fw_let_ex hE
              rw [← eS12] at R
              clear eS12
              refine lv_aload_n hx hb d_Mo_send_73 rfl (lv_at hl 2 rfl) ?_
              refine fw_getr C R ft_field_7_13 hk_a0 rfl rfl d_Mo_send_74 (fun hq => ?_) (fun b13 hq hk_b13 => ?_)
              · replace hE := fw_om_none hq hE
                refine lv_iload hx hb d_Mo_send_77 (lv_at hl 1 rfl) ?_
                refine lv_iconst (v := 1) hx hb d_Mo_send_79 (by decide) ?_
                refine lv_iadd hx hb d_Mo_send_80 ?_
                refine lv_iload_n hx hb d_Mo_send_81 rfl (lv_at hl 4 rfl) ?_
                cases hE
              · replace hE := fw_om_some hq hE
                refine lv_iload hx hb d_Mo_send_77 (lv_at hl 1 rfl) ?_
                refine lv_iconst (v := 1) hx hb d_Mo_send_79 (by decide) ?_
                refine lv_iadd hx hb d_Mo_send_80 ?_
                refine lv_iload_n hx hb d_Mo_send_81 rfl (lv_at hl 4 rfl) ?_
                obtain ⟨hi14, hE⟩ := fw_ifn hE
                refine fw_iast C R (by decide) hk_b13 hi14 d_Mo_send_82 (fun H locs R => ?_)
                obtain ⟨S15, eS15, hE⟩ := fw_let_ex hE
                rw [← eS15] at R
                clear eS15
                refine lv_aload_n hx hb d_Mo_send_83 rfl (lv_at hl 2 rfl) ?_
                refine fw_getr C R ft_field_7_13 hk_a0 rfl rfl d_Mo_send_84 (fun hq => ?_) (fun b16 hq hk_b16 => ?_)
                · replace hE := fw_om_none hq hE
                  refine lv_iload hx hb d_Mo_send_87 (lv_at hl 1 rfl) ?_
                  refine lv_iconst (v := 2) hx hb d_Mo_send_89 (by decide) ?_
                  refine lv_iadd hx hb d_Mo_send_90 ?_
                  refine lv_iload_n hx hb d_Mo_send_91 rfl (lv_at hl 5 rfl) ?_
                  cases hE
                · replace hE := fw_om_some hq hE
                  refine lv_iload hx hb d_Mo_send_87 (lv_at hl 1 rfl) ?_
                  refine lv_iconst (v := 2) hx hb d_Mo_send_89 (by decide) ?_
                  refine lv_iadd hx hb d_Mo_send_90 ?_
                  refine lv_iload_n hx hb d_Mo_send_91 rfl (lv_at hl 5 rfl) ?_
                  obtain ⟨hi17, hE⟩ := fw_ifn hE
                  refine fw_iast C R (by decide) hk_b16 hi17 d_Mo_send_92 (fun H locs R => ?_)
                  obtain ⟨S18, eS18, hE⟩ := fw_let_ex hE
                  rw [← eS18] at R
                  clear eS18
                  refine lv_aload_n hx hb d_Mo_send_93 rfl (lv_at hl 2 rfl) ?_
                  refine fw_getr C R ft_field_7_13 hk_a0 rfl rfl d_Mo_send_94 (fun hq => ?_) (fun b19 hq hk_b19 => ?_)
                  · replace hE := fw_om_none hq hE
                    refine lv_iload hx hb d_Mo_send_97 (lv_at hl 1 rfl) ?_
                    refine lv_iconst (v := 3) hx hb d_Mo_send_99 (by decide) ?_
                    refine lv_iadd hx hb d_Mo_send_100 ?_
                    refine lv_aload_n hx hb d_Mo_send_101 rfl (lv_at hl 2 rfl) ?_
                    refine fw_get (v := .int (fw_g S18 a0 49)) C R ft_field_7_138 hk_a0 rfl d_Mo_send_102 ?_
                    cases hE
                  · replace hE := fw_om_some hq hE
                    refine lv_iload hx hb d_Mo_send_97 (lv_at hl 1 rfl) ?_
                    refine lv_iconst (v := 3) hx hb d_Mo_send_99 (by decide) ?_
                    refine lv_iadd hx hb d_Mo_send_100 ?_
                    refine lv_aload_n hx hb d_Mo_send_101 rfl (lv_at hl 2 rfl) ?_
                    refine fw_get (v := .int (fw_g S18 a0 49)) C R ft_field_7_138 hk_a0 rfl d_Mo_send_102 ?_
                    obtain ⟨hi20, hE⟩ := fw_ifn hE
                    refine fw_iast C R (by decide) hk_b19 hi20 d_Mo_send_105 (fun H locs R => ?_)
                    obtain ⟨S21, eS21, hE⟩ := fw_let_ex hE
                    rw [← eS21] at R
                    clear eS21
                    refine lv_iconst (v := 0) hx hb d_Mo_send_106 (by decide) ?_
                    refine lv_istore (lv' := [(6, .int (0 : Int32)), (5, .int x9), (4, .int x8), (0, .ref a0), (1, .int p1), (2, .int p2), (3, .int p3)]) hx hb d_Mo_send_107 hl (by decide) rfl (fun ls hl => ?_)
                    exact h_l109 _ _ _ _ _ _ _ hk_a0 _ _ _ R (lv_sub hl [3, 4, 2, 1, 0] rfl) hE
        · replace hE := fw_if_f hc hE
          refine lv_aload_n hx hb d_Mo_send_28 rfl (lv_at hl 0 rfl) ?_
          refine lv_dup hx hb d_Mo_send_29 rfl ?_
          refine fw_get (v := .int (fw_g S0 a0 10)) C R ft_field_7_141 hk_a0 rfl d_Mo_send_30 ?_
          refine lv_iconst (v := 1) hx hb d_Mo_send_33 (by decide) ?_
          refine lv_iadd hx hb d_Mo_send_34 ?_
          refine fw_puti C R ft_field_7_141 rfl hk_a0 d_Mo_send_35 (fun H locs R => ?_)
          obtain ⟨S39, eS39, hE⟩ := fw_let_ex hE
          rw [← eS39] at R
          clear eS39
          refine lv_iconst (v := 0) hx hb d_Mo_send_38 (by decide) ?_
          cases hE
          exact fw_zret C (by decide) fw_X.rf rfl R d_Mo_send_39
set_option maxHeartbeats 4000000 in
set_option maxRecDepth 100000 in
theorem ct_Mo_put (l : Launch) (G : fw_G) (kd0 : Nat → Option Nat) (S0 : fw_S) (a0 : Nat) (p1 : Int32) (S' : fw_S) (hk_a0 : kd0 a0 = some 7) (hE : F_Mo_put a0 p1 S0 = some S') : fw_M l G y_Mo_put prog_9_method_4_code 2 none 0 0 0 0 kd0 S0 ([.ref a0, .int p1] : List Value) none S' (fun k => k = kd0) := by
  refine fw_start (by decide) (Nat.le_of_ble_eq_true rfl) ?_
  intro p e s m below meth c ls C hnm R hl
  clear hnm
  have hx := C.1
  have hb := C.2.1
  have hl : lv_has ls 2 [(0, .ref a0), (1, .int p1)] := hl
  unfold F_Mo_put at hE
  refine lv_aload_n hx hb d_Mo_put_0 rfl (lv_at hl 0 rfl) ?_
  refine fw_getr C R ft_field_7_135 hk_a0 rfl rfl d_Mo_put_1 (fun hq => ?_) (fun b1 hq hk_b1 => ?_)
  · replace hE := fw_om_none hq hE
    refine lv_aload_n hx hb d_Mo_put_4 rfl (lv_at hl 0 rfl) ?_
    refine fw_get (v := .int (fw_g S0 a0 49)) C R ft_field_7_138 hk_a0 rfl d_Mo_put_5 ?_
    refine lv_iload_n hx hb d_Mo_put_8 rfl (lv_at hl 1 rfl) ?_
    refine lv_sipush (v := 255) hx hb d_Mo_put_9 (by decide) ?_
    refine lv_iand hx hb d_Mo_put_12 ?_
    cases hE
  · replace hE := fw_om_some hq hE
    refine lv_aload_n hx hb d_Mo_put_4 rfl (lv_at hl 0 rfl) ?_
    refine fw_get (v := .int (fw_g S0 a0 49)) C R ft_field_7_138 hk_a0 rfl d_Mo_put_5 ?_
    refine lv_iload_n hx hb d_Mo_put_8 rfl (lv_at hl 1 rfl) ?_
    refine lv_sipush (v := 255) hx hb d_Mo_put_9 (by decide) ?_
    refine lv_iand hx hb d_Mo_put_12 ?_
    obtain ⟨hi2, hE⟩ := fw_ifn hE
    refine fw_iast C R (by decide) hk_b1 hi2 d_Mo_put_13 (fun H locs R => ?_)
    obtain ⟨S3, eS3, hE⟩ := fw_let_ex hE
    rw [← eS3] at R
    clear eS3
    refine lv_aload_n hx hb d_Mo_put_14 rfl (lv_at hl 0 rfl) ?_
    refine lv_dup hx hb d_Mo_put_15 rfl ?_
    refine fw_get (v := .int (fw_g S3 a0 49)) C R ft_field_7_138 hk_a0 rfl d_Mo_put_16 ?_
    refine lv_iconst (v := 1) hx hb d_Mo_put_19 (by decide) ?_
    refine lv_iadd hx hb d_Mo_put_20 ?_
    refine fw_puti C R ft_field_7_138 rfl hk_a0 d_Mo_put_21 (fun H locs R => ?_)
    obtain ⟨S4, eS4, hE⟩ := fw_let_ex hE
    rw [← eS4] at R
    clear eS4
    cases hE
    exact fw_vret C fw_X.rf rfl R d_Mo_put_24
set_option maxHeartbeats 4000000 in
set_option maxRecDepth 100000 in
theorem ct_Mo_sendLast (l : Launch) (G : fw_G) (kd0 : Nat → Option Nat) (S0 : fw_S) (a0 : Nat) (p1 : Int32) (r0 : Int32) (S' : fw_S) (hk_a0 : kd0 a0 = some 7) (hE : F_Mo_sendLast a0 p1 S0 = some (r0, S')) : fw_M l G y_Mo_sendLast prog_9_method_5_code 3 (some .boolean) 1 26 0 0 kd0 S0 ([.ref a0, .int p1] : List Value) (some (.int r0)) S' (fun k => k = kd0) := by
  refine fw_start (by decide) (Nat.le_of_ble_eq_true rfl) ?_
  intro p e s m below meth c ls C hnm R hl
  clear hnm
  have hx := C.1
  have hb := C.2.1
  have hl : lv_has ls 3 [(0, .ref a0), (1, .int p1)] := hl
  have h_j38 : ∀ v0 : Nat, ∀ v1 : Int32, ∀ S0 : fw_S, kd0 v0 = some 7 → ∀ (H : Heap) (locs : List Loc) (ls : Array Slot), fw_R G kd0 S0 H locs → lv_has ls 3 [(0, .ref v0), (1, .int v1)] → F_Mo_sendLast_j38 v0 v1 S0 = some (r0, S') → W p l e { frames := 1, cells := 0, slots := 0, locals := 26 } s m ([.ref a0, .int p1] : List Value).toArray below meth c H locs 0 0 (MQ below (fw_Q G kd0 (some (.int r0)) S' (fun k => k = kd0)) ([.ref a0, .int p1] : List Value).toArray s 0 0 (fw_A G)) (F0 m 38 ls []) := by
    intro v0 v1 S0 hk_v0 H locs ls R hl hE
    unfold F_Mo_sendLast_j38 at hE
    refine lv_aload_n hx hb d_Mo_sendLast_38 rfl (lv_at hl 0 rfl) ?_
    refine fw_getr C R ft_field_7_93 hk_v0 rfl rfl d_Mo_sendLast_39 (fun hq => ?_) (fun b4 hq hk_b4 => ?_)
    · replace hE := fw_om_none hq hE
      refine lv_iload_n hx hb d_Mo_sendLast_42 rfl (lv_at hl 1 rfl) ?_
      refine lv_aload_n hx hb d_Mo_sendLast_43 rfl (lv_at hl 0 rfl) ?_
      refine fw_get (v := .int (fw_g S0 v0 8)) C R ft_field_7_148 hk_v0 rfl d_Mo_sendLast_44 ?_
      cases hE
    · replace hE := fw_om_some hq hE
      refine lv_iload_n hx hb d_Mo_sendLast_42 rfl (lv_at hl 1 rfl) ?_
      refine lv_aload_n hx hb d_Mo_sendLast_43 rfl (lv_at hl 0 rfl) ?_
      refine fw_get (v := .int (fw_g S0 v0 8)) C R ft_field_7_148 hk_v0 rfl d_Mo_sendLast_44 ?_
      obtain ⟨hi5, hE⟩ := fw_ifn hE
      refine fw_iast C R (by decide) hk_b4 hi5 d_Mo_sendLast_47 (fun H locs R => ?_)
      obtain ⟨S6, eS6, hE⟩ := fw_let_ex hE
      rw [← eS6] at R
      clear eS6
      refine lv_aload_n hx hb d_Mo_sendLast_48 rfl (lv_at hl 0 rfl) ?_
      refine lv_aload_n hx hb d_Mo_sendLast_49 rfl (lv_at hl 0 rfl) ?_
      refine fw_getr C R ft_field_7_42 hk_v0 rfl rfl d_Mo_sendLast_50 (fun hq => ?_) (fun b7 hq hk_b7 => ?_)
      · replace hE := fw_om_none hq hE
        refine lv_iload_n hx hb d_Mo_sendLast_53 rfl (lv_at hl 1 rfl) ?_
        cases hE
      · replace hE := fw_om_some hq hE
        refine lv_iload_n hx hb d_Mo_sendLast_53 rfl (lv_at hl 1 rfl) ?_
        obtain ⟨hi8, hE⟩ := fw_ifn hE
        refine fw_iald C R (by decide) hk_b7 hi8 d_Mo_sendLast_54 ?_
        refine lv_aload_n hx hb d_Mo_sendLast_55 rfl (lv_at hl 0 rfl) ?_
        refine fw_getr C R ft_field_7_96 hk_v0 rfl rfl d_Mo_sendLast_56 (fun hq => ?_) (fun b9 hq hk_b9 => ?_)
        · replace hE := fw_om_none hq hE
          refine lv_iload_n hx hb d_Mo_sendLast_59 rfl (lv_at hl 1 rfl) ?_
          cases hE
        · replace hE := fw_om_some hq hE
          refine lv_iload_n hx hb d_Mo_sendLast_59 rfl (lv_at hl 1 rfl) ?_
          obtain ⟨hi10, hE⟩ := fw_ifn hE
          refine fw_iald C R (by decide) hk_b9 hi10 d_Mo_sendLast_60 ?_
          refine lv_iload_n hx hb d_Mo_sendLast_61 rfl (lv_at hl 1 rfl) ?_
          obtain ⟨x12, S11, hF, hE⟩ := fw_b2_ex hE
          refine fw_callV (As := [.int (fw_g S6 b7 v1.toNatClampNeg), .int (fw_g S6 b9 v1.toNatClampNeg), .int v1]) (rest := []) C R ft_callV_7_151 yi_Mo_send ys_Mo_send (ct_Mo_send l G kd0 S6 _ _ _ _ _ _ hk_v0 hF) hk_v0 (by decide) rfl rfl hl.1 rfl (lv_room (Nat.le_of_ble_eq_true rfl)) ⟨Nat.le_of_ble_eq_true rfl, Nat.le_of_ble_eq_true rfl⟩ ⟨Nat.le_of_ble_eq_true rfl, Nat.le_of_ble_eq_true rfl⟩ d_Mo_sendLast_62 (fun H locs kd13 hxkd13 hP R => ?_)
          rw [hP] at R; clear hP hxkd13
          obtain ⟨hz14, hE⟩ := fw_ifp hE
          cases hE
          exact fw_zret C hz14 fw_X.rf rfl R d_Mo_sendLast_65
  have h_l7 : ∀ (n : Nat), ∀ v0 : Nat, ∀ v1 : Int32, ∀ v2 : Int32, ∀ S0 : fw_S, kd0 v0 = some 7 → ∀ (H : Heap) (locs : List Loc) (ls : Array Slot), fw_R G kd0 S0 H locs → lv_has ls 3 [(0, .ref v0), (1, .int v1), (2, .int v2)] → F_Mo_sendLast_l7 n v0 v1 v2 S0 = some (r0, S') → W p l e { frames := 1, cells := 0, slots := 0, locals := 26 } s m ([.ref a0, .int p1] : List Value).toArray below meth c H locs 0 0 (MQ below (fw_Q G kd0 (some (.int r0)) S' (fun k => k = kd0)) ([.ref a0, .int p1] : List Value).toArray s 0 0 (fw_A G)) (F0 m 7 ls []) := by
    intro n
    induction n with
    | zero =>
      intro v0 v1 v2 S0 hk_v0 H locs ls R hl hE
      rw [F_Mo_sendLast_l7] at hE
      cases hE
    | succ n ih =>
      intro v0 v1 v2 S0 hk_v0 H locs ls R hl hE
      rw [F_Mo_sendLast_l7] at hE
      refine lv_iload_n hx hb d_Mo_sendLast_7 rfl (lv_at hl 2 rfl) ?_
      refine lv_aload_n hx hb d_Mo_sendLast_8 rfl (lv_at hl 0 rfl) ?_
      refine fw_getr C R ft_field_7_99 hk_v0 rfl rfl d_Mo_sendLast_9 (fun hq => ?_) (fun b2 hq hk_b2 => ?_)
      · replace hE := fw_om_none hq hE
        refine lv_iload_n hx hb d_Mo_sendLast_12 rfl (lv_at hl 1 rfl) ?_
        cases hE
      · replace hE := fw_om_some hq hE
        refine lv_iload_n hx hb d_Mo_sendLast_12 rfl (lv_at hl 1 rfl) ?_
        obtain ⟨hi3, hE⟩ := fw_ifn hE
        refine fw_iald C R (by decide) hk_b2 hi3 d_Mo_sendLast_13 ?_
        refine lv_icmp_ge (tgt := 38) hx hb d_Mo_sendLast_14 (by decide) (fun hc => ?_) (fun hc => ?_)
        · replace hE := fw_if_t hc hE
          exact h_j38 _ _ _ hk_v0 _ _ _ R (lv_sub hl [0, 1] rfl) hE
        · replace hE := fw_if_f hc hE
          refine lv_aload_n hx hb d_Mo_sendLast_17 rfl (lv_at hl 0 rfl) ?_
          refine lv_aload_n hx hb d_Mo_sendLast_18 rfl (lv_at hl 0 rfl) ?_
          refine fw_getr C R ft_field_7_102 hk_v0 rfl rfl d_Mo_sendLast_19 (fun hq => ?_) (fun b15 hq hk_b15 => ?_)
          · replace hE := fw_om_none hq hE
            refine lv_bipush (v := 20) hx hb d_Mo_sendLast_22 (by decide) ?_
            refine lv_iload_n hx hb d_Mo_sendLast_24 rfl (lv_at hl 1 rfl) ?_
            refine lv_imul hx hb d_Mo_sendLast_25 ?_
            refine lv_iload_n hx hb d_Mo_sendLast_26 rfl (lv_at hl 2 rfl) ?_
            refine lv_iadd hx hb d_Mo_sendLast_27 ?_
            cases hE
          · replace hE := fw_om_some hq hE
            refine lv_bipush (v := 20) hx hb d_Mo_sendLast_22 (by decide) ?_
            refine lv_iload_n hx hb d_Mo_sendLast_24 rfl (lv_at hl 1 rfl) ?_
            refine lv_imul hx hb d_Mo_sendLast_25 ?_
            refine lv_iload_n hx hb d_Mo_sendLast_26 rfl (lv_at hl 2 rfl) ?_
            refine lv_iadd hx hb d_Mo_sendLast_27 ?_
            obtain ⟨hi16, hE⟩ := fw_ifn hE
            refine fw_iald C R (by decide) hk_b15 hi16 d_Mo_sendLast_28 ?_
            obtain ⟨S17, hF, hE⟩ := fw_bind hE
            refine fw_callV (As := [.int (fw_g S0 b15 (((20 : Int32) * v1) + v2).toNatClampNeg)]) (rest := []) C R ft_callV_7_144 yi_Mo_put ys_Mo_put (ct_Mo_put l G kd0 S0 _ _ _ hk_v0 hF) hk_v0 (by decide) rfl rfl hl.1 rfl (lv_room (Nat.le_of_ble_eq_true rfl)) ⟨Nat.le_of_ble_eq_true rfl, Nat.le_of_ble_eq_true rfl⟩ ⟨Nat.le_of_ble_eq_true rfl, Nat.le_of_ble_eq_true rfl⟩ d_Mo_sendLast_29 (fun H locs kd18 hxkd18 hP R => ?_)
            rw [hP] at R; clear hP hxkd18
            refine lv_iinc (v := (v2 + (1 : Int32))) (lv' := [(2, .int (v2 + (1 : Int32))), (0, .ref v0), (1, .int v1)]) hx hb d_Mo_sendLast_32 hl (k := 2) rfl rfl (by decide) rfl (fun ls hl => ?_)
            refine lv_goto (tgt := 7) hx hb d_Mo_sendLast_35 (by decide) ?_
            exact ih _ _ _ _ hk_v0 _ _ _ R (lv_sub hl [1, 2, 0] rfl) hE
  unfold F_Mo_sendLast at hE
  refine lv_aload_n hx hb d_Mo_sendLast_0 rfl (lv_at hl 0 rfl) ?_
  refine lv_iconst (v := 0) hx hb d_Mo_sendLast_1 (by decide) ?_
  refine fw_puti C R ft_field_7_138 rfl hk_a0 d_Mo_sendLast_2 (fun H locs R => ?_)
  obtain ⟨S1, eS1, hE⟩ := fw_let_ex hE
  rw [← eS1] at R
  clear eS1
  refine lv_iconst (v := 0) hx hb d_Mo_sendLast_5 (by decide) ?_
  refine lv_istore_n (lv' := [(2, .int (0 : Int32)), (0, .ref a0), (1, .int p1)]) hx hb d_Mo_sendLast_6 rfl hl (by decide) rfl (fun ls hl => ?_)
  exact h_l7 _ _ _ _ _ hk_a0 _ _ _ R (lv_sub hl [1, 2, 0] rfl) hE
set_option maxHeartbeats 4000000 in
set_option maxRecDepth 100000 in
theorem ct_Mo_keep (l : Launch) (G : fw_G) (kd0 : Nat → Option Nat) (S0 : fw_S) (a0 : Nat) (p1 : Int32) (p2 : Int32) (S' : fw_S) (hk_a0 : kd0 a0 = some 7) (hE : F_Mo_keep a0 p1 p2 S0 = some S') : fw_M l G y_Mo_keep prog_9_method_6_code 4 none 2 48 0 0 kd0 S0 ([.ref a0, .int p1, .int p2] : List Value) none S' (fun k => k = kd0) := by
  refine fw_start (by decide) (Nat.le_of_ble_eq_true rfl) ?_
  intro p e s m below meth c ls C hnm R hl
  clear hnm
  have hx := C.1
  have hb := C.2.1
  have hl : lv_has ls 4 [(0, .ref a0), (1, .int p1), (2, .int p2)] := hl
  have h_j50 : ∀ v0 : Nat, ∀ v1 : Int32, ∀ S0 : fw_S, kd0 v0 = some 7 → ∀ (H : Heap) (locs : List Loc) (ls : Array Slot), fw_R G kd0 S0 H locs → lv_has ls 4 [(0, .ref v0), (1, .int v1)] → F_Mo_keep_j50 v0 v1 S0 = some S' → W p l e { frames := 2, cells := 0, slots := 0, locals := 48 } s m ([.ref a0, .int p1, .int p2] : List Value).toArray below meth c H locs 0 0 (MQ below (fw_Q G kd0 none S' (fun k => k = kd0)) ([.ref a0, .int p1, .int p2] : List Value).toArray s 0 0 (fw_A G)) (F0 m 50 ls []) := by
    intro v0 v1 S0 hk_v0 H locs ls R hl hE
    unfold F_Mo_keep_j50 at hE
    refine lv_aload_n hx hb d_Mo_keep_50 rfl (lv_at hl 0 rfl) ?_
    refine fw_getr C R ft_field_7_90 hk_v0 rfl rfl d_Mo_keep_51 (fun hq => ?_) (fun b7 hq hk_b7 => ?_)
    · replace hE := fw_om_none hq hE
      refine lv_iload_n hx hb d_Mo_keep_54 rfl (lv_at hl 1 rfl) ?_
      refine lv_iconst (v := 0) hx hb d_Mo_keep_55 (by decide) ?_
      cases hE
    · replace hE := fw_om_some hq hE
      refine lv_iload_n hx hb d_Mo_keep_54 rfl (lv_at hl 1 rfl) ?_
      refine lv_iconst (v := 0) hx hb d_Mo_keep_55 (by decide) ?_
      obtain ⟨hi8, hE⟩ := fw_ifn hE
      refine fw_iast C R (by decide) hk_b7 hi8 d_Mo_keep_56 (fun H locs R => ?_)
      obtain ⟨S9, eS9, hE⟩ := fw_let_ex hE
      rw [← eS9] at R
      clear eS9
      refine lv_aload_n hx hb d_Mo_keep_57 rfl (lv_at hl 0 rfl) ?_
      refine lv_iload_n hx hb d_Mo_keep_58 rfl (lv_at hl 1 rfl) ?_
      obtain ⟨x11, S10, hF, hE⟩ := fw_b2_ex hE
      refine fw_callV (As := [.int v1]) (rest := []) C R ft_callV_7_155 yi_Mo_sendLast ys_Mo_sendLast (ct_Mo_sendLast l G kd0 S9 _ _ _ _ hk_v0 hF) hk_v0 (by decide) rfl rfl hl.1 rfl (lv_room (Nat.le_of_ble_eq_true rfl)) ⟨Nat.le_of_ble_eq_true rfl, Nat.le_of_ble_eq_true rfl⟩ ⟨Nat.le_of_ble_eq_true rfl, Nat.le_of_ble_eq_true rfl⟩ d_Mo_keep_59 (fun H locs kd12 hxkd12 hP R => ?_)
      rw [hP] at R; clear hP hxkd12
      refine lv_pop hx hb d_Mo_keep_62 rfl ?_
      cases hE
      exact fw_vret C fw_X.rf rfl R d_Mo_keep_63
  have h_l19 : ∀ (n : Nat), ∀ v0 : Nat, ∀ v1 : Int32, ∀ v3 : Int32, ∀ S0 : fw_S, kd0 v0 = some 7 → ∀ (H : Heap) (locs : List Loc) (ls : Array Slot), fw_R G kd0 S0 H locs → lv_has ls 4 [(0, .ref v0), (1, .int v1), (3, .int v3)] → F_Mo_keep_l19 n v0 v1 v3 S0 = some S' → W p l e { frames := 2, cells := 0, slots := 0, locals := 48 } s m ([.ref a0, .int p1, .int p2] : List Value).toArray below meth c H locs 0 0 (MQ below (fw_Q G kd0 none S' (fun k => k = kd0)) ([.ref a0, .int p1, .int p2] : List Value).toArray s 0 0 (fw_A G)) (F0 m 19 ls []) := by
    intro n
    induction n with
    | zero =>
      intro v0 v1 v3 S0 hk_v0 H locs ls R hl hE
      rw [F_Mo_keep_l19] at hE
      cases hE
    | succ n ih =>
      intro v0 v1 v3 S0 hk_v0 H locs ls R hl hE
      rw [F_Mo_keep_l19] at hE
      refine lv_iload_n hx hb d_Mo_keep_19 rfl (lv_at hl 2 rfl) ?_
      refine lv_aload_n hx hb d_Mo_keep_20 rfl (lv_at hl 0 rfl) ?_
      refine fw_get (v := .int (fw_g S0 v0 49)) C R ft_field_7_138 hk_v0 rfl d_Mo_keep_21 ?_
      refine lv_icmp_ge (tgt := 50) hx hb d_Mo_keep_24 (by decide) (fun hc => ?_) (fun hc => ?_)
      · replace hE := fw_if_t hc hE
        exact h_j50 _ _ _ hk_v0 _ _ _ R (lv_sub hl [0, 1] rfl) hE
      · replace hE := fw_if_f hc hE
        refine lv_aload_n hx hb d_Mo_keep_27 rfl (lv_at hl 0 rfl) ?_
        refine fw_getr C R ft_field_7_102 hk_v0 rfl rfl d_Mo_keep_28 (fun hq => ?_) (fun b13 hq hk_b13 => ?_)
        · replace hE := fw_om_none hq hE
          refine lv_bipush (v := 20) hx hb d_Mo_keep_31 (by decide) ?_
          refine lv_iload_n hx hb d_Mo_keep_33 rfl (lv_at hl 1 rfl) ?_
          refine lv_imul hx hb d_Mo_keep_34 ?_
          refine lv_iload_n hx hb d_Mo_keep_35 rfl (lv_at hl 2 rfl) ?_
          refine lv_iadd hx hb d_Mo_keep_36 ?_
          refine lv_aload_n hx hb d_Mo_keep_37 rfl (lv_at hl 0 rfl) ?_
          refine fw_getr C R ft_field_7_135 hk_v0 rfl rfl d_Mo_keep_38 (fun hq => ?_) (fun b14 hq hk_b14 => ?_)
          · replace hE := fw_om_none hq hE
            refine lv_iload_n hx hb d_Mo_keep_41 rfl (lv_at hl 2 rfl) ?_
            cases hE
          · replace hE := fw_om_some hq hE
            refine lv_iload_n hx hb d_Mo_keep_41 rfl (lv_at hl 2 rfl) ?_
            obtain ⟨hi15, hE⟩ := fw_ifn hE
            refine fw_iald C R (by decide) hk_b14 hi15 d_Mo_keep_42 ?_
            cases hE
        · replace hE := fw_om_some hq hE
          refine lv_bipush (v := 20) hx hb d_Mo_keep_31 (by decide) ?_
          refine lv_iload_n hx hb d_Mo_keep_33 rfl (lv_at hl 1 rfl) ?_
          refine lv_imul hx hb d_Mo_keep_34 ?_
          refine lv_iload_n hx hb d_Mo_keep_35 rfl (lv_at hl 2 rfl) ?_
          refine lv_iadd hx hb d_Mo_keep_36 ?_
          refine lv_aload_n hx hb d_Mo_keep_37 rfl (lv_at hl 0 rfl) ?_
          refine fw_getr C R ft_field_7_135 hk_v0 rfl rfl d_Mo_keep_38 (fun hq => ?_) (fun b16 hq hk_b16 => ?_)
          · replace hE := fw_om_none hq hE
            refine lv_iload_n hx hb d_Mo_keep_41 rfl (lv_at hl 2 rfl) ?_
            cases hE
          · replace hE := fw_om_some hq hE
            refine lv_iload_n hx hb d_Mo_keep_41 rfl (lv_at hl 2 rfl) ?_
            obtain ⟨hi17, hE⟩ := fw_ifn hE
            refine fw_iald C R (by decide) hk_b16 hi17 d_Mo_keep_42 ?_
            obtain ⟨hi18, hE⟩ := fw_ifn hE
            refine fw_iast C R (by decide) hk_b13 hi18 d_Mo_keep_43 (fun H locs R => ?_)
            obtain ⟨S19, eS19, hE⟩ := fw_let_ex hE
            rw [← eS19] at R
            clear eS19
            refine lv_iinc (v := (v3 + (1 : Int32))) (lv' := [(3, .int (v3 + (1 : Int32))), (0, .ref v0), (1, .int v1)]) hx hb d_Mo_keep_44 hl (k := 2) rfl rfl (by decide) rfl (fun ls hl => ?_)
            refine lv_goto (tgt := 19) hx hb d_Mo_keep_47 (by decide) ?_
            exact ih _ _ _ _ hk_v0 _ _ _ R (lv_sub hl [1, 2, 0] rfl) hE
  unfold F_Mo_keep at hE
  refine lv_aload_n hx hb d_Mo_keep_0 rfl (lv_at hl 0 rfl) ?_
  refine fw_getr C R ft_field_7_96 hk_a0 rfl rfl d_Mo_keep_1 (fun hq => ?_) (fun b1 hq hk_b1 => ?_)
  · replace hE := fw_om_none hq hE
    refine lv_iload_n hx hb d_Mo_keep_4 rfl (lv_at hl 1 rfl) ?_
    refine lv_iload_n hx hb d_Mo_keep_5 rfl (lv_at hl 2 rfl) ?_
    cases hE
  · replace hE := fw_om_some hq hE
    refine lv_iload_n hx hb d_Mo_keep_4 rfl (lv_at hl 1 rfl) ?_
    refine lv_iload_n hx hb d_Mo_keep_5 rfl (lv_at hl 2 rfl) ?_
    obtain ⟨hi2, hE⟩ := fw_ifn hE
    refine fw_iast C R (by decide) hk_b1 hi2 d_Mo_keep_6 (fun H locs R => ?_)
    obtain ⟨S3, eS3, hE⟩ := fw_let_ex hE
    rw [← eS3] at R
    clear eS3
    refine lv_aload_n hx hb d_Mo_keep_7 rfl (lv_at hl 0 rfl) ?_
    refine fw_getr C R ft_field_7_99 hk_a0 rfl rfl d_Mo_keep_8 (fun hq => ?_) (fun b4 hq hk_b4 => ?_)
    · replace hE := fw_om_none hq hE
      refine lv_iload_n hx hb d_Mo_keep_11 rfl (lv_at hl 1 rfl) ?_
      refine lv_aload_n hx hb d_Mo_keep_12 rfl (lv_at hl 0 rfl) ?_
      refine fw_get (v := .int (fw_g S3 a0 49)) C R ft_field_7_138 hk_a0 rfl d_Mo_keep_13 ?_
      cases hE
    · replace hE := fw_om_some hq hE
      refine lv_iload_n hx hb d_Mo_keep_11 rfl (lv_at hl 1 rfl) ?_
      refine lv_aload_n hx hb d_Mo_keep_12 rfl (lv_at hl 0 rfl) ?_
      refine fw_get (v := .int (fw_g S3 a0 49)) C R ft_field_7_138 hk_a0 rfl d_Mo_keep_13 ?_
      obtain ⟨hi5, hE⟩ := fw_ifn hE
      refine fw_iast C R (by decide) hk_b4 hi5 d_Mo_keep_16 (fun H locs R => ?_)
      obtain ⟨S6, eS6, hE⟩ := fw_let_ex hE
      rw [← eS6] at R
      clear eS6
      refine lv_iconst (v := 0) hx hb d_Mo_keep_17 (by decide) ?_
      refine lv_istore_n (lv' := [(3, .int (0 : Int32)), (0, .ref a0), (1, .int p1), (2, .int p2)]) hx hb d_Mo_keep_18 rfl hl (by decide) rfl (fun ls hl => ?_)
      exact h_l19 _ _ _ _ _ hk_a0 _ _ _ R (lv_sub hl [1, 2, 0] rfl) hE
set_option maxHeartbeats 4000000 in
set_option maxRecDepth 100000 in
theorem ct_Mo_askPart (l : Launch) (G : fw_G) (kd0 : Nat → Option Nat) (S0 : fw_S) (a0 : Nat) (p1 : Int32) (S' : fw_S) (hk_a0 : kd0 a0 = some 7) (hE : F_Mo_askPart a0 p1 S0 = some S') : fw_M l G y_Mo_askPart prog_9_method_7_code 3 none 3 71 0 0 kd0 S0 ([.ref a0, .int p1] : List Value) none S' (fun k => k = kd0) := by
  refine fw_start (by decide) (Nat.le_of_ble_eq_true rfl) ?_
  intro p e s m below meth c ls C hnm R hl
  clear hnm
  have hx := C.1
  have hb := C.2.1
  have hl : lv_has ls 3 [(0, .ref a0), (1, .int p1)] := hl
  have h_j78 : ∀ v0 : Nat, ∀ v1 : Int32, ∀ S0 : fw_S, kd0 v0 = some 7 → ∀ (H : Heap) (locs : List Loc) (ls : Array Slot), fw_R G kd0 S0 H locs → lv_has ls 3 [(0, .ref v0), (1, .int v1)] → F_Mo_askPart_j78 v0 v1 S0 = some S' → W p l e { frames := 3, cells := 0, slots := 0, locals := 71 } s m ([.ref a0, .int p1] : List Value).toArray below meth c H locs 0 0 (MQ below (fw_Q G kd0 none S' (fun k => k = kd0)) ([.ref a0, .int p1] : List Value).toArray s 0 0 (fw_A G)) (F0 m 78 ls []) := by
    intro v0 v1 S0 hk_v0 H locs ls R hl hE
    unfold F_Mo_askPart_j78 at hE
    refine lv_aload_n hx hb d_Mo_askPart_78 rfl (lv_at hl 0 rfl) ?_
    refine fw_getr C R ft_field_7_84 hk_v0 rfl rfl d_Mo_askPart_79 (fun hq => ?_) (fun b8 hq hk_b8 => ?_)
    · replace hE := fw_om_none hq hE
      refine lv_iload_n hx hb d_Mo_askPart_82 rfl (lv_at hl 1 rfl) ?_
      refine lv_iconst (v := 0) hx hb d_Mo_askPart_83 (by decide) ?_
      cases hE
    · replace hE := fw_om_some hq hE
      refine lv_iload_n hx hb d_Mo_askPart_82 rfl (lv_at hl 1 rfl) ?_
      refine lv_iconst (v := 0) hx hb d_Mo_askPart_83 (by decide) ?_
      obtain ⟨hi9, hE⟩ := fw_ifn hE
      refine fw_iast C R (by decide) hk_b8 hi9 d_Mo_askPart_84 (fun H locs R => ?_)
      obtain ⟨S10, eS10, hE⟩ := fw_let_ex hE
      rw [← eS10] at R
      clear eS10
      refine lv_aload_n hx hb d_Mo_askPart_85 rfl (lv_at hl 0 rfl) ?_
      refine lv_iload_n hx hb d_Mo_askPart_86 rfl (lv_at hl 1 rfl) ?_
      refine lv_iconst (v := 1) hx hb d_Mo_askPart_87 (by decide) ?_
      obtain ⟨S11, hF, hE⟩ := fw_bind hE
      refine fw_callV (As := [.int v1, .int (1 : Int32)]) (rest := []) C R ft_callV_7_159 yi_Mo_keep ys_Mo_keep (ct_Mo_keep l G kd0 S10 _ _ _ _ hk_v0 hF) hk_v0 (by decide) rfl rfl hl.1 rfl (lv_room (Nat.le_of_ble_eq_true rfl)) ⟨Nat.le_of_ble_eq_true rfl, Nat.le_of_ble_eq_true rfl⟩ ⟨Nat.le_of_ble_eq_true rfl, Nat.le_of_ble_eq_true rfl⟩ d_Mo_askPart_88 (fun H locs kd12 hxkd12 hP R => ?_)
      rw [hP] at R; clear hP hxkd12
      cases hE
      exact fw_vret C fw_X.rf rfl R d_Mo_askPart_91
  have h_l17 : ∀ (n : Nat), ∀ v0 : Nat, ∀ v1 : Int32, ∀ v2 : Int32, ∀ S0 : fw_S, kd0 v0 = some 7 → ∀ (H : Heap) (locs : List Loc) (ls : Array Slot), fw_R G kd0 S0 H locs → lv_has ls 3 [(0, .ref v0), (1, .int v1), (2, .int v2)] → F_Mo_askPart_l17 n v0 v1 v2 S0 = some S' → W p l e { frames := 3, cells := 0, slots := 0, locals := 71 } s m ([.ref a0, .int p1] : List Value).toArray below meth c H locs 0 0 (MQ below (fw_Q G kd0 none S' (fun k => k = kd0)) ([.ref a0, .int p1] : List Value).toArray s 0 0 (fw_A G)) (F0 m 17 ls []) := by
    intro n
    induction n with
    | zero =>
      intro v0 v1 v2 S0 hk_v0 H locs ls R hl hE
      rw [F_Mo_askPart_l17] at hE
      cases hE
    | succ n ih =>
      intro v0 v1 v2 S0 hk_v0 H locs ls R hl hE
      rw [F_Mo_askPart_l17] at hE
      refine lv_iload_n hx hb d_Mo_askPart_17 rfl (lv_at hl 2 rfl) ?_
      refine lv_aload_n hx hb d_Mo_askPart_18 rfl (lv_at hl 0 rfl) ?_
      refine fw_getr C R ft_field_7_69 hk_v0 rfl rfl d_Mo_askPart_19 (fun hq => ?_) (fun b6 hq hk_b6 => ?_)
      · replace hE := fw_om_none hq hE
        refine lv_iload_n hx hb d_Mo_askPart_22 rfl (lv_at hl 1 rfl) ?_
        cases hE
      · replace hE := fw_om_some hq hE
        refine lv_iload_n hx hb d_Mo_askPart_22 rfl (lv_at hl 1 rfl) ?_
        obtain ⟨hi7, hE⟩ := fw_ifn hE
        refine fw_iald C R (by decide) hk_b6 hi7 d_Mo_askPart_23 ?_
        refine lv_icmp_ge (tgt := 78) hx hb d_Mo_askPart_24 (by decide) (fun hc => ?_) (fun hc => ?_)
        · replace hE := fw_if_t hc hE
          exact h_j78 _ _ _ hk_v0 _ _ _ R (lv_sub hl [0, 1] rfl) hE
        · replace hE := fw_if_f hc hE
          refine lv_aload_n hx hb d_Mo_askPart_27 rfl (lv_at hl 0 rfl) ?_
          refine fw_getr C R ft_field_7_72 hk_v0 rfl rfl d_Mo_askPart_28 (fun hq => ?_) (fun b13 hq hk_b13 => ?_)
          · replace hE := fw_om_none hq hE
            refine lv_iload_n hx hb d_Mo_askPart_31 rfl (lv_at hl 1 rfl) ?_
            cases hE
          · replace hE := fw_om_some hq hE
            refine lv_iload_n hx hb d_Mo_askPart_31 rfl (lv_at hl 1 rfl) ?_
            obtain ⟨hi14, hE⟩ := fw_ifn hE
            refine fw_iald C R (by decide) hk_b13 hi14 d_Mo_askPart_32 ?_
            refine lv_aload_n hx hb d_Mo_askPart_33 rfl (lv_at hl 0 rfl) ?_
            refine fw_getr C R ft_field_7_63 hk_v0 rfl rfl d_Mo_askPart_34 (fun hq => ?_) (fun b15 hq hk_b15 => ?_)
            · replace hE := fw_om_none hq hE
              refine lv_iload_n hx hb d_Mo_askPart_37 rfl (lv_at hl 1 rfl) ?_
              cases hE
            · replace hE := fw_om_some hq hE
              refine lv_iload_n hx hb d_Mo_askPart_37 rfl (lv_at hl 1 rfl) ?_
              obtain ⟨hi16, hE⟩ := fw_ifn hE
              refine fw_iald C R (by decide) hk_b15 hi16 d_Mo_askPart_38 ?_
              refine lv_icmp_ge (tgt := 78) hx hb d_Mo_askPart_39 (by decide) (fun hc => ?_) (fun hc => ?_)
              · replace hE := fw_if_t hc hE
                exact h_j78 _ _ _ hk_v0 _ _ _ R (lv_sub hl [0, 1] rfl) hE
              · replace hE := fw_if_f hc hE
                refine lv_aload_n hx hb d_Mo_askPart_42 rfl (lv_at hl 0 rfl) ?_
                refine lv_aload_n hx hb d_Mo_askPart_43 rfl (lv_at hl 0 rfl) ?_
                refine fw_getr C R ft_field_7_66 hk_v0 rfl rfl d_Mo_askPart_44 (fun hq => ?_) (fun b17 hq hk_b17 => ?_)
                · replace hE := fw_om_none hq hE
                  refine lv_bipush (v := 20) hx hb d_Mo_askPart_47 (by decide) ?_
                  refine lv_iload_n hx hb d_Mo_askPart_49 rfl (lv_at hl 1 rfl) ?_
                  refine lv_imul hx hb d_Mo_askPart_50 ?_
                  refine lv_aload_n hx hb d_Mo_askPart_51 rfl (lv_at hl 0 rfl) ?_
                  refine fw_getr C R ft_field_7_72 hk_v0 rfl rfl d_Mo_askPart_52 (fun hq => ?_) (fun b18 hq hk_b18 => ?_)
                  · replace hE := fw_om_none hq hE
                    refine lv_iload_n hx hb d_Mo_askPart_55 rfl (lv_at hl 1 rfl) ?_
                    cases hE
                  · replace hE := fw_om_some hq hE
                    refine lv_iload_n hx hb d_Mo_askPart_55 rfl (lv_at hl 1 rfl) ?_
                    obtain ⟨hi19, hE⟩ := fw_ifn hE
                    refine fw_iald C R (by decide) hk_b18 hi19 d_Mo_askPart_56 ?_
                    refine lv_iadd hx hb d_Mo_askPart_57 ?_
                    cases hE
                · replace hE := fw_om_some hq hE
                  refine lv_bipush (v := 20) hx hb d_Mo_askPart_47 (by decide) ?_
                  refine lv_iload_n hx hb d_Mo_askPart_49 rfl (lv_at hl 1 rfl) ?_
                  refine lv_imul hx hb d_Mo_askPart_50 ?_
                  refine lv_aload_n hx hb d_Mo_askPart_51 rfl (lv_at hl 0 rfl) ?_
                  refine fw_getr C R ft_field_7_72 hk_v0 rfl rfl d_Mo_askPart_52 (fun hq => ?_) (fun b20 hq hk_b20 => ?_)
                  · replace hE := fw_om_none hq hE
                    refine lv_iload_n hx hb d_Mo_askPart_55 rfl (lv_at hl 1 rfl) ?_
                    cases hE
                  · replace hE := fw_om_some hq hE
                    refine lv_iload_n hx hb d_Mo_askPart_55 rfl (lv_at hl 1 rfl) ?_
                    obtain ⟨hi21, hE⟩ := fw_ifn hE
                    refine fw_iald C R (by decide) hk_b20 hi21 d_Mo_askPart_56 ?_
                    refine lv_iadd hx hb d_Mo_askPart_57 ?_
                    obtain ⟨hi22, hE⟩ := fw_ifn hE
                    refine fw_iald C R (by decide) hk_b17 hi22 d_Mo_askPart_58 ?_
                    obtain ⟨S23, hF, hE⟩ := fw_bind hE
                    refine fw_callV (As := [.int (fw_g S0 b17 (((20 : Int32) * v1) + (fw_g S0 b20 v1.toNatClampNeg)).toNatClampNeg)]) (rest := []) C R ft_callV_7_144 yi_Mo_put ys_Mo_put (ct_Mo_put l G kd0 S0 _ _ _ hk_v0 hF) hk_v0 (by decide) rfl rfl hl.1 rfl (lv_room (Nat.le_of_ble_eq_true rfl)) ⟨Nat.le_of_ble_eq_true rfl, Nat.le_of_ble_eq_true rfl⟩ ⟨Nat.le_of_ble_eq_true rfl, Nat.le_of_ble_eq_true rfl⟩ d_Mo_askPart_59 (fun H locs kd24 hxkd24 hP R => ?_)
                    rw [hP] at R; clear hP hxkd24
                    refine lv_aload_n hx hb d_Mo_askPart_62 rfl (lv_at hl 0 rfl) ?_
                    refine fw_getr C R ft_field_7_72 hk_v0 rfl rfl d_Mo_askPart_63 (fun hq => ?_) (fun b25 hq hk_b25 => ?_)
                    · replace hE := fw_om_none hq hE
                      refine lv_iload_n hx hb d_Mo_askPart_66 rfl (lv_at hl 1 rfl) ?_
                      refine lv_dup2_11 hx hb d_Mo_askPart_67 rfl rfl ?_
                      cases hE
                    · replace hE := fw_om_some hq hE
                      refine lv_iload_n hx hb d_Mo_askPart_66 rfl (lv_at hl 1 rfl) ?_
                      refine lv_dup2_11 hx hb d_Mo_askPart_67 rfl rfl ?_
                      obtain ⟨hi26, hE⟩ := fw_ifn hE
                      refine fw_iald C R (by decide) hk_b25 hi26 d_Mo_askPart_68 ?_
                      refine lv_iconst (v := 1) hx hb d_Mo_askPart_69 (by decide) ?_
                      refine lv_iadd hx hb d_Mo_askPart_70 ?_
                      obtain ⟨hi27, hE⟩ := fw_ifn hE
                      refine fw_iast C R (by decide) hk_b25 hi27 d_Mo_askPart_71 (fun H locs R => ?_)
                      obtain ⟨S28, eS28, hE⟩ := fw_let_ex hE
                      rw [← eS28] at R
                      clear eS28
                      refine lv_iinc (v := (v2 + (1 : Int32))) (lv' := [(2, .int (v2 + (1 : Int32))), (0, .ref v0), (1, .int v1)]) hx hb d_Mo_askPart_72 hl (k := 2) rfl rfl (by decide) rfl (fun ls hl => ?_)
                      refine lv_goto (tgt := 17) hx hb d_Mo_askPart_75 (by decide) ?_
                      exact ih _ _ _ _ hk_v0 _ _ _ R (lv_sub hl [1, 2, 0] rfl) hE
  unfold F_Mo_askPart at hE
  refine lv_aload_n hx hb d_Mo_askPart_0 rfl (lv_at hl 0 rfl) ?_
  refine lv_iconst (v := 0) hx hb d_Mo_askPart_1 (by decide) ?_
  refine fw_puti C R ft_field_7_138 rfl hk_a0 d_Mo_askPart_2 (fun H locs R => ?_)
  obtain ⟨S1, eS1, hE⟩ := fw_let_ex hE
  rw [← eS1] at R
  clear eS1
  refine lv_aload_n hx hb d_Mo_askPart_5 rfl (lv_at hl 0 rfl) ?_
  refine lv_aload_n hx hb d_Mo_askPart_6 rfl (lv_at hl 0 rfl) ?_
  refine fw_getr C R ft_field_7_87 hk_a0 rfl rfl d_Mo_askPart_7 (fun hq => ?_) (fun b2 hq hk_b2 => ?_)
  · replace hE := fw_om_none hq hE
    refine lv_iload_n hx hb d_Mo_askPart_10 rfl (lv_at hl 1 rfl) ?_
    cases hE
  · replace hE := fw_om_some hq hE
    refine lv_iload_n hx hb d_Mo_askPart_10 rfl (lv_at hl 1 rfl) ?_
    obtain ⟨hi3, hE⟩ := fw_ifn hE
    refine fw_iald C R (by decide) hk_b2 hi3 d_Mo_askPart_11 ?_
    obtain ⟨S4, hF, hE⟩ := fw_bind hE
    refine fw_callV (As := [.int (fw_g S1 b2 p1.toNatClampNeg)]) (rest := []) C R ft_callV_7_144 yi_Mo_put ys_Mo_put (ct_Mo_put l G kd0 S1 _ _ _ hk_a0 hF) hk_a0 (by decide) rfl rfl hl.1 rfl (lv_room (Nat.le_of_ble_eq_true rfl)) ⟨Nat.le_of_ble_eq_true rfl, Nat.le_of_ble_eq_true rfl⟩ ⟨Nat.le_of_ble_eq_true rfl, Nat.le_of_ble_eq_true rfl⟩ d_Mo_askPart_12 (fun H locs kd5 hxkd5 hP R => ?_)
    rw [hP] at R; clear hP hxkd5
    refine lv_iconst (v := 0) hx hb d_Mo_askPart_15 (by decide) ?_
    refine lv_istore_n (lv' := [(2, .int (0 : Int32)), (0, .ref a0), (1, .int p1)]) hx hb d_Mo_askPart_16 rfl hl (by decide) rfl (fun ls hl => ?_)
    exact h_l17 _ _ _ _ _ hk_a0 _ _ _ R (lv_sub hl [1, 2, 0] rfl) hE
