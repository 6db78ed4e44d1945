/-! The law as a function of the script and the store, and its loop on the machine. -/
set_option maxRecDepth 100000 in
def F_Law_l (L : Nat) (xs : Nat → Int32) : Nat → Nat → Nat → Int32 → fw_S → Option Int32
  | 0, _, _, _, _ => none
  | n + 1, xa, ma, v3, S0 =>
    (if ((nI L) - (4 : Int32)) < v3 then
  some 1
  else
  (if v3 < 0 ∨ L ≤ v3.toNatClampNeg then none else
  (if ((xs v3.toNatClampNeg) &&& (15 : Int32)) = (0 : Int32) then
  (if (v3 + (1 : Int32)) < 0 ∨ L ≤ (v3 + (1 : Int32)).toNatClampNeg then none else
  (fw_b2 (F_FW_up xa (xs (v3 + (1 : Int32)).toNatClampNeg) S0) (fun x4 S3 =>
  (if (v3 + (1 : Int32)) < 0 ∨ L ≤ (v3 + (1 : Int32)).toNatClampNeg then none else
  (fw_b2 (F_Mo_up ma (xs (v3 + (1 : Int32)).toNatClampNeg) S3) (fun x8 S7 =>
  (if x4 = x8 then
  F_Law_l L xs n xa ma (v3 + (4 : Int32)) S7
  else
  none)))))))
  else
  (if ((xs v3.toNatClampNeg) &&& (15 : Int32)) = (1 : Int32) then
  (if (v3 + (1 : Int32)) < 0 ∨ L ≤ (v3 + (1 : Int32)).toNatClampNeg then none else
  (fw_b2 (F_FW_down xa (xs (v3 + (1 : Int32)).toNatClampNeg) S0) (fun x12 S11 =>
  (if (v3 + (1 : Int32)) < 0 ∨ L ≤ (v3 + (1 : Int32)).toNatClampNeg then none else
  (fw_b2 (F_Mo_down ma (xs (v3 + (1 : Int32)).toNatClampNeg) S11) (fun x16 S15 =>
  (if x12 = x16 then
  F_Law_l L xs n xa ma (v3 + (4 : Int32)) S15
  else
  none)))))))
  else
  (if ((xs v3.toNatClampNeg) &&& (15 : Int32)) = (2 : Int32) then
  (if (v3 + (1 : Int32)) < 0 ∨ L ≤ (v3 + (1 : Int32)).toNatClampNeg then none else
  (if (v3 + (2 : Int32)) < 0 ∨ L ≤ (v3 + (2 : Int32)).toNatClampNeg then none else
  (fw_b2 (F_FW_setting xa (xs (v3 + (1 : Int32)).toNatClampNeg) (xs (v3 + (2 : Int32)).toNatClampNeg) S0) (fun x21 S20 =>
  (if (v3 + (1 : Int32)) < 0 ∨ L ≤ (v3 + (1 : Int32)).toNatClampNeg then none else
  (if (v3 + (2 : Int32)) < 0 ∨ L ≤ (v3 + (2 : Int32)).toNatClampNeg then none else
  (fw_b2 (F_Mo_setting ma (xs (v3 + (1 : Int32)).toNatClampNeg) (xs (v3 + (2 : Int32)).toNatClampNeg) S20) (fun x26 S25 =>
  (if x21 = x26 then
  F_Law_l L xs n xa ma (v3 + (4 : Int32)) S25
  else
  none)))))))))
  else
  (if ((xs v3.toNatClampNeg) &&& (15 : Int32)) = (3 : Int32) then
  (if (v3 + (1 : Int32)) < 0 ∨ L ≤ (v3 + (1 : Int32)).toNatClampNeg then none else
  (if (v3 + (2 : Int32)) < 0 ∨ L ≤ (v3 + (2 : Int32)).toNatClampNeg then none else
  (fw_b2 (F_FW_bind xa (xs (v3 + (1 : Int32)).toNatClampNeg) (xs (v3 + (2 : Int32)).toNatClampNeg) S0) (fun x31 S30 =>
  (if (v3 + (1 : Int32)) < 0 ∨ L ≤ (v3 + (1 : Int32)).toNatClampNeg then none else
  (if (v3 + (2 : Int32)) < 0 ∨ L ≤ (v3 + (2 : Int32)).toNatClampNeg then none else
  (fw_b2 (F_Mo_bind ma (xs (v3 + (1 : Int32)).toNatClampNeg) (xs (v3 + (2 : Int32)).toNatClampNeg) S30) (fun x36 S35 =>
  (if x31 = x36 then
  F_Law_l L xs n xa ma (v3 + (4 : Int32)) S35
  else
  none)))))))))
  else
  (if ((xs v3.toNatClampNeg) &&& (15 : Int32)) = (4 : Int32) then
  (if (v3 + (1 : Int32)) < 0 ∨ L ≤ (v3 + (1 : Int32)).toNatClampNeg then none else
  (if (v3 + (2 : Int32)) < 0 ∨ L ≤ (v3 + (2 : Int32)).toNatClampNeg then none else
  (if (xs (v3 + (2 : Int32)).toNatClampNeg) = 0 then
  (fw_b2 (F_FW_ask xa (xs (v3 + (1 : Int32)).toNatClampNeg) (0 : Int32) S0) (fun x41 S40 =>
  (if (v3 + (1 : Int32)) < 0 ∨ L ≤ (v3 + (1 : Int32)).toNatClampNeg then none else
  (if (v3 + (2 : Int32)) < 0 ∨ L ≤ (v3 + (2 : Int32)).toNatClampNeg then none else
  (if (xs (v3 + (2 : Int32)).toNatClampNeg) = 0 then
  (fw_b2 (F_Mo_ask ma (xs (v3 + (1 : Int32)).toNatClampNeg) (0 : Int32) S40) (fun x46 S45 =>
  (if x41 = x46 then
  F_Law_l L xs n xa ma (v3 + (4 : Int32)) S45
  else
  none)))
  else
  (fw_b2 (F_Mo_ask ma (xs (v3 + (1 : Int32)).toNatClampNeg) (1 : Int32) S40) (fun x49 S48 =>
  (if x41 = x49 then
  F_Law_l L xs n xa ma (v3 + (4 : Int32)) S48
  else
  none))))))))
  else
  (fw_b2 (F_FW_ask xa (xs (v3 + (1 : Int32)).toNatClampNeg) (1 : Int32) S0) (fun x52 S51 =>
  (if (v3 + (1 : Int32)) < 0 ∨ L ≤ (v3 + (1 : Int32)).toNatClampNeg then none else
  (if (v3 + (2 : Int32)) < 0 ∨ L ≤ (v3 + (2 : Int32)).toNatClampNeg then none else
  (if (xs (v3 + (2 : Int32)).toNatClampNeg) = 0 then
  (fw_b2 (F_Mo_ask ma (xs (v3 + (1 : Int32)).toNatClampNeg) (0 : Int32) S51) (fun x57 S56 =>
  (if x52 = x57 then
  F_Law_l L xs n xa ma (v3 + (4 : Int32)) S56
  else
  none)))
  else
  (fw_b2 (F_Mo_ask ma (xs (v3 + (1 : Int32)).toNatClampNeg) (1 : Int32) S51) (fun x60 S59 =>
  (if x52 = x60 then
  F_Law_l L xs n xa ma (v3 + (4 : Int32)) S59
  else
  none)))))))))))
  else
  (if ((xs v3.toNatClampNeg) &&& (15 : Int32)) = (5 : Int32) then
  (if (v3 + (1 : Int32)) < 0 ∨ L ≤ (v3 + (1 : Int32)).toNatClampNeg then none else
  (if (v3 + (2 : Int32)) < 0 ∨ L ≤ (v3 + (2 : Int32)).toNatClampNeg then none else
  (fw_b2 (F_FW_octet xa (xs (v3 + (1 : Int32)).toNatClampNeg) ((xs (v3 + (2 : Int32)).toNatClampNeg).toInt8.toInt32) S0) (fun x65 S64 =>
  (if (v3 + (1 : Int32)) < 0 ∨ L ≤ (v3 + (1 : Int32)).toNatClampNeg then none else
  (if (v3 + (2 : Int32)) < 0 ∨ L ≤ (v3 + (2 : Int32)).toNatClampNeg then none else
  (fw_b2 (F_Mo_octet ma (xs (v3 + (1 : Int32)).toNatClampNeg) ((xs (v3 + (2 : Int32)).toNatClampNeg).toInt8.toInt32) S64) (fun x70 S69 =>
  (if x65 = x70 then
  F_Law_l L xs n xa ma (v3 + (4 : Int32)) S69
  else
  none)))))))))
  else
  (if ((xs v3.toNatClampNeg) &&& (15 : Int32)) = (6 : Int32) then
  (if (v3 + (1 : Int32)) < 0 ∨ L ≤ (v3 + (1 : Int32)).toNatClampNeg then none else
  (fw_b2 (F_FW_out xa (xs (v3 + (1 : Int32)).toNatClampNeg) S0) (fun x74 S73 =>
  (if (v3 + (1 : Int32)) < 0 ∨ L ≤ (v3 + (1 : Int32)).toNatClampNeg then none else
  (fw_b2 (F_Mo_out ma (xs (v3 + (1 : Int32)).toNatClampNeg) S73) (fun x78 S77 =>
  (if x74 = x78 then
  F_Law_l L xs n xa ma (v3 + (4 : Int32)) S77
  else
  none)))))))
  else
  (if ((xs v3.toNatClampNeg) &&& (15 : Int32)) = (7 : Int32) then
  (if (v3 + (1 : Int32)) < 0 ∨ L ≤ (v3 + (1 : Int32)).toNatClampNeg then none else
  (if (v3 + (2 : Int32)) < 0 ∨ L ≤ (v3 + (2 : Int32)).toNatClampNeg then none else
  (fw_b2 (F_FW_loop xa (xs (v3 + (1 : Int32)).toNatClampNeg) (xs (v3 + (2 : Int32)).toNatClampNeg) S0) (fun x83 S82 =>
  (if (v3 + (1 : Int32)) < 0 ∨ L ≤ (v3 + (1 : Int32)).toNatClampNeg then none else
  (if (v3 + (2 : Int32)) < 0 ∨ L ≤ (v3 + (2 : Int32)).toNatClampNeg then none else
  (fw_b2 (F_Mo_loop ma (xs (v3 + (1 : Int32)).toNatClampNeg) (xs (v3 + (2 : Int32)).toNatClampNeg) S82) (fun x88 S87 =>
  (if x83 = x88 then
  F_Law_l L xs n xa ma (v3 + (4 : Int32)) S87
  else
  none)))))))))
  else
  (if ((xs v3.toNatClampNeg) &&& (15 : Int32)) = (8 : Int32) then
  (if (v3 + (1 : Int32)) < 0 ∨ L ≤ (v3 + (1 : Int32)).toNatClampNeg then none else
  (fw_b2 (F_FW_tick xa (xs (v3 + (1 : Int32)).toNatClampNeg) S0) (fun x92 S91 =>
  (if (v3 + (1 : Int32)) < 0 ∨ L ≤ (v3 + (1 : Int32)).toNatClampNeg then none else
  (fw_b2 (F_Mo_tick ma (xs (v3 + (1 : Int32)).toNatClampNeg) S91) (fun x96 S95 =>
  (if x92 = x96 then
  F_Law_l L xs n xa ma (v3 + (4 : Int32)) S95
  else
  none)))))))
  else
  (if ((xs v3.toNatClampNeg) &&& (15 : Int32)) = (9 : Int32) then
  (if (v3 + (1 : Int32)) < 0 ∨ L ≤ (v3 + (1 : Int32)).toNatClampNeg then none else
  (if (v3 + (2 : Int32)) < 0 ∨ L ≤ (v3 + (2 : Int32)).toNatClampNeg then none else
  (Option.bind (F_FW_told xa (xs (v3 + (1 : Int32)).toNatClampNeg) (xs (v3 + (2 : Int32)).toNatClampNeg) S0) (fun x100 =>
  (if (v3 + (1 : Int32)) < 0 ∨ L ≤ (v3 + (1 : Int32)).toNatClampNeg then none else
  (if (v3 + (2 : Int32)) < 0 ∨ L ≤ (v3 + (2 : Int32)).toNatClampNeg then none else
  (Option.bind (F_Mo_told ma (xs (v3 + (1 : Int32)).toNatClampNeg) (xs (v3 + (2 : Int32)).toNatClampNeg) S0) (fun x104 =>
  (if x100 = x104 then
  F_Law_l L xs n xa ma (v3 + (4 : Int32)) S0
  else
  none)))))))))
  else
  (if ((xs v3.toNatClampNeg) &&& (15 : Int32)) = (10 : Int32) then
  (if (v3 + (1 : Int32)) < 0 ∨ L ≤ (v3 + (1 : Int32)).toNatClampNeg then none else
  (if (v3 + (2 : Int32)) < 0 ∨ L ≤ (v3 + (2 : Int32)).toNatClampNeg then none else
  (if (v3 + (3 : Int32)) < 0 ∨ L ≤ (v3 + (3 : Int32)).toNatClampNeg then none else
  (Option.bind (F_FW_row xa (xs (v3 + (1 : Int32)).toNatClampNeg) (xs (v3 + (2 : Int32)).toNatClampNeg) (xs (v3 + (3 : Int32)).toNatClampNeg) S0) (fun x109 =>
  (if (v3 + (1 : Int32)) < 0 ∨ L ≤ (v3 + (1 : Int32)).toNatClampNeg then none else
  (if (v3 + (2 : Int32)) < 0 ∨ L ≤ (v3 + (2 : Int32)).toNatClampNeg then none else
  (if (v3 + (3 : Int32)) < 0 ∨ L ≤ (v3 + (3 : Int32)).toNatClampNeg then none else
  (Option.bind (F_Mo_row ma (xs (v3 + (1 : Int32)).toNatClampNeg) (xs (v3 + (2 : Int32)).toNatClampNeg) (xs (v3 + (3 : Int32)).toNatClampNeg) S0) (fun x114 =>
  (if x109 = x114 then
  F_Law_l L xs n xa ma (v3 + (4 : Int32)) S0
  else
  none)))))))))))
  else
  (if ((xs v3.toNatClampNeg) &&& (15 : Int32)) = (11 : Int32) then
  (if (v3 + (1 : Int32)) < 0 ∨ L ≤ (v3 + (1 : Int32)).toNatClampNeg then none else
  (if (v3 + (2 : Int32)) < 0 ∨ L ≤ (v3 + (2 : Int32)).toNatClampNeg then none else
  (if (v3 + (3 : Int32)) < 0 ∨ L ≤ (v3 + (3 : Int32)).toNatClampNeg then none else
  (Option.bind (F_FW_joined xa (xs (v3 + (1 : Int32)).toNatClampNeg) (xs (v3 + (2 : Int32)).toNatClampNeg) (xs (v3 + (3 : Int32)).toNatClampNeg) S0) (fun x119 =>
  (if (v3 + (1 : Int32)) < 0 ∨ L ≤ (v3 + (1 : Int32)).toNatClampNeg then none else
  (if (v3 + (2 : Int32)) < 0 ∨ L ≤ (v3 + (2 : Int32)).toNatClampNeg then none else
  (if (v3 + (3 : Int32)) < 0 ∨ L ≤ (v3 + (3 : Int32)).toNatClampNeg then none else
  (Option.bind (F_Mo_joined ma (xs (v3 + (1 : Int32)).toNatClampNeg) (xs (v3 + (2 : Int32)).toNatClampNeg) (xs (v3 + (3 : Int32)).toNatClampNeg) S0) (fun x124 =>
  (if x119 = x124 then
  F_Law_l L xs n xa ma (v3 + (4 : Int32)) S0
  else
  none)))))))))))
  else
  (if ((xs v3.toNatClampNeg) &&& (15 : Int32)) = (12 : Int32) then
  (if (v3 + (1 : Int32)) < 0 ∨ L ≤ (v3 + (1 : Int32)).toNatClampNeg then none else
  (Option.bind (F_FW_estimate xa (xs (v3 + (1 : Int32)).toNatClampNeg) S0) (fun x127 =>
  (if (v3 + (1 : Int32)) < 0 ∨ L ≤ (v3 + (1 : Int32)).toNatClampNeg then none else
  (Option.bind (F_Mo_estimate ma (xs (v3 + (1 : Int32)).toNatClampNeg) S0) (fun x130 =>
  (if x127 = x130 then
  F_Law_l L xs n xa ma (v3 + (4 : Int32)) S0
  else
  none)))))))
  else
  (if ((xs v3.toNatClampNeg) &&& (15 : Int32)) = (13 : Int32) then
  (if (v3 + (1 : Int32)) < 0 ∨ L ≤ (v3 + (1 : Int32)).toNatClampNeg then none else
  (if (v3 + (2 : Int32)) < 0 ∨ L ≤ (v3 + (2 : Int32)).toNatClampNeg then none else
  (fw_b2 (F_FW_fact xa (xs (v3 + (1 : Int32)).toNatClampNeg) (xs (v3 + (2 : Int32)).toNatClampNeg) S0) (fun x135 S134 =>
  (if (v3 + (1 : Int32)) < 0 ∨ L ≤ (v3 + (1 : Int32)).toNatClampNeg then none else
  (if (v3 + (2 : Int32)) < 0 ∨ L ≤ (v3 + (2 : Int32)).toNatClampNeg then none else
  (fw_b2 (F_Mo_fact ma (xs (v3 + (1 : Int32)).toNatClampNeg) (xs (v3 + (2 : Int32)).toNatClampNeg) S134) (fun x140 S139 =>
  (if x135 = x140 then
  F_Law_l L xs n xa ma (v3 + (4 : Int32)) S139
  else
  none)))))))))
  else
  (if ((xs v3.toNatClampNeg) &&& (15 : Int32)) = (14 : Int32) then
  (if (v3 + (1 : Int32)) < 0 ∨ L ≤ (v3 + (1 : Int32)).toNatClampNeg then none else
  (Option.bind (F_FW_count xa (xs (v3 + (1 : Int32)).toNatClampNeg) S0) (fun x143 =>
  (if (v3 + (1 : Int32)) < 0 ∨ L ≤ (v3 + (1 : Int32)).toNatClampNeg then none else
  (Option.bind (F_Mo_count ma (xs (v3 + (1 : Int32)).toNatClampNeg) S0) (fun x146 =>
  (if x143 = x146 then
  F_Law_l L xs n xa ma (v3 + (4 : Int32)) S0
  else
  none)))))))
  else
  (if ((xs v3.toNatClampNeg) &&& (15 : Int32)) = (15 : Int32) then
  (if (v3 + (1 : Int32)) < 0 ∨ L ≤ (v3 + (1 : Int32)).toNatClampNeg then none else
  (if (v3 + (2 : Int32)) < 0 ∨ L ≤ (v3 + (2 : Int32)).toNatClampNeg then none else
  (Option.bind (F_FW_line xa (xs (v3 + (1 : Int32)).toNatClampNeg) (xs (v3 + (2 : Int32)).toNatClampNeg) S0) (fun x150 =>
  (if (v3 + (1 : Int32)) < 0 ∨ L ≤ (v3 + (1 : Int32)).toNatClampNeg then none else
  (if (v3 + (2 : Int32)) < 0 ∨ L ≤ (v3 + (2 : Int32)).toNatClampNeg then none else
  (Option.bind (F_Mo_line ma (xs (v3 + (1 : Int32)).toNatClampNeg) (xs (v3 + (2 : Int32)).toNatClampNeg) S0) (fun x154 =>
  (if x150 = x154 then
  F_Law_l L xs n xa ma (v3 + (4 : Int32)) S0
  else
  none)))))))))
  else
  F_Law_l L xs n xa ma (v3 + (4 : Int32)) S0))))))))))))))))))
set_option maxHeartbeats 4000000 in
set_option maxRecDepth 100000 in
theorem law_loop {p : Program} {l : Launch} {e : Env} {s : State} {m : MethodId} {below : List Frame} {meth : Method} {c : Code} {G : fw_G} {b L : Nat} {xs : Nat → Int32} (C : fw_C G "FederationWireLaw" code 4 ret p s m #[Value.ref b] meth c) (hX : va_X b L xs s G.2.2) (hbl : b < G.2.2.size) (hbA : ¬ fw_A G b) (hz : G.2.2 = s.heap) :
    ∀ (n : Nat) (ce sl : Nat), ce + n * 10 ≤ 600000 → sl + n * 364 ≤ 7302250 → ∀ (xa ma : Nat) (v3 : Int32) (S0 : fw_S) (kd : Nat → Option Nat), kd xa = some 6 → kd ma = some 7 → ∀ (H : Heap) (locs : List Loc) (ls : Array Slot), fw_R G kd S0 H locs → lv_has ls 4 [(0, .ref b), (1, .ref xa), (2, .ref ma), (3, .int v3)] → F_Law_l L xs n xa ma v3 S0 = some 1 →
      W p l e room_1 s m #[Value.ref b] below meth c H locs ce sl (lw_Z below #[Value.ref b] s) (F0 m 18 ls []) := by
  have hx := C.1
  have hb := C.2.1
  have hr := C.2.2.2.2.2.2.1
  have hlocks := C.2.2.2.2.2.1
  intro n
  induction n with
  | zero =>
    intro ce sl hce hsl xa ma v3 S0 kd hk_xa hk_ma H locs ls R hl hE
    rw [F_Law_l] at hE
    cases hE
  | succ n ih =>
    intro ce sl hce hsl xa ma v3 S0 kd hk_xa hk_ma H locs ls R hl hE
    rw [F_Law_l] at hE
    refine lv_iload_n hx hb d_Law_law_18 rfl (lv_at hl 3 rfl) ?_
    refine lv_aload_n hx hb d_Law_law_19 rfl (lv_at hl 0 rfl) ?_
    refine va_slen hx hb hX hbl hbA R.toS d_Law_law_20 ?_
    refine lv_iconst (v := 4) hx hb d_Law_law_21 (by decide) ?_
    refine lv_isub hx hb d_Law_law_22 ?_
    refine lv_icmp_gt (tgt := 624) hx hb d_Law_law_23 (by decide) (fun hc => ?_) (fun hc => ?_)
    · replace hE := fw_if_t hc hE
      refine lv_iconst (v := 1) hx hb d_Law_law_624 (by decide) ?_
      refine va_forget (fun q hq => hz ▸ R.2.2.2.1 q hq) ?_
      refine W.widen (k := 600000) (n := 7302250) (by omega) (by omega) ?_
      exact lw_ret hx hb hr hlocks d_Law_law_625
    · replace hE := fw_if_f hc hE
      refine lv_aload_n hx hb d_Law_law_26 rfl (lv_at hl 0 rfl) ?_
      refine lv_iload_n hx hb d_Law_law_27 rfl (lv_at hl 3 rfl) ?_
      obtain ⟨hi1, hE⟩ := fw_ifn hE
      refine va_sld hx hb hX hbl hbA R.toS hi1 d_Law_law_28 ?_
      refine lv_bipush (v := 15) hx hb d_Law_law_29 (by decide) ?_
      refine lv_iand hx hb d_Law_law_31 ?_
      by_cases hs156 : ((xs v3.toNatClampNeg) &&& (15 : Int32)) = (0 : Int32)
      · replace hE := fw_if_t hs156 hE
        refine lv_tableIn (off := 80) (tgt := 112) hx hb d_Law_law_32 (by rw [hs156]; decide) (by rw [hs156]; decide) (by rw [hs156]; rfl) (by decide) ?_
        refine lv_aload_n hx hb d_Law_law_112 rfl (lv_at hl 1 rfl) ?_
        refine lv_aload_n hx hb d_Law_law_113 rfl (lv_at hl 0 rfl) ?_
        refine lv_iload_n hx hb d_Law_law_114 rfl (lv_at hl 3 rfl) ?_
        refine lv_iconst (v := 1) hx hb d_Law_law_115 (by decide) ?_
        refine lv_iadd hx hb d_Law_law_116 ?_
        obtain ⟨hi2, hE⟩ := fw_ifn hE
        refine va_sld hx hb hX hbl hbA R.toS hi2 d_Law_law_117 ?_
        obtain ⟨x4, S3, hF, hE⟩ := fw_b2_ex hE
        refine fw_callV (As := [.int (xs (v3 + (1 : Int32)).toNatClampNeg)]) (rest := []) C R ft_callV_FederationWireLaw_13 yi_FW_up ys_FW_up (ct_FW_up l G kd S0 _ _ _ _ hk_xa hF) hk_xa (by decide) rfl rfl hl.1 rfl (lv_room (Nat.le_of_ble_eq_true rfl)) ⟨Nat.le_of_ble_eq_true rfl, Nat.le_of_ble_eq_true rfl⟩ ⟨by show _ ≤ 600000; omega, by show _ ≤ 7302250; omega⟩ d_Law_law_118 (fun H locs kd5 hxkd5 hP R => ?_)
        rw [hP] at R; clear hP hxkd5
        refine lv_aload_n hx hb d_Law_law_121 rfl (lv_at hl 2 rfl) ?_
        refine lv_aload_n hx hb d_Law_law_122 rfl (lv_at hl 0 rfl) ?_
        refine lv_iload_n hx hb d_Law_law_123 rfl (lv_at hl 3 rfl) ?_
        refine lv_iconst (v := 1) hx hb d_Law_law_124 (by decide) ?_
        refine lv_iadd hx hb d_Law_law_125 ?_
        obtain ⟨hi6, hE⟩ := fw_ifn hE
        refine va_sld hx hb hX hbl hbA R.toS hi6 d_Law_law_126 ?_
        obtain ⟨x8, S7, hF, hE⟩ := fw_b2_ex hE
        refine fw_callV (As := [.int (xs (v3 + (1 : Int32)).toNatClampNeg)]) (rest := [.int x4]) C R ft_callV_FederationWireLaw_17 yi_Mo_up ys_Mo_up (ct_Mo_up l G kd S3 _ _ _ _ hk_ma hF) hk_ma (by decide) rfl rfl hl.1 rfl (lv_room (Nat.le_of_ble_eq_true rfl)) ⟨Nat.le_of_ble_eq_true rfl, Nat.le_of_ble_eq_true rfl⟩ ⟨by show _ ≤ 600000; omega, by show _ ≤ 7302250; omega⟩ d_Law_law_127 (fun H locs kd9 hxkd9 hP R => ?_)
        rw [hP] at R; clear hP hxkd9
        refine lv_icmp_eq (tgt := 618) hx hb d_Law_law_130 (by decide) (fun hc => ?_) (fun hc => ?_)
        · replace hE := fw_if_t hc hE
          refine lv_iinc (v := (v3 + (4 : Int32))) (lv' := [(3, .int (v3 + (4 : Int32))), (0, .ref b), (1, .ref xa), (2, .ref ma)]) hx hb d_Law_law_618 hl (k := 3) rfl rfl (by decide) rfl (fun ls hl => ?_)
          refine lv_goto (tgt := 18) hx hb d_Law_law_621 (by decide) ?_
          exact ih _ _ (by omega) (by omega) _ _ _ _ _ hk_xa hk_ma _ _ _ R (lv_sub hl [1, 2, 3, 0] rfl) hE
        · replace hE := fw_if_f hc hE
          refine lv_iconst (v := 0) hx hb d_Law_law_133 (by decide) ?_
          cases hE
      · replace hE := fw_if_f hs156 hE
        by_cases hs157 : ((xs v3.toNatClampNeg) &&& (15 : Int32)) = (1 : Int32)
        · replace hE := fw_if_t hs157 hE
          refine lv_tableIn (off := 103) (tgt := 135) hx hb d_Law_law_32 (by rw [hs157]; decide) (by rw [hs157]; decide) (by rw [hs157]; rfl) (by decide) ?_
          refine lv_aload_n hx hb d_Law_law_135 rfl (lv_at hl 1 rfl) ?_
          refine lv_aload_n hx hb d_Law_law_136 rfl (lv_at hl 0 rfl) ?_
          refine lv_iload_n hx hb d_Law_law_137 rfl (lv_at hl 3 rfl) ?_
          refine lv_iconst (v := 1) hx hb d_Law_law_138 (by decide) ?_
          refine lv_iadd hx hb d_Law_law_139 ?_
          obtain ⟨hi10, hE⟩ := fw_ifn hE
          refine va_sld hx hb hX hbl hbA R.toS hi10 d_Law_law_140 ?_
          obtain ⟨x12, S11, hF, hE⟩ := fw_b2_ex hE
          refine fw_callV (As := [.int (xs (v3 + (1 : Int32)).toNatClampNeg)]) (rest := []) C R ft_callV_FederationWireLaw_18 yi_FW_down ys_FW_down (ct_FW_down l G kd S0 _ _ _ _ hk_xa hF) hk_xa (by decide) rfl rfl hl.1 rfl (lv_room (Nat.le_of_ble_eq_true rfl)) ⟨Nat.le_of_ble_eq_true rfl, Nat.le_of_ble_eq_true rfl⟩ ⟨by show _ ≤ 600000; omega, by show _ ≤ 7302250; omega⟩ d_Law_law_141 (fun H locs kd13 hxkd13 hP R => ?_)
          rw [hP] at R; clear hP hxkd13
          refine lv_aload_n hx hb d_Law_law_144 rfl (lv_at hl 2 rfl) ?_
          refine lv_aload_n hx hb d_Law_law_145 rfl (lv_at hl 0 rfl) ?_
          refine lv_iload_n hx hb d_Law_law_146 rfl (lv_at hl 3 rfl) ?_
          refine lv_iconst (v := 1) hx hb d_Law_law_147 (by decide) ?_
          refine lv_iadd hx hb d_Law_law_148 ?_
          obtain ⟨hi14, hE⟩ := fw_ifn hE
          refine va_sld hx hb hX hbl hbA R.toS hi14 d_Law_law_149 ?_
          obtain ⟨x16, S15, hF, hE⟩ := fw_b2_ex hE
          refine fw_callV (As := [.int (xs (v3 + (1 : Int32)).toNatClampNeg)]) (rest := [.int x12]) C R ft_callV_FederationWireLaw_21 yi_Mo_down ys_Mo_down (ct_Mo_down l G kd S11 _ _ _ _ hk_ma hF) hk_ma (by decide) rfl rfl hl.1 rfl (lv_room (Nat.le_of_ble_eq_true rfl)) ⟨Nat.le_of_ble_eq_true rfl, Nat.le_of_ble_eq_true rfl⟩ ⟨by show _ ≤ 600000; omega, by show _ ≤ 7302250; omega⟩ d_Law_law_150 (fun H locs kd17 hxkd17 hP R => ?_)
          rw [hP] at R; clear hP hxkd17
          refine lv_icmp_eq (tgt := 618) hx hb d_Law_law_153 (by decide) (fun hc => ?_) (fun hc => ?_)
          · replace hE := fw_if_t hc hE
            refine lv_iinc (v := (v3 + (4 : Int32))) (lv' := [(3, .int (v3 + (4 : Int32))), (0, .ref b), (1, .ref xa), (2, .ref ma)]) hx hb d_Law_law_618 hl (k := 3) rfl rfl (by decide) rfl (fun ls hl => ?_)
            refine lv_goto (tgt := 18) hx hb d_Law_law_621 (by decide) ?_
            exact ih _ _ (by omega) (by omega) _ _ _ _ _ hk_xa hk_ma _ _ _ R (lv_sub hl [1, 2, 3, 0] rfl) hE
          · replace hE := fw_if_f hc hE
            refine lv_iconst (v := 0) hx hb d_Law_law_156 (by decide) ?_
            cases hE
        · replace hE := fw_if_f hs157 hE
          by_cases hs158 : ((xs v3.toNatClampNeg) &&& (15 : Int32)) = (2 : Int32)
          · replace hE := fw_if_t hs158 hE
            refine lv_tableIn (off := 126) (tgt := 158) hx hb d_Law_law_32 (by rw [hs158]; decide) (by rw [hs158]; decide) (by rw [hs158]; rfl) (by decide) ?_
            refine lv_aload_n hx hb d_Law_law_158 rfl (lv_at hl 1 rfl) ?_
            refine lv_aload_n hx hb d_Law_law_159 rfl (lv_at hl 0 rfl) ?_
            refine lv_iload_n hx hb d_Law_law_160 rfl (lv_at hl 3 rfl) ?_
            refine lv_iconst (v := 1) hx hb d_Law_law_161 (by decide) ?_
            refine lv_iadd hx hb d_Law_law_162 ?_
            obtain ⟨hi18, hE⟩ := fw_ifn hE
            refine va_sld hx hb hX hbl hbA R.toS hi18 d_Law_law_163 ?_
            refine lv_aload_n hx hb d_Law_law_164 rfl (lv_at hl 0 rfl) ?_
            refine lv_iload_n hx hb d_Law_law_165 rfl (lv_at hl 3 rfl) ?_
            refine lv_iconst (v := 2) hx hb d_Law_law_166 (by decide) ?_
            refine lv_iadd hx hb d_Law_law_167 ?_
            obtain ⟨hi19, hE⟩ := fw_ifn hE
            refine va_sld hx hb hX hbl hbA R.toS hi19 d_Law_law_168 ?_
            obtain ⟨x21, S20, hF, hE⟩ := fw_b2_ex hE
            refine fw_callV (As := [.int (xs (v3 + (1 : Int32)).toNatClampNeg), .int (xs (v3 + (2 : Int32)).toNatClampNeg)]) (rest := []) C R ft_callV_FederationWireLaw_22 yi_FW_setting ys_FW_setting (ct_FW_setting l G kd S0 _ _ _ _ _ hk_xa hF) hk_xa (by decide) rfl rfl hl.1 rfl (lv_room (Nat.le_of_ble_eq_true rfl)) ⟨Nat.le_of_ble_eq_true rfl, Nat.le_of_ble_eq_true rfl⟩ ⟨by show _ ≤ 600000; omega, by show _ ≤ 7302250; omega⟩ d_Law_law_169 (fun H locs kd22 hxkd22 hP R => ?_)
            rw [hP] at R; clear hP hxkd22
            refine lv_aload_n hx hb d_Law_law_172 rfl (lv_at hl 2 rfl) ?_
            refine lv_aload_n hx hb d_Law_law_173 rfl (lv_at hl 0 rfl) ?_
            refine lv_iload_n hx hb d_Law_law_174 rfl (lv_at hl 3 rfl) ?_
            refine lv_iconst (v := 1) hx hb d_Law_law_175 (by decide) ?_
            refine lv_iadd hx hb d_Law_law_176 ?_
            obtain ⟨hi23, hE⟩ := fw_ifn hE
            refine va_sld hx hb hX hbl hbA R.toS hi23 d_Law_law_177 ?_
            refine lv_aload_n hx hb d_Law_law_178 rfl (lv_at hl 0 rfl) ?_
            refine lv_iload_n hx hb d_Law_law_179 rfl (lv_at hl 3 rfl) ?_
            refine lv_iconst (v := 2) hx hb d_Law_law_180 (by decide) ?_
            refine lv_iadd hx hb d_Law_law_181 ?_
            obtain ⟨hi24, hE⟩ := fw_ifn hE
            refine va_sld hx hb hX hbl hbA R.toS hi24 d_Law_law_182 ?_
            obtain ⟨x26, S25, hF, hE⟩ := fw_b2_ex hE
            refine fw_callV (As := [.int (xs (v3 + (1 : Int32)).toNatClampNeg), .int (xs (v3 + (2 : Int32)).toNatClampNeg)]) (rest := [.int x21]) C R ft_callV_FederationWireLaw_26 yi_Mo_setting ys_Mo_setting (ct_Mo_setting l G kd S20 _ _ _ _ _ hk_ma hF) hk_ma (by decide) rfl rfl hl.1 rfl (lv_room (Nat.le_of_ble_eq_true rfl)) ⟨Nat.le_of_ble_eq_true rfl, Nat.le_of_ble_eq_true rfl⟩ ⟨by show _ ≤ 600000; omega, by show _ ≤ 7302250; omega⟩ d_Law_law_183 (fun H locs kd27 hxkd27 hP R => ?_)
            rw [hP] at R; clear hP hxkd27
            refine lv_icmp_eq (tgt := 618) hx hb d_Law_law_186 (by decide) (fun hc => ?_) (fun hc => ?_)
            · replace hE := fw_if_t hc hE
              refine lv_iinc (v := (v3 + (4 : Int32))) (lv' := [(3, .int (v3 + (4 : Int32))), (0, .ref b), (1, .ref xa), (2, .ref ma)]) hx hb d_Law_law_618 hl (k := 3) rfl rfl (by decide) rfl (fun ls hl => ?_)
              refine lv_goto (tgt := 18) hx hb d_Law_law_621 (by decide) ?_
              exact ih _ _ (by omega) (by omega) _ _ _ _ _ hk_xa hk_ma _ _ _ R (lv_sub hl [1, 2, 3, 0] rfl) hE
            · replace hE := fw_if_f hc hE
              refine lv_iconst (v := 0) hx hb d_Law_law_189 (by decide) ?_
              cases hE
          · replace hE := fw_if_f hs158 hE
            by_cases hs159 : ((xs v3.toNatClampNeg) &&& (15 : Int32)) = (3 : Int32)
            · replace hE := fw_if_t hs159 hE
              refine lv_tableIn (off := 159) (tgt := 191) hx hb d_Law_law_32 (by rw [hs159]; decide) (by rw [hs159]; decide) (by rw [hs159]; rfl) (by decide) ?_
              refine lv_aload_n hx hb d_Law_law_191 rfl (lv_at hl 1 rfl) ?_
              refine lv_aload_n hx hb d_Law_law_192 rfl (lv_at hl 0 rfl) ?_
              refine lv_iload_n hx hb d_Law_law_193 rfl (lv_at hl 3 rfl) ?_
              refine lv_iconst (v := 1) hx hb d_Law_law_194 (by decide) ?_
              refine lv_iadd hx hb d_Law_law_195 ?_
              obtain ⟨hi28, hE⟩ := fw_ifn hE
              refine va_sld hx hb hX hbl hbA R.toS hi28 d_Law_law_196 ?_
              refine lv_aload_n hx hb d_Law_law_197 rfl (lv_at hl 0 rfl) ?_
              refine lv_iload_n hx hb d_Law_law_198 rfl (lv_at hl 3 rfl) ?_
              refine lv_iconst (v := 2) hx hb d_Law_law_199 (by decide) ?_
              refine lv_iadd hx hb d_Law_law_200 ?_
              obtain ⟨hi29, hE⟩ := fw_ifn hE
              refine va_sld hx hb hX hbl hbA R.toS hi29 d_Law_law_201 ?_
              obtain ⟨x31, S30, hF, hE⟩ := fw_b2_ex hE
              refine fw_callV (As := [.int (xs (v3 + (1 : Int32)).toNatClampNeg), .int (xs (v3 + (2 : Int32)).toNatClampNeg)]) (rest := []) C R ft_callV_FederationWireLaw_27 yi_FW_bind ys_FW_bind (ct_FW_bind l G kd S0 _ _ _ _ _ hk_xa hF) hk_xa (by decide) rfl rfl hl.1 rfl (lv_room (Nat.le_of_ble_eq_true rfl)) ⟨Nat.le_of_ble_eq_true rfl, Nat.le_of_ble_eq_true rfl⟩ ⟨by show _ ≤ 600000; omega, by show _ ≤ 7302250; omega⟩ d_Law_law_202 (fun H locs kd32 hxkd32 hP R => ?_)
              rw [hP] at R; clear hP hxkd32
              refine lv_aload_n hx hb d_Law_law_205 rfl (lv_at hl 2 rfl) ?_
              refine lv_aload_n hx hb d_Law_law_206 rfl (lv_at hl 0 rfl) ?_
              refine lv_iload_n hx hb d_Law_law_207 rfl (lv_at hl 3 rfl) ?_
              refine lv_iconst (v := 1) hx hb d_Law_law_208 (by decide) ?_
              refine lv_iadd hx hb d_Law_law_209 ?_
              obtain ⟨hi33, hE⟩ := fw_ifn hE
              refine va_sld hx hb hX hbl hbA R.toS hi33 d_Law_law_210 ?_
              refine lv_aload_n hx hb d_Law_law_211 rfl (lv_at hl 0 rfl) ?_
              refine lv_iload_n hx hb d_Law_law_212 rfl (lv_at hl 3 rfl) ?_
              refine lv_iconst (v := 2) hx hb d_Law_law_213 (by decide) ?_
              refine lv_iadd hx hb d_Law_law_214 ?_
              obtain ⟨hi34, hE⟩ := fw_ifn hE
              refine va_sld hx hb hX hbl hbA R.toS hi34 d_Law_law_215 ?_
              obtain ⟨x36, S35, hF, hE⟩ := fw_b2_ex hE
              refine fw_callV (As := [.int (xs (v3 + (1 : Int32)).toNatClampNeg), .int (xs (v3 + (2 : Int32)).toNatClampNeg)]) (rest := [.int x31]) C R ft_callV_FederationWireLaw_30 yi_Mo_bind ys_Mo_bind (ct_Mo_bind l G kd S30 _ _ _ _ _ hk_ma hF) hk_ma (by decide) rfl rfl hl.1 rfl (lv_room (Nat.le_of_ble_eq_true rfl)) ⟨Nat.le_of_ble_eq_true rfl, Nat.le_of_ble_eq_true rfl⟩ ⟨by show _ ≤ 600000; omega, by show _ ≤ 7302250; omega⟩ d_Law_law_216 (fun H locs kd37 hxkd37 hP R => ?_)
              rw [hP] at R; clear hP hxkd37
              refine lv_icmp_eq (tgt := 618) hx hb d_Law_law_219 (by decide) (fun hc => ?_) (fun hc => ?_)
              · replace hE := fw_if_t hc hE
                refine lv_iinc (v := (v3 + (4 : Int32))) (lv' := [(3, .int (v3 + (4 : Int32))), (0, .ref b), (1, .ref xa), (2, .ref ma)]) hx hb d_Law_law_618 hl (k := 3) rfl rfl (by decide) rfl (fun ls hl => ?_)
                refine lv_goto (tgt := 18) hx hb d_Law_law_621 (by decide) ?_
                exact ih _ _ (by omega) (by omega) _ _ _ _ _ hk_xa hk_ma _ _ _ R (lv_sub hl [1, 2, 3, 0] rfl) hE
              · replace hE := fw_if_f hc hE
                refine lv_iconst (v := 0) hx hb d_Law_law_222 (by decide) ?_
                cases hE
            · replace hE := fw_if_f hs159 hE
              by_cases hs160 : ((xs v3.toNatClampNeg) &&& (15 : Int32)) = (4 : Int32)
              · replace hE := fw_if_t hs160 hE
                refine lv_tableIn (off := 192) (tgt := 224) hx hb d_Law_law_32 (by rw [hs160]; decide) (by rw [hs160]; decide) (by rw [hs160]; rfl) (by decide) ?_
                refine lv_aload_n hx hb d_Law_law_224 rfl (lv_at hl 1 rfl) ?_
                refine lv_aload_n hx hb d_Law_law_225 rfl (lv_at hl 0 rfl) ?_
                refine lv_iload_n hx hb d_Law_law_226 rfl (lv_at hl 3 rfl) ?_
                refine lv_iconst (v := 1) hx hb d_Law_law_227 (by decide) ?_
                refine lv_iadd hx hb d_Law_law_228 ?_
                obtain ⟨hi38, hE⟩ := fw_ifn hE
                refine va_sld hx hb hX hbl hbA R.toS hi38 d_Law_law_229 ?_
                refine lv_aload_n hx hb d_Law_law_230 rfl (lv_at hl 0 rfl) ?_
                refine lv_iload_n hx hb d_Law_law_231 rfl (lv_at hl 3 rfl) ?_
                refine lv_iconst (v := 2) hx hb d_Law_law_232 (by decide) ?_
                refine lv_iadd hx hb d_Law_law_233 ?_
                obtain ⟨hi39, hE⟩ := fw_ifn hE
                refine va_sld hx hb hX hbl hbA R.toS hi39 d_Law_law_234 ?_
                refine lv_if_eq (tgt := 242) hx hb d_Law_law_235 (by decide) (fun hc => ?_) (fun hc => ?_)
                · replace hE := fw_if_t hc hE
                  refine lv_iconst (v := 0) hx hb d_Law_law_242 (by decide) ?_
                  obtain ⟨x41, S40, hF, hE⟩ := fw_b2_ex hE
                  refine fw_callV (As := [.int (xs (v3 + (1 : Int32)).toNatClampNeg), .int (0 : Int32)]) (rest := []) C R ft_callV_FederationWireLaw_31 yi_FW_ask ys_FW_ask (ct_FW_ask l G kd S0 _ _ _ _ _ hk_xa hF) hk_xa (by decide) rfl rfl hl.1 rfl (lv_room (Nat.le_of_ble_eq_true rfl)) ⟨Nat.le_of_ble_eq_true rfl, Nat.le_of_ble_eq_true rfl⟩ ⟨by show _ ≤ 600000; omega, by show _ ≤ 7302250; omega⟩ d_Law_law_243 (fun H locs kd42 hxkd42 hP R => ?_)
                  have hXkd42 := fw_X.tr fw_X.rf hxkd42
                  have hk_xa := hxkd42 _ _ hk_xa
                  have hk_ma := hxkd42 _ _ hk_ma
                  refine lv_aload_n hx hb d_Law_law_246 rfl (lv_at hl 2 rfl) ?_
                  refine lv_aload_n hx hb d_Law_law_247 rfl (lv_at hl 0 rfl) ?_
                  refine lv_iload_n hx hb d_Law_law_248 rfl (lv_at hl 3 rfl) ?_
                  refine lv_iconst (v := 1) hx hb d_Law_law_249 (by decide) ?_
                  refine lv_iadd hx hb d_Law_law_250 ?_
                  obtain ⟨hi43, hE⟩ := fw_ifn hE
                  refine va_sld hx hb hX hbl hbA R.toS hi43 d_Law_law_251 ?_
                  refine lv_aload_n hx hb d_Law_law_252 rfl (lv_at hl 0 rfl) ?_
                  refine lv_iload_n hx hb d_Law_law_253 rfl (lv_at hl 3 rfl) ?_
                  refine lv_iconst (v := 2) hx hb d_Law_law_254 (by decide) ?_
                  refine lv_iadd hx hb d_Law_law_255 ?_
                  obtain ⟨hi44, hE⟩ := fw_ifn hE
                  refine va_sld hx hb hX hbl hbA R.toS hi44 d_Law_law_256 ?_
                  refine lv_if_eq (tgt := 264) hx hb d_Law_law_257 (by decide) (fun hc => ?_) (fun hc => ?_)
                  · replace hE := fw_if_t hc hE
                    refine lv_iconst (v := 0) hx hb d_Law_law_264 (by decide) ?_
                    obtain ⟨x46, S45, hF, hE⟩ := fw_b2_ex hE
                    refine fw_callV (As := [.int (xs (v3 + (1 : Int32)).toNatClampNeg), .int (0 : Int32)]) (rest := [.int x41]) C R ft_callV_FederationWireLaw_35 yi_Mo_ask ys_Mo_ask (ct_Mo_ask l G kd42 S40 _ _ _ _ _ hk_ma hF) hk_ma (by decide) rfl rfl hl.1 rfl (lv_room (Nat.le_of_ble_eq_true rfl)) ⟨Nat.le_of_ble_eq_true rfl, Nat.le_of_ble_eq_true rfl⟩ ⟨by show _ ≤ 600000; omega, by show _ ≤ 7302250; omega⟩ d_Law_law_265 (fun H locs kd47 hxkd47 hP R => ?_)
                    rw [hP] at R; clear hP hxkd47
                    refine lv_icmp_eq (tgt := 618) hx hb d_Law_law_268 (by decide) (fun hc => ?_) (fun hc => ?_)
                    · replace hE := fw_if_t hc hE
                      refine lv_iinc (v := (v3 + (4 : Int32))) (lv' := [(3, .int (v3 + (4 : Int32))), (0, .ref b), (1, .ref xa), (2, .ref ma)]) hx hb d_Law_law_618 hl (k := 3) rfl rfl (by decide) rfl (fun ls hl => ?_)
                      refine lv_goto (tgt := 18) hx hb d_Law_law_621 (by decide) ?_
                      exact ih _ _ (by omega) (by omega) _ _ _ _ _ hk_xa hk_ma _ _ _ R (lv_sub hl [1, 2, 3, 0] rfl) hE
                    · replace hE := fw_if_f hc hE
                      refine lv_iconst (v := 0) hx hb d_Law_law_271 (by decide) ?_
                      cases hE
                  · replace hE := fw_if_f hc hE
                    refine lv_iconst (v := 1) hx hb d_Law_law_260 (by decide) ?_
                    refine lv_goto (tgt := 265) hx hb d_Law_law_261 (by decide) ?_
                    obtain ⟨x49, S48, hF, hE⟩ := fw_b2_ex hE
                    refine fw_callV (As := [.int (xs (v3 + (1 : Int32)).toNatClampNeg), .int (1 : Int32)]) (rest := [.int x41]) C R ft_callV_FederationWireLaw_35 yi_Mo_ask ys_Mo_ask (ct_Mo_ask l G kd42 S40 _ _ _ _ _ hk_ma hF) hk_ma (by decide) rfl rfl hl.1 rfl (lv_room (Nat.le_of_ble_eq_true rfl)) ⟨Nat.le_of_ble_eq_true rfl, Nat.le_of_ble_eq_true rfl⟩ ⟨by show _ ≤ 600000; omega, by show _ ≤ 7302250; omega⟩ d_Law_law_265 (fun H locs kd50 hxkd50 hP R => ?_)
                    rw [hP] at R; clear hP hxkd50
                    refine lv_icmp_eq (tgt := 618) hx hb d_Law_law_268 (by decide) (fun hc => ?_) (fun hc => ?_)
                    · replace hE := fw_if_t hc hE
                      refine lv_iinc (v := (v3 + (4 : Int32))) (lv' := [(3, .int (v3 + (4 : Int32))), (0, .ref b), (1, .ref xa), (2, .ref ma)]) hx hb d_Law_law_618 hl (k := 3) rfl rfl (by decide) rfl (fun ls hl => ?_)
                      refine lv_goto (tgt := 18) hx hb d_Law_law_621 (by decide) ?_
                      exact ih _ _ (by omega) (by omega) _ _ _ _ _ hk_xa hk_ma _ _ _ R (lv_sub hl [1, 2, 3, 0] rfl) hE
                    · replace hE := fw_if_f hc hE
                      refine lv_iconst (v := 0) hx hb d_Law_law_271 (by decide) ?_
                      cases hE
                · replace hE := fw_if_f hc hE
                  refine lv_iconst (v := 1) hx hb d_Law_law_238 (by decide) ?_
                  refine lv_goto (tgt := 243) hx hb d_Law_law_239 (by decide) ?_
                  obtain ⟨x52, S51, hF, hE⟩ := fw_b2_ex hE
                  refine fw_callV (As := [.int (xs (v3 + (1 : Int32)).toNatClampNeg), .int (1 : Int32)]) (rest := []) C R ft_callV_FederationWireLaw_31 yi_FW_ask ys_FW_ask (ct_FW_ask l G kd S0 _ _ _ _ _ hk_xa hF) hk_xa (by decide) rfl rfl hl.1 rfl (lv_room (Nat.le_of_ble_eq_true rfl)) ⟨Nat.le_of_ble_eq_true rfl, Nat.le_of_ble_eq_true rfl⟩ ⟨by show _ ≤ 600000; omega, by show _ ≤ 7302250; omega⟩ d_Law_law_243 (fun H locs kd53 hxkd53 hP R => ?_)
                  have hXkd53 := fw_X.tr fw_X.rf hxkd53
                  have hk_xa := hxkd53 _ _ hk_xa
                  have hk_ma := hxkd53 _ _ hk_ma
                  refine lv_aload_n hx hb d_Law_law_246 rfl (lv_at hl 2 rfl) ?_
                  refine lv_aload_n hx hb d_Law_law_247 rfl (lv_at hl 0 rfl) ?_
                  refine lv_iload_n hx hb d_Law_law_248 rfl (lv_at hl 3 rfl) ?_
                  refine lv_iconst (v := 1) hx hb d_Law_law_249 (by decide) ?_
                  refine lv_iadd hx hb d_Law_law_250 ?_
                  obtain ⟨hi54, hE⟩ := fw_ifn hE
                  refine va_sld hx hb hX hbl hbA R.toS hi54 d_Law_law_251 ?_
                  refine lv_aload_n hx hb d_Law_law_252 rfl (lv_at hl 0 rfl) ?_
                  refine lv_iload_n hx hb d_Law_law_253 rfl (lv_at hl 3 rfl) ?_
                  refine lv_iconst (v := 2) hx hb d_Law_law_254 (by decide) ?_
                  refine lv_iadd hx hb d_Law_law_255 ?_
                  obtain ⟨hi55, hE⟩ := fw_ifn hE
                  refine va_sld hx hb hX hbl hbA R.toS hi55 d_Law_law_256 ?_
                  refine lv_if_eq (tgt := 264) hx hb d_Law_law_257 (by decide) (fun hc => ?_) (fun hc => ?_)
                  · replace hE := fw_if_t hc hE
                    refine lv_iconst (v := 0) hx hb d_Law_law_264 (by decide) ?_
                    obtain ⟨x57, S56, hF, hE⟩ := fw_b2_ex hE
                    refine fw_callV (As := [.int (xs (v3 + (1 : Int32)).toNatClampNeg), .int (0 : Int32)]) (rest := [.int x52]) C R ft_callV_FederationWireLaw_35 yi_Mo_ask ys_Mo_ask (ct_Mo_ask l G kd53 S51 _ _ _ _ _ hk_ma hF) hk_ma (by decide) rfl rfl hl.1 rfl (lv_room (Nat.le_of_ble_eq_true rfl)) ⟨Nat.le_of_ble_eq_true rfl, Nat.le_of_ble_eq_true rfl⟩ ⟨by show _ ≤ 600000; omega, by show _ ≤ 7302250; omega⟩ d_Law_law_265 (fun H locs kd58 hxkd58 hP R => ?_)
                    rw [hP] at R; clear hP hxkd58
                    refine lv_icmp_eq (tgt := 618) hx hb d_Law_law_268 (by decide) (fun hc => ?_) (fun hc => ?_)
                    · replace hE := fw_if_t hc hE
                      refine lv_iinc (v := (v3 + (4 : Int32))) (lv' := [(3, .int (v3 + (4 : Int32))), (0, .ref b), (1, .ref xa), (2, .ref ma)]) hx hb d_Law_law_618 hl (k := 3) rfl rfl (by decide) rfl (fun ls hl => ?_)
                      refine lv_goto (tgt := 18) hx hb d_Law_law_621 (by decide) ?_
                      exact ih _ _ (by omega) (by omega) _ _ _ _ _ hk_xa hk_ma _ _ _ R (lv_sub hl [1, 2, 3, 0] rfl) hE
                    · replace hE := fw_if_f hc hE
                      refine lv_iconst (v := 0) hx hb d_Law_law_271 (by decide) ?_
                      cases hE
                  · replace hE := fw_if_f hc hE
                    refine lv_iconst (v := 1) hx hb d_Law_law_260 (by decide) ?_
                    refine lv_goto (tgt := 265) hx hb d_Law_law_261 (by decide) ?_
                    obtain ⟨x60, S59, hF, hE⟩ := fw_b2_ex hE
                    refine fw_callV (As := [.int (xs (v3 + (1 : Int32)).toNatClampNeg), .int (1 : Int32)]) (rest := [.int x52]) C R ft_callV_FederationWireLaw_35 yi_Mo_ask ys_Mo_ask (ct_Mo_ask l G kd53 S51 _ _ _ _ _ hk_ma hF) hk_ma (by decide) rfl rfl hl.1 rfl (lv_room (Nat.le_of_ble_eq_true rfl)) ⟨Nat.le_of_ble_eq_true rfl, Nat.le_of_ble_eq_true rfl⟩ ⟨by show _ ≤ 600000; omega, by show _ ≤ 7302250; omega⟩ d_Law_law_265 (fun H locs kd61 hxkd61 hP R => ?_)
                    rw [hP] at R; clear hP hxkd61
                    refine lv_icmp_eq (tgt := 618) hx hb d_Law_law_268 (by decide) (fun hc => ?_) (fun hc => ?_)
                    · replace hE := fw_if_t hc hE
                      refine lv_iinc (v := (v3 + (4 : Int32))) (lv' := [(3, .int (v3 + (4 : Int32))), (0, .ref b), (1, .ref xa), (2, .ref ma)]) hx hb d_Law_law_618 hl (k := 3) rfl rfl (by decide) rfl (fun ls hl => ?_)
                      refine lv_goto (tgt := 18) hx hb d_Law_law_621 (by decide) ?_
                      exact ih _ _ (by omega) (by omega) _ _ _ _ _ hk_xa hk_ma _ _ _ R (lv_sub hl [1, 2, 3, 0] rfl) hE
                    · replace hE := fw_if_f hc hE
                      refine lv_iconst (v := 0) hx hb d_Law_law_271 (by decide) ?_
                      cases hE
              · replace hE := fw_if_f hs160 hE
                by_cases hs161 : ((xs v3.toNatClampNeg) &&& (15 : Int32)) = (5 : Int32)
                · replace hE := fw_if_t hs161 hE
                  refine lv_tableIn (off := 241) (tgt := 273) hx hb d_Law_law_32 (by rw [hs161]; decide) (by rw [hs161]; decide) (by rw [hs161]; rfl) (by decide) ?_
                  refine lv_aload_n hx hb d_Law_law_273 rfl (lv_at hl 1 rfl) ?_
                  refine lv_aload_n hx hb d_Law_law_274 rfl (lv_at hl 0 rfl) ?_
                  refine lv_iload_n hx hb d_Law_law_275 rfl (lv_at hl 3 rfl) ?_
                  refine lv_iconst (v := 1) hx hb d_Law_law_276 (by decide) ?_
                  refine lv_iadd hx hb d_Law_law_277 ?_
                  obtain ⟨hi62, hE⟩ := fw_ifn hE
                  refine va_sld hx hb hX hbl hbA R.toS hi62 d_Law_law_278 ?_
                  refine lv_aload_n hx hb d_Law_law_279 rfl (lv_at hl 0 rfl) ?_
                  refine lv_iload_n hx hb d_Law_law_280 rfl (lv_at hl 3 rfl) ?_
                  refine lv_iconst (v := 2) hx hb d_Law_law_281 (by decide) ?_
                  refine lv_iadd hx hb d_Law_law_282 ?_
                  obtain ⟨hi63, hE⟩ := fw_ifn hE
                  refine va_sld hx hb hX hbl hbA R.toS hi63 d_Law_law_283 ?_
                  refine lv_i2b (v := (xs (v3 + (2 : Int32)).toNatClampNeg).toInt8.toInt32) hx hb d_Law_law_284 rfl ?_
                  obtain ⟨x65, S64, hF, hE⟩ := fw_b2_ex hE
                  refine fw_callV (As := [.int (xs (v3 + (1 : Int32)).toNatClampNeg), .int ((xs (v3 + (2 : Int32)).toNatClampNeg).toInt8.toInt32)]) (rest := []) C R ft_callV_FederationWireLaw_36 yi_FW_octet ys_FW_octet (ct_FW_octet l G kd S0 _ _ _ _ _ hk_xa hF) hk_xa (by decide) rfl rfl hl.1 rfl (lv_room (Nat.le_of_ble_eq_true rfl)) ⟨Nat.le_of_ble_eq_true rfl, Nat.le_of_ble_eq_true rfl⟩ ⟨by show _ ≤ 600000; omega, by show _ ≤ 7302250; omega⟩ d_Law_law_285 (fun H locs kd66 hxkd66 hP R => ?_)
                  rw [hP] at R; clear hP hxkd66
                  refine lv_aload_n hx hb d_Law_law_288 rfl (lv_at hl 2 rfl) ?_
                  refine lv_aload_n hx hb d_Law_law_289 rfl (lv_at hl 0 rfl) ?_
                  refine lv_iload_n hx hb d_Law_law_290 rfl (lv_at hl 3 rfl) ?_
                  refine lv_iconst (v := 1) hx hb d_Law_law_291 (by decide) ?_
                  refine lv_iadd hx hb d_Law_law_292 ?_
                  obtain ⟨hi67, hE⟩ := fw_ifn hE
                  refine va_sld hx hb hX hbl hbA R.toS hi67 d_Law_law_293 ?_
                  refine lv_aload_n hx hb d_Law_law_294 rfl (lv_at hl 0 rfl) ?_
                  refine lv_iload_n hx hb d_Law_law_295 rfl (lv_at hl 3 rfl) ?_
                  refine lv_iconst (v := 2) hx hb d_Law_law_296 (by decide) ?_
                  refine lv_iadd hx hb d_Law_law_297 ?_
                  obtain ⟨hi68, hE⟩ := fw_ifn hE
                  refine va_sld hx hb hX hbl hbA R.toS hi68 d_Law_law_298 ?_
                  refine lv_i2b (v := (xs (v3 + (2 : Int32)).toNatClampNeg).toInt8.toInt32) hx hb d_Law_law_299 rfl ?_
                  obtain ⟨x70, S69, hF, hE⟩ := fw_b2_ex hE
                  refine fw_callV (As := [.int (xs (v3 + (1 : Int32)).toNatClampNeg), .int ((xs (v3 + (2 : Int32)).toNatClampNeg).toInt8.toInt32)]) (rest := [.int x65]) C R ft_callV_FederationWireLaw_40 yi_Mo_octet ys_Mo_octet (ct_Mo_octet l G kd S64 _ _ _ _ _ hk_ma hF) hk_ma (by decide) rfl rfl hl.1 rfl (lv_room (Nat.le_of_ble_eq_true rfl)) ⟨Nat.le_of_ble_eq_true rfl, Nat.le_of_ble_eq_true rfl⟩ ⟨by show _ ≤ 600000; omega, by show _ ≤ 7302250; omega⟩ d_Law_law_300 (fun H locs kd71 hxkd71 hP R => ?_)
                  rw [hP] at R; clear hP hxkd71
                  refine lv_icmp_eq (tgt := 618) hx hb d_Law_law_303 (by decide) (fun hc => ?_) (fun hc => ?_)
                  · replace hE := fw_if_t hc hE
                    refine lv_iinc (v := (v3 + (4 : Int32))) (lv' := [(3, .int (v3 + (4 : Int32))), (0, .ref b), (1, .ref xa), (2, .ref ma)]) hx hb d_Law_law_618 hl (k := 3) rfl rfl (by decide) rfl (fun ls hl => ?_)
                    refine lv_goto (tgt := 18) hx hb d_Law_law_621 (by decide) ?_
                    exact ih _ _ (by omega) (by omega) _ _ _ _ _ hk_xa hk_ma _ _ _ R (lv_sub hl [1, 2, 3, 0] rfl) hE
                  · replace hE := fw_if_f hc hE
                    refine lv_iconst (v := 0) hx hb d_Law_law_306 (by decide) ?_
                    cases hE
                · replace hE := fw_if_f hs161 hE
                  by_cases hs162 : ((xs v3.toNatClampNeg) &&& (15 : Int32)) = (6 : Int32)
                  · replace hE := fw_if_t hs162 hE
                    refine lv_tableIn (off := 276) (tgt := 308) hx hb d_Law_law_32 (by rw [hs162]; decide) (by rw [hs162]; decide) (by rw [hs162]; rfl) (by decide) ?_
                    refine lv_aload_n hx hb d_Law_law_308 rfl (lv_at hl 1 rfl) ?_
                    refine lv_aload_n hx hb d_Law_law_309 rfl (lv_at hl 0 rfl) ?_
                    refine lv_iload_n hx hb d_Law_law_310 rfl (lv_at hl 3 rfl) ?_
                    refine lv_iconst (v := 1) hx hb d_Law_law_311 (by decide) ?_
                    refine lv_iadd hx hb d_Law_law_312 ?_
                    obtain ⟨hi72, hE⟩ := fw_ifn hE
                    refine va_sld hx hb hX hbl hbA R.toS hi72 d_Law_law_313 ?_
                    obtain ⟨x74, S73, hF, hE⟩ := fw_b2_ex hE
                    refine fw_callV (As := [.int (xs (v3 + (1 : Int32)).toNatClampNeg)]) (rest := []) C R ft_callV_FederationWireLaw_41 yi_FW_out ys_FW_out (ct_FW_out l G kd S0 _ _ _ _ hk_xa hF) hk_xa (by decide) rfl rfl hl.1 rfl (lv_room (Nat.le_of_ble_eq_true rfl)) ⟨Nat.le_of_ble_eq_true rfl, Nat.le_of_ble_eq_true rfl⟩ ⟨by show _ ≤ 600000; omega, by show _ ≤ 7302250; omega⟩ d_Law_law_314 (fun H locs kd75 hxkd75 hP R => ?_)
                    rw [hP] at R; clear hP hxkd75
                    refine lv_aload_n hx hb d_Law_law_317 rfl (lv_at hl 2 rfl) ?_
                    refine lv_aload_n hx hb d_Law_law_318 rfl (lv_at hl 0 rfl) ?_
                    refine lv_iload_n hx hb d_Law_law_319 rfl (lv_at hl 3 rfl) ?_
                    refine lv_iconst (v := 1) hx hb d_Law_law_320 (by decide) ?_
                    refine lv_iadd hx hb d_Law_law_321 ?_
                    obtain ⟨hi76, hE⟩ := fw_ifn hE
                    refine va_sld hx hb hX hbl hbA R.toS hi76 d_Law_law_322 ?_
                    obtain ⟨x78, S77, hF, hE⟩ := fw_b2_ex hE
                    refine fw_callV (As := [.int (xs (v3 + (1 : Int32)).toNatClampNeg)]) (rest := [.int x74]) C R ft_callV_FederationWireLaw_44 yi_Mo_out ys_Mo_out (ct_Mo_out l G kd S73 _ _ _ _ hk_ma hF) hk_ma (by decide) rfl rfl hl.1 rfl (lv_room (Nat.le_of_ble_eq_true rfl)) ⟨Nat.le_of_ble_eq_true rfl, Nat.le_of_ble_eq_true rfl⟩ ⟨by show _ ≤ 600000; omega, by show _ ≤ 7302250; omega⟩ d_Law_law_323 (fun H locs kd79 hxkd79 hP R => ?_)
                    rw [hP] at R; clear hP hxkd79
                    refine lv_icmp_eq (tgt := 618) hx hb d_Law_law_326 (by decide) (fun hc => ?_) (fun hc => ?_)
                    · replace hE := fw_if_t hc hE
                      refine lv_iinc (v := (v3 + (4 : Int32))) (lv' := [(3, .int (v3 + (4 : Int32))), (0, .ref b), (1, .ref xa), (2, .ref ma)]) hx hb d_Law_law_618 hl (k := 3) rfl rfl (by decide) rfl (fun ls hl => ?_)
                      refine lv_goto (tgt := 18) hx hb d_Law_law_621 (by decide) ?_
                      exact ih _ _ (by omega) (by omega) _ _ _ _ _ hk_xa hk_ma _ _ _ R (lv_sub hl [1, 2, 3, 0] rfl) hE
                    · replace hE := fw_if_f hc hE
                      refine lv_iconst (v := 0) hx hb d_Law_law_329 (by decide) ?_
                      cases hE
                  · replace hE := fw_if_f hs162 hE
                    by_cases hs163 : ((xs v3.toNatClampNeg) &&& (15 : Int32)) = (7 : Int32)
                    · replace hE := fw_if_t hs163 hE
                      refine lv_tableIn (off := 299) (tgt := 331) hx hb d_Law_law_32 (by rw [hs163]; decide) (by rw [hs163]; decide) (by rw [hs163]; rfl) (by decide) ?_
                      refine lv_aload_n hx hb d_Law_law_331 rfl (lv_at hl 1 rfl) ?_
                      refine lv_aload_n hx hb d_Law_law_332 rfl (lv_at hl 0 rfl) ?_
                      refine lv_iload_n hx hb d_Law_law_333 rfl (lv_at hl 3 rfl) ?_
                      refine lv_iconst (v := 1) hx hb d_Law_law_334 (by decide) ?_
                      refine lv_iadd hx hb d_Law_law_335 ?_
                      obtain ⟨hi80, hE⟩ := fw_ifn hE
                      refine va_sld hx hb hX hbl hbA R.toS hi80 d_Law_law_336 ?_
                      refine lv_aload_n hx hb d_Law_law_337 rfl (lv_at hl 0 rfl) ?_
                      refine lv_iload_n hx hb d_Law_law_338 rfl (lv_at hl 3 rfl) ?_
                      refine lv_iconst (v := 2) hx hb d_Law_law_339 (by decide) ?_
                      refine lv_iadd hx hb d_Law_law_340 ?_
                      obtain ⟨hi81, hE⟩ := fw_ifn hE
                      refine va_sld hx hb hX hbl hbA R.toS hi81 d_Law_law_341 ?_
                      obtain ⟨x83, S82, hF, hE⟩ := fw_b2_ex hE
                      refine fw_callV (As := [.int (xs (v3 + (1 : Int32)).toNatClampNeg), .int (xs (v3 + (2 : Int32)).toNatClampNeg)]) (rest := []) C R ft_callV_FederationWireLaw_45 yi_FW_loop ys_FW_loop (ct_FW_loop l G kd S0 _ _ _ _ _ hk_xa hF) hk_xa (by decide) rfl rfl hl.1 rfl (lv_room (Nat.le_of_ble_eq_true rfl)) ⟨Nat.le_of_ble_eq_true rfl, Nat.le_of_ble_eq_true rfl⟩ ⟨by show _ ≤ 600000; omega, by show _ ≤ 7302250; omega⟩ d_Law_law_342 (fun H locs kd84 hxkd84 hP R => ?_)
                      rw [hP] at R; clear hP hxkd84
                      refine lv_aload_n hx hb d_Law_law_345 rfl (lv_at hl 2 rfl) ?_
                      refine lv_aload_n hx hb d_Law_law_346 rfl (lv_at hl 0 rfl) ?_
                      refine lv_iload_n hx hb d_Law_law_347 rfl (lv_at hl 3 rfl) ?_
                      refine lv_iconst (v := 1) hx hb d_Law_law_348 (by decide) ?_
                      refine lv_iadd hx hb d_Law_law_349 ?_
                      obtain ⟨hi85, hE⟩ := fw_ifn hE
                      refine va_sld hx hb hX hbl hbA R.toS hi85 d_Law_law_350 ?_
                      refine lv_aload_n hx hb d_Law_law_351 rfl (lv_at hl 0 rfl) ?_
                      refine lv_iload_n hx hb d_Law_law_352 rfl (lv_at hl 3 rfl) ?_
                      refine lv_iconst (v := 2) hx hb d_Law_law_353 (by decide) ?_
                      refine lv_iadd hx hb d_Law_law_354 ?_
                      obtain ⟨hi86, hE⟩ := fw_ifn hE
                      refine va_sld hx hb hX hbl hbA R.toS hi86 d_Law_law_355 ?_
                      obtain ⟨x88, S87, hF, hE⟩ := fw_b2_ex hE
                      refine fw_callV (As := [.int (xs (v3 + (1 : Int32)).toNatClampNeg), .int (xs (v3 + (2 : Int32)).toNatClampNeg)]) (rest := [.int x83]) C R ft_callV_FederationWireLaw_48 yi_Mo_loop ys_Mo_loop (ct_Mo_loop l G kd S82 _ _ _ _ _ hk_ma hF) hk_ma (by decide) rfl rfl hl.1 rfl (lv_room (Nat.le_of_ble_eq_true rfl)) ⟨Nat.le_of_ble_eq_true rfl, Nat.le_of_ble_eq_true rfl⟩ ⟨by show _ ≤ 600000; omega, by show _ ≤ 7302250; omega⟩ d_Law_law_356 (fun H locs kd89 hxkd89 hP R => ?_)
                      rw [hP] at R; clear hP hxkd89
                      refine lv_icmp_eq (tgt := 618) hx hb d_Law_law_359 (by decide) (fun hc => ?_) (fun hc => ?_)
                      · replace hE := fw_if_t hc hE
                        refine lv_iinc (v := (v3 + (4 : Int32))) (lv' := [(3, .int (v3 + (4 : Int32))), (0, .ref b), (1, .ref xa), (2, .ref ma)]) hx hb d_Law_law_618 hl (k := 3) rfl rfl (by decide) rfl (fun ls hl => ?_)
                        refine lv_goto (tgt := 18) hx hb d_Law_law_621 (by decide) ?_
                        exact ih _ _ (by omega) (by omega) _ _ _ _ _ hk_xa hk_ma _ _ _ R (lv_sub hl [1, 2, 3, 0] rfl) hE
                      · replace hE := fw_if_f hc hE
                        refine lv_iconst (v := 0) hx hb d_Law_law_362 (by decide) ?_
                        cases hE
                    · replace hE := fw_if_f hs163 hE
                      by_cases hs164 : ((xs v3.toNatClampNeg) &&& (15 : Int32)) = (8 : Int32)
                      · replace hE := fw_if_t hs164 hE
                        refine lv_tableIn (off := 332) (tgt := 364) hx hb d_Law_law_32 (by rw [hs164]; decide) (by rw [hs164]; decide) (by rw [hs164]; rfl) (by decide) ?_
                        refine lv_aload_n hx hb d_Law_law_364 rfl (lv_at hl 1 rfl) ?_
                        refine lv_aload_n hx hb d_Law_law_365 rfl (lv_at hl 0 rfl) ?_
                        refine lv_iload_n hx hb d_Law_law_366 rfl (lv_at hl 3 rfl) ?_
                        refine lv_iconst (v := 1) hx hb d_Law_law_367 (by decide) ?_
                        refine lv_iadd hx hb d_Law_law_368 ?_
                        obtain ⟨hi90, hE⟩ := fw_ifn hE
                        refine va_sld hx hb hX hbl hbA R.toS hi90 d_Law_law_369 ?_
                        obtain ⟨x92, S91, hF, hE⟩ := fw_b2_ex hE
                        refine fw_callV (As := [.int (xs (v3 + (1 : Int32)).toNatClampNeg)]) (rest := []) C R ft_callV_FederationWireLaw_49 yi_FW_tick ys_FW_tick (ct_FW_tick l G kd S0 _ _ _ _ hk_xa hF) hk_xa (by decide) rfl rfl hl.1 rfl (lv_room (Nat.le_of_ble_eq_true rfl)) ⟨Nat.le_of_ble_eq_true rfl, Nat.le_of_ble_eq_true rfl⟩ ⟨by show _ ≤ 600000; omega, by show _ ≤ 7302250; omega⟩ d_Law_law_370 (fun H locs kd93 hxkd93 hP R => ?_)
                        rw [hP] at R; clear hP hxkd93
                        refine lv_aload_n hx hb d_Law_law_373 rfl (lv_at hl 2 rfl) ?_
                        refine lv_aload_n hx hb d_Law_law_374 rfl (lv_at hl 0 rfl) ?_
                        refine lv_iload_n hx hb d_Law_law_375 rfl (lv_at hl 3 rfl) ?_
                        refine lv_iconst (v := 1) hx hb d_Law_law_376 (by decide) ?_
                        refine lv_iadd hx hb d_Law_law_377 ?_
                        obtain ⟨hi94, hE⟩ := fw_ifn hE
                        refine va_sld hx hb hX hbl hbA R.toS hi94 d_Law_law_378 ?_
                        obtain ⟨x96, S95, hF, hE⟩ := fw_b2_ex hE
                        refine fw_callV (As := [.int (xs (v3 + (1 : Int32)).toNatClampNeg)]) (rest := [.int x92]) C R ft_callV_FederationWireLaw_52 yi_Mo_tick ys_Mo_tick (ct_Mo_tick l G kd S91 _ _ _ _ hk_ma hF) hk_ma (by decide) rfl rfl hl.1 rfl (lv_room (Nat.le_of_ble_eq_true rfl)) ⟨Nat.le_of_ble_eq_true rfl, Nat.le_of_ble_eq_true rfl⟩ ⟨by show _ ≤ 600000; omega, by show _ ≤ 7302250; omega⟩ d_Law_law_379 (fun H locs kd97 hxkd97 hP R => ?_)
                        rw [hP] at R; clear hP hxkd97
                        refine lv_icmp_eq (tgt := 618) hx hb d_Law_law_382 (by decide) (fun hc => ?_) (fun hc => ?_)
                        · replace hE := fw_if_t hc hE
                          refine lv_iinc (v := (v3 + (4 : Int32))) (lv' := [(3, .int (v3 + (4 : Int32))), (0, .ref b), (1, .ref xa), (2, .ref ma)]) hx hb d_Law_law_618 hl (k := 3) rfl rfl (by decide) rfl (fun ls hl => ?_)
                          refine lv_goto (tgt := 18) hx hb d_Law_law_621 (by decide) ?_
                          exact ih _ _ (by omega) (by omega) _ _ _ _ _ hk_xa hk_ma _ _ _ R (lv_sub hl [1, 2, 3, 0] rfl) hE
                        · replace hE := fw_if_f hc hE
                          refine lv_iconst (v := 0) hx hb d_Law_law_385 (by decide) ?_
                          cases hE
                      · replace hE := fw_if_f hs164 hE
                        by_cases hs165 : ((xs v3.toNatClampNeg) &&& (15 : Int32)) = (9 : Int32)
                        · replace hE := fw_if_t hs165 hE
                          refine lv_tableIn (off := 355) (tgt := 387) hx hb d_Law_law_32 (by rw [hs165]; decide) (by rw [hs165]; decide) (by rw [hs165]; rfl) (by decide) ?_
                          refine lv_aload_n hx hb d_Law_law_387 rfl (lv_at hl 1 rfl) ?_
                          refine lv_aload_n hx hb d_Law_law_388 rfl (lv_at hl 0 rfl) ?_
                          refine lv_iload_n hx hb d_Law_law_389 rfl (lv_at hl 3 rfl) ?_
                          refine lv_iconst (v := 1) hx hb d_Law_law_390 (by decide) ?_
                          refine lv_iadd hx hb d_Law_law_391 ?_
                          obtain ⟨hi98, hE⟩ := fw_ifn hE
                          refine va_sld hx hb hX hbl hbA R.toS hi98 d_Law_law_392 ?_
                          refine lv_aload_n hx hb d_Law_law_393 rfl (lv_at hl 0 rfl) ?_
                          refine lv_iload_n hx hb d_Law_law_394 rfl (lv_at hl 3 rfl) ?_
                          refine lv_iconst (v := 2) hx hb d_Law_law_395 (by decide) ?_
                          refine lv_iadd hx hb d_Law_law_396 ?_
                          obtain ⟨hi99, hE⟩ := fw_ifn hE
                          refine va_sld hx hb hX hbl hbA R.toS hi99 d_Law_law_397 ?_
                          obtain ⟨x100, hF, hE⟩ := fw_bind hE
                          refine fw_callV (As := [.int (xs (v3 + (1 : Int32)).toNatClampNeg), .int (xs (v3 + (2 : Int32)).toNatClampNeg)]) (rest := []) C R ft_callV_FederationWireLaw_53 yi_FW_told ys_FW_told (ct_FW_told l G kd S0 _ _ _ _ hk_xa hF) hk_xa (by decide) rfl rfl hl.1 rfl (lv_room (Nat.le_of_ble_eq_true rfl)) ⟨Nat.le_of_ble_eq_true rfl, Nat.le_of_ble_eq_true rfl⟩ ⟨by show _ ≤ 600000; omega, by show _ ≤ 7302250; omega⟩ d_Law_law_398 (fun H locs kd101 hxkd101 hP R => ?_)
                          rw [hP] at R; clear hP hxkd101
                          refine lv_aload_n hx hb d_Law_law_401 rfl (lv_at hl 2 rfl) ?_
                          refine lv_aload_n hx hb d_Law_law_402 rfl (lv_at hl 0 rfl) ?_
                          refine lv_iload_n hx hb d_Law_law_403 rfl (lv_at hl 3 rfl) ?_
                          refine lv_iconst (v := 1) hx hb d_Law_law_404 (by decide) ?_
                          refine lv_iadd hx hb d_Law_law_405 ?_
                          obtain ⟨hi102, hE⟩ := fw_ifn hE
                          refine va_sld hx hb hX hbl hbA R.toS hi102 d_Law_law_406 ?_
                          refine lv_aload_n hx hb d_Law_law_407 rfl (lv_at hl 0 rfl) ?_
                          refine lv_iload_n hx hb d_Law_law_408 rfl (lv_at hl 3 rfl) ?_
                          refine lv_iconst (v := 2) hx hb d_Law_law_409 (by decide) ?_
                          refine lv_iadd hx hb d_Law_law_410 ?_
                          obtain ⟨hi103, hE⟩ := fw_ifn hE
                          refine va_sld hx hb hX hbl hbA R.toS hi103 d_Law_law_411 ?_
                          obtain ⟨x104, hF, hE⟩ := fw_bind hE
                          refine fw_callV (As := [.int (xs (v3 + (1 : Int32)).toNatClampNeg), .int (xs (v3 + (2 : Int32)).toNatClampNeg)]) (rest := [.int x100]) C R ft_callV_FederationWireLaw_56 yi_Mo_told ys_Mo_told (ct_Mo_told l G kd S0 _ _ _ _ hk_ma hF) hk_ma (by decide) rfl rfl hl.1 rfl (lv_room (Nat.le_of_ble_eq_true rfl)) ⟨Nat.le_of_ble_eq_true rfl, Nat.le_of_ble_eq_true rfl⟩ ⟨by show _ ≤ 600000; omega, by show _ ≤ 7302250; omega⟩ d_Law_law_412 (fun H locs kd105 hxkd105 hP R => ?_)
                          rw [hP] at R; clear hP hxkd105
                          refine lv_icmp_eq (tgt := 618) hx hb d_Law_law_415 (by decide) (fun hc => ?_) (fun hc => ?_)
                          · replace hE := fw_if_t hc hE
                            refine lv_iinc (v := (v3 + (4 : Int32))) (lv' := [(3, .int (v3 + (4 : Int32))), (0, .ref b), (1, .ref xa), (2, .ref ma)]) hx hb d_Law_law_618 hl (k := 3) rfl rfl (by decide) rfl (fun ls hl => ?_)
                            refine lv_goto (tgt := 18) hx hb d_Law_law_621 (by decide) ?_
                            exact ih _ _ (by omega) (by omega) _ _ _ _ _ hk_xa hk_ma _ _ _ R (lv_sub hl [1, 2, 3, 0] rfl) hE
                          · replace hE := fw_if_f hc hE
                            refine lv_iconst (v := 0) hx hb d_Law_law_418 (by decide) ?_
                            cases hE
                        · replace hE := fw_if_f hs165 hE
                          by_cases hs166 : ((xs v3.toNatClampNeg) &&& (15 : Int32)) = (10 : Int32)
                          · replace hE := fw_if_t hs166 hE
                            refine lv_tableIn (off := 388) (tgt := 420) hx hb d_Law_law_32 (by rw [hs166]; decide) (by rw [hs166]; decide) (by rw [hs166]; rfl) (by decide) ?_
                            refine lv_aload_n hx hb d_Law_law_420 rfl (lv_at hl 1 rfl) ?_
                            refine lv_aload_n hx hb d_Law_law_421 rfl (lv_at hl 0 rfl) ?_
                            refine lv_iload_n hx hb d_Law_law_422 rfl (lv_at hl 3 rfl) ?_
                            refine lv_iconst (v := 1) hx hb d_Law_law_423 (by decide) ?_
                            refine lv_iadd hx hb d_Law_law_424 ?_
                            obtain ⟨hi106, hE⟩ := fw_ifn hE
                            refine va_sld hx hb hX hbl hbA R.toS hi106 d_Law_law_425 ?_
                            refine lv_aload_n hx hb d_Law_law_426 rfl (lv_at hl 0 rfl) ?_
                            refine lv_iload_n hx hb d_Law_law_427 rfl (lv_at hl 3 rfl) ?_
                            refine lv_iconst (v := 2) hx hb d_Law_law_428 (by decide) ?_
                            refine lv_iadd hx hb d_Law_law_429 ?_
                            obtain ⟨hi107, hE⟩ := fw_ifn hE
                            refine va_sld hx hb hX hbl hbA R.toS hi107 d_Law_law_430 ?_
                            refine lv_aload_n hx hb d_Law_law_431 rfl (lv_at hl 0 rfl) ?_
                            refine lv_iload_n hx hb d_Law_law_432 rfl (lv_at hl 3 rfl) ?_
                            refine lv_iconst (v := 3) hx hb d_Law_law_433 (by decide) ?_
                            refine lv_iadd hx hb d_Law_law_434 ?_
                            obtain ⟨hi108, hE⟩ := fw_ifn hE
                            refine va_sld hx hb hX hbl hbA R.toS hi108 d_Law_law_435 ?_
                            obtain ⟨x109, hF, hE⟩ := fw_bind hE
                            refine fw_callV (As := [.int (xs (v3 + (1 : Int32)).toNatClampNeg), .int (xs (v3 + (2 : Int32)).toNatClampNeg), .int (xs (v3 + (3 : Int32)).toNatClampNeg)]) (rest := []) C R ft_callV_FederationWireLaw_57 yi_FW_row ys_FW_row (ct_FW_row l G kd S0 _ _ _ _ _ hk_xa hF) hk_xa (by decide) rfl rfl hl.1 rfl (lv_room (Nat.le_of_ble_eq_true rfl)) ⟨Nat.le_of_ble_eq_true rfl, Nat.le_of_ble_eq_true rfl⟩ ⟨by show _ ≤ 600000; omega, by show _ ≤ 7302250; omega⟩ d_Law_law_436 (fun H locs kd110 hxkd110 hP R => ?_)
                            rw [hP] at R; clear hP hxkd110
                            refine lv_aload_n hx hb d_Law_law_439 rfl (lv_at hl 2 rfl) ?_
                            refine lv_aload_n hx hb d_Law_law_440 rfl (lv_at hl 0 rfl) ?_
                            refine lv_iload_n hx hb d_Law_law_441 rfl (lv_at hl 3 rfl) ?_
                            refine lv_iconst (v := 1) hx hb d_Law_law_442 (by decide) ?_
                            refine lv_iadd hx hb d_Law_law_443 ?_
                            obtain ⟨hi111, hE⟩ := fw_ifn hE
                            refine va_sld hx hb hX hbl hbA R.toS hi111 d_Law_law_444 ?_
                            refine lv_aload_n hx hb d_Law_law_445 rfl (lv_at hl 0 rfl) ?_
                            refine lv_iload_n hx hb d_Law_law_446 rfl (lv_at hl 3 rfl) ?_
                            refine lv_iconst (v := 2) hx hb d_Law_law_447 (by decide) ?_
                            refine lv_iadd hx hb d_Law_law_448 ?_
                            obtain ⟨hi112, hE⟩ := fw_ifn hE
                            refine va_sld hx hb hX hbl hbA R.toS hi112 d_Law_law_449 ?_
                            refine lv_aload_n hx hb d_Law_law_450 rfl (lv_at hl 0 rfl) ?_
                            refine lv_iload_n hx hb d_Law_law_451 rfl (lv_at hl 3 rfl) ?_
                            refine lv_iconst (v := 3) hx hb d_Law_law_452 (by decide) ?_
                            refine lv_iadd hx hb d_Law_law_453 ?_
                            obtain ⟨hi113, hE⟩ := fw_ifn hE
                            refine va_sld hx hb hX hbl hbA R.toS hi113 d_Law_law_454 ?_
                            obtain ⟨x114, hF, hE⟩ := fw_bind hE
                            refine fw_callV (As := [.int (xs (v3 + (1 : Int32)).toNatClampNeg), .int (xs (v3 + (2 : Int32)).toNatClampNeg), .int (xs (v3 + (3 : Int32)).toNatClampNeg)]) (rest := [.int x109]) C R ft_callV_FederationWireLaw_61 yi_Mo_row ys_Mo_row (ct_Mo_row l G kd S0 _ _ _ _ _ hk_ma hF) hk_ma (by decide) rfl rfl hl.1 rfl (lv_room (Nat.le_of_ble_eq_true rfl)) ⟨Nat.le_of_ble_eq_true rfl, Nat.le_of_ble_eq_true rfl⟩ ⟨by show _ ≤ 600000; omega, by show _ ≤ 7302250; omega⟩ d_Law_law_455 (fun H locs kd115 hxkd115 hP R => ?_)
                            rw [hP] at R; clear hP hxkd115
                            refine lv_icmp_eq (tgt := 618) hx hb d_Law_law_458 (by decide) (fun hc => ?_) (fun hc => ?_)
                            · replace hE := fw_if_t hc hE
                              refine lv_iinc (v := (v3 + (4 : Int32))) (lv' := [(3, .int (v3 + (4 : Int32))), (0, .ref b), (1, .ref xa), (2, .ref ma)]) hx hb d_Law_law_618 hl (k := 3) rfl rfl (by decide) rfl (fun ls hl => ?_)
                              refine lv_goto (tgt := 18) hx hb d_Law_law_621 (by decide) ?_
                              exact ih _ _ (by omega) (by omega) _ _ _ _ _ hk_xa hk_ma _ _ _ R (lv_sub hl [1, 2, 3, 0] rfl) hE
                            · replace hE := fw_if_f hc hE
                              refine lv_iconst (v := 0) hx hb d_Law_law_461 (by decide) ?_
                              cases hE
                          · replace hE := fw_if_f hs166 hE
                            by_cases hs167 : ((xs v3.toNatClampNeg) &&& (15 : Int32)) = (11 : Int32)
                            · replace hE := fw_if_t hs167 hE
                              refine lv_tableIn (off := 431) (tgt := 463) hx hb d_Law_law_32 (by rw [hs167]; decide) (by rw [hs167]; decide) (by rw [hs167]; rfl) (by decide) ?_
                              refine lv_aload_n hx hb d_Law_law_463 rfl (lv_at hl 1 rfl) ?_
                              refine lv_aload_n hx hb d_Law_law_464 rfl (lv_at hl 0 rfl) ?_
                              refine lv_iload_n hx hb d_Law_law_465 rfl (lv_at hl 3 rfl) ?_
                              refine lv_iconst (v := 1) hx hb d_Law_law_466 (by decide) ?_
                              refine lv_iadd hx hb d_Law_law_467 ?_
                              obtain ⟨hi116, hE⟩ := fw_ifn hE
                              refine va_sld hx hb hX hbl hbA R.toS hi116 d_Law_law_468 ?_
                              refine lv_aload_n hx hb d_Law_law_469 rfl (lv_at hl 0 rfl) ?_
                              refine lv_iload_n hx hb d_Law_law_470 rfl (lv_at hl 3 rfl) ?_
                              refine lv_iconst (v := 2) hx hb d_Law_law_471 (by decide) ?_
                              refine lv_iadd hx hb d_Law_law_472 ?_
                              obtain ⟨hi117, hE⟩ := fw_ifn hE
                              refine va_sld hx hb hX hbl hbA R.toS hi117 d_Law_law_473 ?_
                              refine lv_aload_n hx hb d_Law_law_474 rfl (lv_at hl 0 rfl) ?_
                              refine lv_iload_n hx hb d_Law_law_475 rfl (lv_at hl 3 rfl) ?_
                              refine lv_iconst (v := 3) hx hb d_Law_law_476 (by decide) ?_
                              refine lv_iadd hx hb d_Law_law_477 ?_
                              obtain ⟨hi118, hE⟩ := fw_ifn hE
                              refine va_sld hx hb hX hbl hbA R.toS hi118 d_Law_law_478 ?_
                              obtain ⟨x119, hF, hE⟩ := fw_bind hE
                              refine fw_callV (As := [.int (xs (v3 + (1 : Int32)).toNatClampNeg), .int (xs (v3 + (2 : Int32)).toNatClampNeg), .int (xs (v3 + (3 : Int32)).toNatClampNeg)]) (rest := []) C R ft_callV_FederationWireLaw_62 yi_FW_joined ys_FW_joined (ct_FW_joined l G kd S0 _ _ _ _ _ hk_xa hF) hk_xa (by decide) rfl rfl hl.1 rfl (lv_room (Nat.le_of_ble_eq_true rfl)) ⟨Nat.le_of_ble_eq_true rfl, Nat.le_of_ble_eq_true rfl⟩ ⟨by show _ ≤ 600000; omega, by show _ ≤ 7302250; omega⟩ d_Law_law_479 (fun H locs kd120 hxkd120 hP R => ?_)
                              rw [hP] at R; clear hP hxkd120
                              refine lv_aload_n hx hb d_Law_law_482 rfl (lv_at hl 2 rfl) ?_
                              refine lv_aload_n hx hb d_Law_law_483 rfl (lv_at hl 0 rfl) ?_
                              refine lv_iload_n hx hb d_Law_law_484 rfl (lv_at hl 3 rfl) ?_
                              refine lv_iconst (v := 1) hx hb d_Law_law_485 (by decide) ?_
                              refine lv_iadd hx hb d_Law_law_486 ?_
                              obtain ⟨hi121, hE⟩ := fw_ifn hE
                              refine va_sld hx hb hX hbl hbA R.toS hi121 d_Law_law_487 ?_
                              refine lv_aload_n hx hb d_Law_law_488 rfl (lv_at hl 0 rfl) ?_
                              refine lv_iload_n hx hb d_Law_law_489 rfl (lv_at hl 3 rfl) ?_
                              refine lv_iconst (v := 2) hx hb d_Law_law_490 (by decide) ?_
                              refine lv_iadd hx hb d_Law_law_491 ?_
                              obtain ⟨hi122, hE⟩ := fw_ifn hE
                              refine va_sld hx hb hX hbl hbA R.toS hi122 d_Law_law_492 ?_
                              refine lv_aload_n hx hb d_Law_law_493 rfl (lv_at hl 0 rfl) ?_
                              refine lv_iload_n hx hb d_Law_law_494 rfl (lv_at hl 3 rfl) ?_
                              refine lv_iconst (v := 3) hx hb d_Law_law_495 (by decide) ?_
                              refine lv_iadd hx hb d_Law_law_496 ?_
                              obtain ⟨hi123, hE⟩ := fw_ifn hE
                              refine va_sld hx hb hX hbl hbA R.toS hi123 d_Law_law_497 ?_
                              obtain ⟨x124, hF, hE⟩ := fw_bind hE
                              refine fw_callV (As := [.int (xs (v3 + (1 : Int32)).toNatClampNeg), .int (xs (v3 + (2 : Int32)).toNatClampNeg), .int (xs (v3 + (3 : Int32)).toNatClampNeg)]) (rest := [.int x119]) C R ft_callV_FederationWireLaw_65 yi_Mo_joined ys_Mo_joined (ct_Mo_joined l G kd S0 _ _ _ _ _ hk_ma hF) hk_ma (by decide) rfl rfl hl.1 rfl (lv_room (Nat.le_of_ble_eq_true rfl)) ⟨Nat.le_of_ble_eq_true rfl, Nat.le_of_ble_eq_true rfl⟩ ⟨by show _ ≤ 600000; omega, by show _ ≤ 7302250; omega⟩ d_Law_law_498 (fun H locs kd125 hxkd125 hP R => ?_)
                              rw [hP] at R; clear hP hxkd125
                              refine lv_icmp_eq (tgt := 618) hx hb d_Law_law_501 (by decide) (fun hc => ?_) (fun hc => ?_)
                              · replace hE := fw_if_t hc hE
                                refine lv_iinc (v := (v3 + (4 : Int32))) (lv' := [(3, .int (v3 + (4 : Int32))), (0, .ref b), (1, .ref xa), (2, .ref ma)]) hx hb d_Law_law_618 hl (k := 3) rfl rfl (by decide) rfl (fun ls hl => ?_)
                                refine lv_goto (tgt := 18) hx hb d_Law_law_621 (by decide) ?_
                                exact ih _ _ (by omega) (by omega) _ _ _ _ _ hk_xa hk_ma _ _ _ R (lv_sub hl [1, 2, 3, 0] rfl) hE
                              · replace hE := fw_if_f hc hE
                                refine lv_iconst (v := 0) hx hb d_Law_law_504 (by decide) ?_
                                cases hE
                            · replace hE := fw_if_f hs167 hE
                              by_cases hs168 : ((xs v3.toNatClampNeg) &&& (15 : Int32)) = (12 : Int32)
                              · replace hE := fw_if_t hs168 hE
                                refine lv_tableIn (off := 474) (tgt := 506) hx hb d_Law_law_32 (by rw [hs168]; decide) (by rw [hs168]; decide) (by rw [hs168]; rfl) (by decide) ?_
                                refine lv_aload_n hx hb d_Law_law_506 rfl (lv_at hl 1 rfl) ?_
                                refine lv_aload_n hx hb d_Law_law_507 rfl (lv_at hl 0 rfl) ?_
                                refine lv_iload_n hx hb d_Law_law_508 rfl (lv_at hl 3 rfl) ?_
                                refine lv_iconst (v := 1) hx hb d_Law_law_509 (by decide) ?_
                                refine lv_iadd hx hb d_Law_law_510 ?_
                                obtain ⟨hi126, hE⟩ := fw_ifn hE
                                refine va_sld hx hb hX hbl hbA R.toS hi126 d_Law_law_511 ?_
                                obtain ⟨x127, hF, hE⟩ := fw_bind hE
                                refine fw_callV (As := [.int (xs (v3 + (1 : Int32)).toNatClampNeg)]) (rest := []) C R ft_callV_FederationWireLaw_66 yi_FW_estimate ys_FW_estimate (ct_FW_estimate l G kd S0 _ _ _ hk_xa hF) hk_xa (by decide) rfl rfl hl.1 rfl (lv_room (Nat.le_of_ble_eq_true rfl)) ⟨Nat.le_of_ble_eq_true rfl, Nat.le_of_ble_eq_true rfl⟩ ⟨by show _ ≤ 600000; omega, by show _ ≤ 7302250; omega⟩ d_Law_law_512 (fun H locs kd128 hxkd128 hP R => ?_)
                                rw [hP] at R; clear hP hxkd128
                                refine lv_aload_n hx hb d_Law_law_515 rfl (lv_at hl 2 rfl) ?_
                                refine lv_aload_n hx hb d_Law_law_516 rfl (lv_at hl 0 rfl) ?_
                                refine lv_iload_n hx hb d_Law_law_517 rfl (lv_at hl 3 rfl) ?_
                                refine lv_iconst (v := 1) hx hb d_Law_law_518 (by decide) ?_
                                refine lv_iadd hx hb d_Law_law_519 ?_
                                obtain ⟨hi129, hE⟩ := fw_ifn hE
                                refine va_sld hx hb hX hbl hbA R.toS hi129 d_Law_law_520 ?_
                                obtain ⟨x130, hF, hE⟩ := fw_bind hE
                                refine fw_callV (As := [.int (xs (v3 + (1 : Int32)).toNatClampNeg)]) (rest := [.int x127]) C R ft_callV_FederationWireLaw_69 yi_Mo_estimate ys_Mo_estimate (ct_Mo_estimate l G kd S0 _ _ _ hk_ma hF) hk_ma (by decide) rfl rfl hl.1 rfl (lv_room (Nat.le_of_ble_eq_true rfl)) ⟨Nat.le_of_ble_eq_true rfl, Nat.le_of_ble_eq_true rfl⟩ ⟨by show _ ≤ 600000; omega, by show _ ≤ 7302250; omega⟩ d_Law_law_521 (fun H locs kd131 hxkd131 hP R => ?_)
                                rw [hP] at R; clear hP hxkd131
                                refine lv_icmp_eq (tgt := 618) hx hb d_Law_law_524 (by decide) (fun hc => ?_) (fun hc => ?_)
                                · replace hE := fw_if_t hc hE
                                  refine lv_iinc (v := (v3 + (4 : Int32))) (lv' := [(3, .int (v3 + (4 : Int32))), (0, .ref b), (1, .ref xa), (2, .ref ma)]) hx hb d_Law_law_618 hl (k := 3) rfl rfl (by decide) rfl (fun ls hl => ?_)
                                  refine lv_goto (tgt := 18) hx hb d_Law_law_621 (by decide) ?_
                                  exact ih _ _ (by omega) (by omega) _ _ _ _ _ hk_xa hk_ma _ _ _ R (lv_sub hl [1, 2, 3, 0] rfl) hE
                                · replace hE := fw_if_f hc hE
                                  refine lv_iconst (v := 0) hx hb d_Law_law_527 (by decide) ?_
                                  cases hE
                              · replace hE := fw_if_f hs168 hE
                                by_cases hs169 : ((xs v3.toNatClampNeg) &&& (15 : Int32)) = (13 : Int32)
                                · replace hE := fw_if_t hs169 hE
                                  refine lv_tableIn (off := 497) (tgt := 529) hx hb d_Law_law_32 (by rw [hs169]; decide) (by rw [hs169]; decide) (by rw [hs169]; rfl) (by decide) ?_
                                  refine lv_aload_n hx hb d_Law_law_529 rfl (lv_at hl 1 rfl) ?_
                                  refine lv_aload_n hx hb d_Law_law_530 rfl (lv_at hl 0 rfl) ?_
                                  refine lv_iload_n hx hb d_Law_law_531 rfl (lv_at hl 3 rfl) ?_
                                  refine lv_iconst (v := 1) hx hb d_Law_law_532 (by decide) ?_
                                  refine lv_iadd hx hb d_Law_law_533 ?_
                                  obtain ⟨hi132, hE⟩ := fw_ifn hE
                                  refine va_sld hx hb hX hbl hbA R.toS hi132 d_Law_law_534 ?_
                                  refine lv_aload_n hx hb d_Law_law_535 rfl (lv_at hl 0 rfl) ?_
                                  refine lv_iload_n hx hb d_Law_law_536 rfl (lv_at hl 3 rfl) ?_
                                  refine lv_iconst (v := 2) hx hb d_Law_law_537 (by decide) ?_
                                  refine lv_iadd hx hb d_Law_law_538 ?_
                                  obtain ⟨hi133, hE⟩ := fw_ifn hE
                                  refine va_sld hx hb hX hbl hbA R.toS hi133 d_Law_law_539 ?_
                                  obtain ⟨x135, S134, hF, hE⟩ := fw_b2_ex hE
                                  refine fw_callV (As := [.int (xs (v3 + (1 : Int32)).toNatClampNeg), .int (xs (v3 + (2 : Int32)).toNatClampNeg)]) (rest := []) C R ft_callV_FederationWireLaw_70 yi_FW_fact ys_FW_fact (ct_FW_fact l G kd S0 _ _ _ _ _ hk_xa hF) hk_xa (by decide) rfl rfl hl.1 rfl (lv_room (Nat.le_of_ble_eq_true rfl)) ⟨Nat.le_of_ble_eq_true rfl, Nat.le_of_ble_eq_true rfl⟩ ⟨by show _ ≤ 600000; omega, by show _ ≤ 7302250; omega⟩ d_Law_law_540 (fun H locs kd136 hxkd136 hP R => ?_)
                                  rw [hP] at R; clear hP hxkd136
                                  refine lv_aload_n hx hb d_Law_law_543 rfl (lv_at hl 2 rfl) ?_
                                  refine lv_aload_n hx hb d_Law_law_544 rfl (lv_at hl 0 rfl) ?_
                                  refine lv_iload_n hx hb d_Law_law_545 rfl (lv_at hl 3 rfl) ?_
                                  refine lv_iconst (v := 1) hx hb d_Law_law_546 (by decide) ?_
                                  refine lv_iadd hx hb d_Law_law_547 ?_
                                  obtain ⟨hi137, hE⟩ := fw_ifn hE
                                  refine va_sld hx hb hX hbl hbA R.toS hi137 d_Law_law_548 ?_
                                  refine lv_aload_n hx hb d_Law_law_549 rfl (lv_at hl 0 rfl) ?_
                                  refine lv_iload_n hx hb d_Law_law_550 rfl (lv_at hl 3 rfl) ?_
                                  refine lv_iconst (v := 2) hx hb d_Law_law_551 (by decide) ?_
                                  refine lv_iadd hx hb d_Law_law_552 ?_
                                  obtain ⟨hi138, hE⟩ := fw_ifn hE
                                  refine va_sld hx hb hX hbl hbA R.toS hi138 d_Law_law_553 ?_
                                  obtain ⟨x140, S139, hF, hE⟩ := fw_b2_ex hE
                                  refine fw_callV (As := [.int (xs (v3 + (1 : Int32)).toNatClampNeg), .int (xs (v3 + (2 : Int32)).toNatClampNeg)]) (rest := [.int x135]) C R ft_callV_FederationWireLaw_73 yi_Mo_fact ys_Mo_fact (ct_Mo_fact l G kd S134 _ _ _ _ _ hk_ma hF) hk_ma (by decide) rfl rfl hl.1 rfl (lv_room (Nat.le_of_ble_eq_true rfl)) ⟨Nat.le_of_ble_eq_true rfl, Nat.le_of_ble_eq_true rfl⟩ ⟨by show _ ≤ 600000; omega, by show _ ≤ 7302250; omega⟩ d_Law_law_554 (fun H locs kd141 hxkd141 hP R => ?_)
                                  rw [hP] at R; clear hP hxkd141
                                  refine lv_icmp_eq (tgt := 618) hx hb d_Law_law_557 (by decide) (fun hc => ?_) (fun hc => ?_)
                                  · replace hE := fw_if_t hc hE
                                    refine lv_iinc (v := (v3 + (4 : Int32))) (lv' := [(3, .int (v3 + (4 : Int32))), (0, .ref b), (1, .ref xa), (2, .ref ma)]) hx hb d_Law_law_618 hl (k := 3) rfl rfl (by decide) rfl (fun ls hl => ?_)
                                    refine lv_goto (tgt := 18) hx hb d_Law_law_621 (by decide) ?_
                                    exact ih _ _ (by omega) (by omega) _ _ _ _ _ hk_xa hk_ma _ _ _ R (lv_sub hl [1, 2, 3, 0] rfl) hE
                                  · replace hE := fw_if_f hc hE
                                    refine lv_iconst (v := 0) hx hb d_Law_law_560 (by decide) ?_
                                    cases hE
                                · replace hE := fw_if_f hs169 hE
                                  by_cases hs170 : ((xs v3.toNatClampNeg) &&& (15 : Int32)) = (14 : Int32)
                                  · replace hE := fw_if_t hs170 hE
                                    refine lv_tableIn (off := 530) (tgt := 562) hx hb d_Law_law_32 (by rw [hs170]; decide) (by rw [hs170]; decide) (by rw [hs170]; rfl) (by decide) ?_
                                    refine lv_aload_n hx hb d_Law_law_562 rfl (lv_at hl 1 rfl) ?_
                                    refine lv_aload_n hx hb d_Law_law_563 rfl (lv_at hl 0 rfl) ?_
                                    refine lv_iload_n hx hb d_Law_law_564 rfl (lv_at hl 3 rfl) ?_
                                    refine lv_iconst (v := 1) hx hb d_Law_law_565 (by decide) ?_
                                    refine lv_iadd hx hb d_Law_law_566 ?_
                                    obtain ⟨hi142, hE⟩ := fw_ifn hE
                                    refine va_sld hx hb hX hbl hbA R.toS hi142 d_Law_law_567 ?_
                                    obtain ⟨x143, hF, hE⟩ := fw_bind hE
                                    refine fw_callV (As := [.int (xs (v3 + (1 : Int32)).toNatClampNeg)]) (rest := []) C R ft_callV_FederationWireLaw_74 yi_FW_count ys_FW_count (ct_FW_count l G kd S0 _ _ _ hk_xa hF) hk_xa (by decide) rfl rfl hl.1 rfl (lv_room (Nat.le_of_ble_eq_true rfl)) ⟨Nat.le_of_ble_eq_true rfl, Nat.le_of_ble_eq_true rfl⟩ ⟨by show _ ≤ 600000; omega, by show _ ≤ 7302250; omega⟩ d_Law_law_568 (fun H locs kd144 hxkd144 hP R => ?_)
                                    rw [hP] at R; clear hP hxkd144
                                    refine lv_aload_n hx hb d_Law_law_571 rfl (lv_at hl 2 rfl) ?_
                                    refine lv_aload_n hx hb d_Law_law_572 rfl (lv_at hl 0 rfl) ?_
                                    refine lv_iload_n hx hb d_Law_law_573 rfl (lv_at hl 3 rfl) ?_
                                    refine lv_iconst (v := 1) hx hb d_Law_law_574 (by decide) ?_
                                    refine lv_iadd hx hb d_Law_law_575 ?_
                                    obtain ⟨hi145, hE⟩ := fw_ifn hE
                                    refine va_sld hx hb hX hbl hbA R.toS hi145 d_Law_law_576 ?_
                                    obtain ⟨x146, hF, hE⟩ := fw_bind hE
                                    refine fw_callV (As := [.int (xs (v3 + (1 : Int32)).toNatClampNeg)]) (rest := [.int x143]) C R ft_callV_FederationWireLaw_77 yi_Mo_count ys_Mo_count (ct_Mo_count l G kd S0 _ _ _ hk_ma hF) hk_ma (by decide) rfl rfl hl.1 rfl (lv_room (Nat.le_of_ble_eq_true rfl)) ⟨Nat.le_of_ble_eq_true rfl, Nat.le_of_ble_eq_true rfl⟩ ⟨by show _ ≤ 600000; omega, by show _ ≤ 7302250; omega⟩ d_Law_law_577 (fun H locs kd147 hxkd147 hP R => ?_)
                                    rw [hP] at R; clear hP hxkd147
                                    refine lv_icmp_eq (tgt := 618) hx hb d_Law_law_580 (by decide) (fun hc => ?_) (fun hc => ?_)
                                    · replace hE := fw_if_t hc hE
                                      refine lv_iinc (v := (v3 + (4 : Int32))) (lv' := [(3, .int (v3 + (4 : Int32))), (0, .ref b), (1, .ref xa), (2, .ref ma)]) hx hb d_Law_law_618 hl (k := 3) rfl rfl (by decide) rfl (fun ls hl => ?_)
                                      refine lv_goto (tgt := 18) hx hb d_Law_law_621 (by decide) ?_
                                      exact ih _ _ (by omega) (by omega) _ _ _ _ _ hk_xa hk_ma _ _ _ R (lv_sub hl [1, 2, 3, 0] rfl) hE
                                    · replace hE := fw_if_f hc hE
                                      refine lv_iconst (v := 0) hx hb d_Law_law_583 (by decide) ?_
                                      cases hE
                                  · replace hE := fw_if_f hs170 hE
                                    by_cases hs171 : ((xs v3.toNatClampNeg) &&& (15 : Int32)) = (15 : Int32)
                                    · replace hE := fw_if_t hs171 hE
                                      refine lv_tableIn (off := 553) (tgt := 585) hx hb d_Law_law_32 (by rw [hs171]; decide) (by rw [hs171]; decide) (by rw [hs171]; rfl) (by decide) ?_
                                      refine lv_aload_n hx hb d_Law_law_585 rfl (lv_at hl 1 rfl) ?_
                                      refine lv_aload_n hx hb d_Law_law_586 rfl (lv_at hl 0 rfl) ?_
                                      refine lv_iload_n hx hb d_Law_law_587 rfl (lv_at hl 3 rfl) ?_
                                      refine lv_iconst (v := 1) hx hb d_Law_law_588 (by decide) ?_
                                      refine lv_iadd hx hb d_Law_law_589 ?_
                                      obtain ⟨hi148, hE⟩ := fw_ifn hE
                                      refine va_sld hx hb hX hbl hbA R.toS hi148 d_Law_law_590 ?_
                                      refine lv_aload_n hx hb d_Law_law_591 rfl (lv_at hl 0 rfl) ?_
                                      refine lv_iload_n hx hb d_Law_law_592 rfl (lv_at hl 3 rfl) ?_
                                      refine lv_iconst (v := 2) hx hb d_Law_law_593 (by decide) ?_
                                      refine lv_iadd hx hb d_Law_law_594 ?_
                                      obtain ⟨hi149, hE⟩ := fw_ifn hE
                                      refine va_sld hx hb hX hbl hbA R.toS hi149 d_Law_law_595 ?_
                                      obtain ⟨x150, hF, hE⟩ := fw_bind hE
                                      refine fw_callV (As := [.int (xs (v3 + (1 : Int32)).toNatClampNeg), .int (xs (v3 + (2 : Int32)).toNatClampNeg)]) (rest := []) C R ft_callV_FederationWireLaw_78 yi_FW_line ys_FW_line (ct_FW_line l G kd S0 _ _ _ _ hk_xa hF) hk_xa (by decide) rfl rfl hl.1 rfl (lv_room (Nat.le_of_ble_eq_true rfl)) ⟨Nat.le_of_ble_eq_true rfl, Nat.le_of_ble_eq_true rfl⟩ ⟨by show _ ≤ 600000; omega, by show _ ≤ 7302250; omega⟩ d_Law_law_596 (fun H locs kd151 hxkd151 hP R => ?_)
                                      rw [hP] at R; clear hP hxkd151
                                      refine lv_aload_n hx hb d_Law_law_599 rfl (lv_at hl 2 rfl) ?_
                                      refine lv_aload_n hx hb d_Law_law_600 rfl (lv_at hl 0 rfl) ?_
                                      refine lv_iload_n hx hb d_Law_law_601 rfl (lv_at hl 3 rfl) ?_
                                      refine lv_iconst (v := 1) hx hb d_Law_law_602 (by decide) ?_
                                      refine lv_iadd hx hb d_Law_law_603 ?_
                                      obtain ⟨hi152, hE⟩ := fw_ifn hE
                                      refine va_sld hx hb hX hbl hbA R.toS hi152 d_Law_law_604 ?_
                                      refine lv_aload_n hx hb d_Law_law_605 rfl (lv_at hl 0 rfl) ?_
                                      refine lv_iload_n hx hb d_Law_law_606 rfl (lv_at hl 3 rfl) ?_
                                      refine lv_iconst (v := 2) hx hb d_Law_law_607 (by decide) ?_
                                      refine lv_iadd hx hb d_Law_law_608 ?_
                                      obtain ⟨hi153, hE⟩ := fw_ifn hE
                                      refine va_sld hx hb hX hbl hbA R.toS hi153 d_Law_law_609 ?_
                                      obtain ⟨x154, hF, hE⟩ := fw_bind hE
                                      refine fw_callV (As := [.int (xs (v3 + (1 : Int32)).toNatClampNeg), .int (xs (v3 + (2 : Int32)).toNatClampNeg)]) (rest := [.int x150]) C R ft_callV_FederationWireLaw_81 yi_Mo_line ys_Mo_line (ct_Mo_line l G kd S0 _ _ _ _ hk_ma hF) hk_ma (by decide) rfl rfl hl.1 rfl (lv_room (Nat.le_of_ble_eq_true rfl)) ⟨Nat.le_of_ble_eq_true rfl, Nat.le_of_ble_eq_true rfl⟩ ⟨by show _ ≤ 600000; omega, by show _ ≤ 7302250; omega⟩ d_Law_law_610 (fun H locs kd155 hxkd155 hP R => ?_)
                                      rw [hP] at R; clear hP hxkd155
                                      refine lv_icmp_eq (tgt := 618) hx hb d_Law_law_613 (by decide) (fun hc => ?_) (fun hc => ?_)
                                      · replace hE := fw_if_t hc hE
                                        refine lv_iinc (v := (v3 + (4 : Int32))) (lv' := [(3, .int (v3 + (4 : Int32))), (0, .ref b), (1, .ref xa), (2, .ref ma)]) hx hb d_Law_law_618 hl (k := 3) rfl rfl (by decide) rfl (fun ls hl => ?_)
                                        refine lv_goto (tgt := 18) hx hb d_Law_law_621 (by decide) ?_
                                        exact ih _ _ (by omega) (by omega) _ _ _ _ _ hk_xa hk_ma _ _ _ R (lv_sub hl [1, 2, 3, 0] rfl) hE
                                      · replace hE := fw_if_f hc hE
                                        refine lv_iconst (v := 0) hx hb d_Law_law_616 (by decide) ?_
                                        cases hE
                                    · replace hE := fw_if_f hs171 hE
                                      refine lv_tableOut (tgt := 618) hx hb d_Law_law_32 (fw_tout 0 15 (fun k h1 h2 hk => ?_)) (by decide) ?_
                                      · have h3 : k = 0 ∨ k = 1 ∨ k = 2 ∨ k = 3 ∨ k = 4 ∨ k = 5 ∨ k = 6 ∨ k = 7 ∨ k = 8 ∨ k = 9 ∨ k = 10 ∨ k = 11 ∨ k = 12 ∨ k = 13 ∨ k = 14 ∨ k = 15 := by omega
                                        rcases h3 with rfl | rfl | rfl | rfl | rfl | rfl | rfl | rfl | rfl | rfl | rfl | rfl | rfl | rfl | rfl | rfl
                                        · exact hs156 (by rw [hk]; rfl)
                                        · exact hs157 (by rw [hk]; rfl)
                                        · exact hs158 (by rw [hk]; rfl)
                                        · exact hs159 (by rw [hk]; rfl)
                                        · exact hs160 (by rw [hk]; rfl)
                                        · exact hs161 (by rw [hk]; rfl)
                                        · exact hs162 (by rw [hk]; rfl)
                                        · exact hs163 (by rw [hk]; rfl)
                                        · exact hs164 (by rw [hk]; rfl)
                                        · exact hs165 (by rw [hk]; rfl)
                                        · exact hs166 (by rw [hk]; rfl)
                                        · exact hs167 (by rw [hk]; rfl)
                                        · exact hs168 (by rw [hk]; rfl)
                                        · exact hs169 (by rw [hk]; rfl)
                                        · exact hs170 (by rw [hk]; rfl)
                                        · exact hs171 (by rw [hk]; rfl)
                                      · refine lv_iinc (v := (v3 + (4 : Int32))) (lv' := [(3, .int (v3 + (4 : Int32))), (0, .ref b), (1, .ref xa), (2, .ref ma)]) hx hb d_Law_law_618 hl (k := 3) rfl rfl (by decide) rfl (fun ls hl => ?_)
                                        refine lv_goto (tgt := 18) hx hb d_Law_law_621 (by decide) ?_
                                        exact ih _ _ (by omega) (by omega) _ _ _ _ _ hk_xa hk_ma _ _ _ R (lv_sub hl [1, 2, 3, 0] rfl) hE
def F_Law (L : Nat) (xs : Nat → Int32) (S0 : fw_S) : Option Int32 :=
  (fw_let (fw_z S0) (fun b173 => (fw_let (fw_nw S0 0) (fun S172 =>
  (Option.bind (F_FW_init b173 S172) (fun S175 =>
  (fw_let (fw_z S175) (fun b178 => (fw_let (fw_nw S175 0) (fun S177 =>
  (Option.bind (F_Mo_init b178 S177) (fun S180 =>
  F_Law_l L xs 600 b173 b178 (0 : Int32) S180))))))))))))
set_option maxHeartbeats 4000000 in
set_option maxRecDepth 100000 in
theorem law_start {p : Program} {l : Launch} {e : Env} {s : State} {m : MethodId} {below : List Frame} {meth : Method} {c : Code} {G : fw_G} {b L : Nat} {xs : Nat → Int32} (C : fw_C G "FederationWireLaw" code 4 ret p s m #[Value.ref b] meth c) (hX : va_X b L xs s G.2.2) (hbl : b < G.2.2.size) (hbA : ¬ fw_A G b) (hz : G.2.2 = s.heap) (S0 : fw_S) (kd0 : Nat → Option Nat) (H : Heap) (ls : Array Slot) (R : fw_R G kd0 S0 H []) (hl : lv_has ls 4 [(0, .ref b)]) (hE : F_Law L xs S0 = some 1) :
      W p l e room_1 s m #[Value.ref b] below meth c H [] 0 0 (lw_Z below #[Value.ref b] s) (F0 m 0 ls []) := by
  have hx := C.1
  have hb := C.2.1
  have hr := C.2.2.2.2.2.2.1
  have hlocks := C.2.2.2.2.2.1
  unfold F_Law at hE
  refine fw_new C R cl_6 nd_6 ft_new_FederationWireLaw_7 ni_6 nj_6 (Nat.le_of_ble_eq_true rfl) (Nat.le_of_ble_eq_true rfl) d_Law_law_0 (fun H kd174 hxkd174 hk_new R => ?_)
  refine W.widen (k := 1) (n := 13) (by decide) (by decide) ?_
  obtain ⟨b173, eb173, hE⟩ := fw_let_ex hE
  obtain ⟨S172, eS172, hE⟩ := fw_let_ex hE
  rw [← eS172] at R
  rw [← eb173] at hk_new ⊢
  have hk_b173 := hk_new
  have hXkd174 := fw_X.tr fw_X.rf hxkd174
  clear eS172 eb173 hk_new
  refine lv_dup hx hb d_Law_law_3 rfl ?_
  obtain ⟨S175, hF, hE⟩ := fw_bind hE
  refine fw_callI (As := []) (rest := [.ref b173]) C R ft_callI_FederationWireLaw_9 yi_FW_init rfl (ct_FW_init l G kd174 S172 _ _ hk_b173 hF) rfl hl.1 rfl (lv_room (Nat.le_of_ble_eq_true rfl)) ⟨Nat.le_of_ble_eq_true rfl, Nat.le_of_ble_eq_true rfl⟩ ⟨by show _ ≤ 600000; omega, by show _ ≤ 7302250; omega⟩ d_Law_law_4 (fun H locs kd176 hxkd176 hP R => ?_)
  have hXkd176 := fw_X.tr hXkd174 hxkd176
  have hk_b173 := hxkd176 _ _ hk_b173
  refine lv_astore_n (lv' := [(1, .ref b173), (0, .ref b)]) hx hb d_Law_law_7 rfl hl (by decide) rfl (fun ls hl => ?_)
  refine fw_new C R cl_7 nd_7 ft_new_FederationWireLaw_10 ni_7 nj_7 (Nat.le_of_ble_eq_true rfl) (Nat.le_of_ble_eq_true rfl) d_Law_law_8 (fun H kd179 hxkd179 hk_new R => ?_)
  obtain ⟨b178, eb178, hE⟩ := fw_let_ex hE
  obtain ⟨S177, eS177, hE⟩ := fw_let_ex hE
  rw [← eS177] at R
  rw [← eb178] at hk_new ⊢
  have hk_b178 := hk_new
  have hXkd179 := fw_X.tr hXkd176 hxkd179
  have hk_b173 := hxkd179 _ _ hk_b173
  clear eS177 eb178 hk_new
  refine lv_dup hx hb d_Law_law_11 rfl ?_
  obtain ⟨S180, hF, hE⟩ := fw_bind hE
  refine fw_callI (As := []) (rest := [.ref b178]) C R ft_callI_FederationWireLaw_12 yi_Mo_init rfl (ct_Mo_init l G kd179 S177 _ _ hk_b178 hF) rfl hl.1 rfl (lv_room (Nat.le_of_ble_eq_true rfl)) ⟨Nat.le_of_ble_eq_true rfl, Nat.le_of_ble_eq_true rfl⟩ ⟨by show _ ≤ 600000; omega, by show _ ≤ 7302250; omega⟩ d_Law_law_12 (fun H locs kd181 hxkd181 hP R => ?_)
  have hXkd181 := fw_X.tr hXkd179 hxkd181
  have hk_b173 := hxkd181 _ _ hk_b173
  have hk_b178 := hxkd181 _ _ hk_b178
  refine lv_astore_n (lv' := [(2, .ref b178), (1, .ref b173), (0, .ref b)]) hx hb d_Law_law_15 rfl hl (by decide) rfl (fun ls hl => ?_)
  refine lv_iconst (v := 0) hx hb d_Law_law_16 (by decide) ?_
  refine lv_istore_n (lv' := [(3, .int (0 : Int32)), (2, .ref b178), (1, .ref b173), (0, .ref b)]) hx hb d_Law_law_17 rfl hl (by decide) rfl (fun ls hl => ?_)
  exact law_loop C hX hbl hbA hz 600 _ _ (by omega) (by omega) _ _ _ _ _ hk_b173 hk_b178 _ _ _ R (lv_sub hl [3, 2, 1, 0] rfl) hE
