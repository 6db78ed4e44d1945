/-! Facts of the tables (by program). -/
theorem cw_0 : ∀ w ∈ u_ws "FederationWire$Frame" fT_0 4, w ∈ lw_tbl := by decide +kernel
theorem cg_0 : ∀ w ∈ u_ws "FederationWire$Frame" fT_0 4, goodWord w = true := by decide +kernel
theorem cy_0 : ∀ j, j < 4 → parseFieldDescriptor (fT_0 j).2.2.1 = some (fY_0 j) := by decide +kernel
theorem cl_0 : fw_Cl 0 "FederationWire$Frame" fT_0 4 := ⟨rfl, fun w h => fw_in (cw_0 w h) (cg_0 w h), rfl, by decide, ⟨fY_0, cy_0⟩, by decide +kernel, by decide +kernel⟩
theorem nd_0 : ∀ j, j < 4 → ((parseFieldDescriptor (fT_0 j).2.2.1).map defaultValue) = some (fw_fv 0 (fun _ => 0) (fun _ => none) j) := by
  intro j hj
  rw [cy_0 j hj]
  have h : j = 0 ∨ j = 1 ∨ j = 2 ∨ j = 3 := by omega
  rcases h with rfl | rfl | rfl | rfl <;> rfl
theorem ni_0 : Cond.instantiable "FederationWire$Frame" 4 ∈ fw_WS := fw_in (fw_tb (i := 56) (by decide +kernel)) rfl
theorem nj_0 : Cond.initialized "FederationWire$Frame" ∈ fw_WS := fw_in (fw_tb (i := 5) (by decide +kernel)) rfl
theorem cw_1 : ∀ w ∈ u_ws "FederationWire$Memory" fT_1 4, w ∈ lw_tbl := by decide +kernel
theorem cg_1 : ∀ w ∈ u_ws "FederationWire$Memory" fT_1 4, goodWord w = true := by decide +kernel
theorem cy_1 : ∀ j, j < 4 → parseFieldDescriptor (fT_1 j).2.2.1 = some (fY_1 j) := by decide +kernel
theorem cl_1 : fw_Cl 1 "FederationWire$Memory" fT_1 4 := ⟨rfl, fun w h => fw_in (cw_1 w h) (cg_1 w h), rfl, by decide, ⟨fY_1, cy_1⟩, by decide +kernel, by decide +kernel⟩
theorem nd_1 : ∀ j, j < 4 → ((parseFieldDescriptor (fT_1 j).2.2.1).map defaultValue) = some (fw_fv 1 (fun _ => 0) (fun _ => none) j) := by
  intro j hj
  rw [cy_1 j hj]
  have h : j = 0 ∨ j = 1 ∨ j = 2 ∨ j = 3 := by omega
  rcases h with rfl | rfl | rfl | rfl <;> rfl
theorem ni_1 : Cond.instantiable "FederationWire$Memory" 4 ∈ fw_WS := fw_in (fw_tb (i := 83) (by decide +kernel)) rfl
theorem nj_1 : Cond.initialized "FederationWire$Memory" ∈ fw_WS := fw_in (fw_tb (i := 6) (by decide +kernel)) rfl
theorem cw_2 : ∀ w ∈ u_ws "FederationWire$Pairs" fT_2 3, w ∈ lw_tbl := by decide +kernel
theorem cg_2 : ∀ w ∈ u_ws "FederationWire$Pairs" fT_2 3, goodWord w = true := by decide +kernel
theorem cy_2 : ∀ j, j < 3 → parseFieldDescriptor (fT_2 j).2.2.1 = some (fY_2 j) := by decide +kernel
theorem cl_2 : fw_Cl 2 "FederationWire$Pairs" fT_2 3 := ⟨rfl, fun w h => fw_in (cw_2 w h) (cg_2 w h), rfl, by decide, ⟨fY_2, cy_2⟩, by decide +kernel, by decide +kernel⟩
theorem nd_2 : ∀ j, j < 3 → ((parseFieldDescriptor (fT_2 j).2.2.1).map defaultValue) = some (fw_fv 2 (fun _ => 0) (fun _ => none) j) := by
  intro j hj
  rw [cy_2 j hj]
  have h : j = 0 ∨ j = 1 ∨ j = 2 := by omega
  rcases h with rfl | rfl | rfl <;> rfl
theorem ni_2 : Cond.instantiable "FederationWire$Pairs" 3 ∈ fw_WS := fw_in (fw_tb (i := 23) (by decide +kernel)) rfl
theorem nj_2 : Cond.initialized "FederationWire$Pairs" ∈ fw_WS := fw_in (fw_tb (i := 2) (by decide +kernel)) rfl
theorem cw_3 : ∀ w ∈ u_ws "FederationWire$Request" fT_3 16, w ∈ lw_tbl := by decide +kernel
theorem cg_3 : ∀ w ∈ u_ws "FederationWire$Request" fT_3 16, goodWord w = true := by decide +kernel
theorem cy_3 : ∀ j, j < 16 → parseFieldDescriptor (fT_3 j).2.2.1 = some (fY_3 j) := by decide +kernel
theorem cl_3 : fw_Cl 3 "FederationWire$Request" fT_3 16 := ⟨rfl, fun w h => fw_in (cw_3 w h) (cg_3 w h), rfl, by decide, ⟨fY_3, cy_3⟩, by decide +kernel, by decide +kernel⟩
theorem nd_3 : ∀ j, j < 16 → ((parseFieldDescriptor (fT_3 j).2.2.1).map defaultValue) = some (fw_fv 3 (fun _ => 0) (fun _ => none) j) := by
  intro j hj
  rw [cy_3 j hj]
  have h : j = 0 ∨ j = 1 ∨ j = 2 ∨ j = 3 ∨ j = 4 ∨ j = 5 ∨ j = 6 ∨ j = 7 ∨ j = 8 ∨ j = 9 ∨ j = 10 ∨ j = 11 ∨ j = 12 ∨ j = 13 ∨ j = 14 ∨ j = 15 := by omega
  rcases h with rfl | rfl | rfl | rfl | rfl | rfl | rfl | rfl | rfl | rfl | rfl | rfl | rfl | rfl | rfl | rfl <;> rfl
theorem ni_3 : Cond.instantiable "FederationWire$Request" 16 ∈ fw_WS := fw_in (fw_tb (i := 272) (by decide +kernel)) rfl
theorem nj_3 : Cond.initialized "FederationWire$Request" ∈ fw_WS := fw_in (fw_tb (i := 9) (by decide +kernel)) rfl
theorem cw_4 : ∀ w ∈ u_ws "FederationWire$ServingEnd" fT_4 5, w ∈ lw_tbl := by decide +kernel
theorem cg_4 : ∀ w ∈ u_ws "FederationWire$ServingEnd" fT_4 5, goodWord w = true := by decide +kernel
theorem cy_4 : ∀ j, j < 5 → parseFieldDescriptor (fT_4 j).2.2.1 = some (fY_4 j) := by decide +kernel
theorem cl_4 : fw_Cl 4 "FederationWire$ServingEnd" fT_4 5 := ⟨rfl, fun w h => fw_in (cw_4 w h) (cg_4 w h), rfl, by decide, ⟨fY_4, cy_4⟩, by decide +kernel, by decide +kernel⟩
theorem nd_4 : ∀ j, j < 5 → ((parseFieldDescriptor (fT_4 j).2.2.1).map defaultValue) = some (fw_fv 4 (fun _ => 0) (fun _ => none) j) := by
  intro j hj
  rw [cy_4 j hj]
  have h : j = 0 ∨ j = 1 ∨ j = 2 ∨ j = 3 ∨ j = 4 := by omega
  rcases h with rfl | rfl | rfl | rfl | rfl <;> rfl
theorem ni_4 : Cond.instantiable "FederationWire$ServingEnd" 5 ∈ fw_WS := fw_in (fw_tb (i := 46) (by decide +kernel)) rfl
theorem nj_4 : Cond.initialized "FederationWire$ServingEnd" ∈ fw_WS := fw_in (fw_tb (i := 4) (by decide +kernel)) rfl
theorem cw_5 : ∀ w ∈ u_ws "FederationWire$Wire" fT_5 7, w ∈ lw_tbl := by decide +kernel
theorem cg_5 : ∀ w ∈ u_ws "FederationWire$Wire" fT_5 7, goodWord w = true := by decide +kernel
theorem cy_5 : ∀ j, j < 7 → parseFieldDescriptor (fT_5 j).2.2.1 = some (fY_5 j) := by decide +kernel
theorem cl_5 : fw_Cl 5 "FederationWire$Wire" fT_5 7 := ⟨rfl, fun w h => fw_in (cw_5 w h) (cg_5 w h), rfl, by decide, ⟨fY_5, cy_5⟩, by decide +kernel, by decide +kernel⟩
theorem nd_5 : ∀ j, j < 7 → ((parseFieldDescriptor (fT_5 j).2.2.1).map defaultValue) = some (fw_fv 5 (fun _ => 0) (fun _ => none) j) := by
  intro j hj
  rw [cy_5 j hj]
  have h : j = 0 ∨ j = 1 ∨ j = 2 ∨ j = 3 ∨ j = 4 ∨ j = 5 ∨ j = 6 := by omega
  rcases h with rfl | rfl | rfl | rfl | rfl | rfl | rfl <;> rfl
theorem ni_5 : Cond.instantiable "FederationWire$Wire" 7 ∈ fw_WS := fw_in (fw_tb (i := 127) (by decide +kernel)) rfl
theorem nj_5 : Cond.initialized "FederationWire$Wire" ∈ fw_WS := fw_in (fw_tb (i := 7) (by decide +kernel)) rfl
theorem cw_6 : ∀ w ∈ u_ws "FederationWire" fT_6 13, w ∈ lw_tbl := by decide +kernel
theorem cg_6 : ∀ w ∈ u_ws "FederationWire" fT_6 13, goodWord w = true := by decide +kernel
theorem cy_6 : ∀ j, j < 13 → parseFieldDescriptor (fT_6 j).2.2.1 = some (fY_6 j) := by decide +kernel
theorem cl_6 : fw_Cl 6 "FederationWire" fT_6 13 := ⟨rfl, fun w h => fw_in (cw_6 w h) (cg_6 w h), rfl, by decide, ⟨fY_6, cy_6⟩, by decide +kernel, by decide +kernel⟩
theorem nd_6 : ∀ j, j < 13 → ((parseFieldDescriptor (fT_6 j).2.2.1).map defaultValue) = some (fw_fv 6 (fun _ => 0) (fun _ => none) j) := by
  intro j hj
  rw [cy_6 j hj]
  have h : j = 0 ∨ j = 1 ∨ j = 2 ∨ j = 3 ∨ j = 4 ∨ j = 5 ∨ j = 6 ∨ j = 7 ∨ j = 8 ∨ j = 9 ∨ j = 10 ∨ j = 11 ∨ j = 12 := by omega
  rcases h with rfl | rfl | rfl | rfl | rfl | rfl | rfl | rfl | rfl | rfl | rfl | rfl | rfl <;> rfl
theorem ni_6 : Cond.instantiable "FederationWire" 13 ∈ fw_WS := fw_in (fw_tb (i := 11) (by decide +kernel)) rfl
theorem nj_6 : Cond.initialized "FederationWire" ∈ fw_WS := fw_in (fw_tb (i := 1) (by decide +kernel)) rfl
theorem cw_7 : ∀ w ∈ u_ws "FederationWireModel" fT_7 51, w ∈ lw_tbl := by decide +kernel
theorem cg_7 : ∀ w ∈ u_ws "FederationWireModel" fT_7 51, goodWord w = true := by decide +kernel
theorem cy_7 : ∀ j, j < 51 → parseFieldDescriptor (fT_7 j).2.2.1 = some (fY_7 j) := by decide +kernel
theorem cl_7 : fw_Cl 7 "FederationWireModel" fT_7 51 := ⟨rfl, fun w h => fw_in (cw_7 w h) (cg_7 w h), rfl, by decide, ⟨fY_7, cy_7⟩, by decide +kernel, by decide +kernel⟩
theorem nd_7 : ∀ j, j < 51 → ((parseFieldDescriptor (fT_7 j).2.2.1).map defaultValue) = some (fw_fv 7 (fun _ => 0) (fun _ => none) j) := by
  intro j hj
  rw [cy_7 j hj]
  have h : j = 0 ∨ j = 1 ∨ j = 2 ∨ j = 3 ∨ j = 4 ∨ j = 5 ∨ j = 6 ∨ j = 7 ∨ j = 8 ∨ j = 9 ∨ j = 10 ∨ j = 11 ∨ j = 12 ∨ j = 13 ∨ j = 14 ∨ j = 15 ∨ j = 16 ∨ j = 17 ∨ j = 18 ∨ j = 19 ∨ j = 20 ∨ j = 21 ∨ j = 22 ∨ j = 23 ∨ j = 24 ∨ j = 25 ∨ j = 26 ∨ j = 27 ∨ j = 28 ∨ j = 29 ∨ j = 30 ∨ j = 31 ∨ j = 32 ∨ j = 33 ∨ j = 34 ∨ j = 35 ∨ j = 36 ∨ j = 37 ∨ j = 38 ∨ j = 39 ∨ j = 40 ∨ j = 41 ∨ j = 42 ∨ j = 43 ∨ j = 44 ∨ j = 45 ∨ j = 46 ∨ j = 47 ∨ j = 48 ∨ j = 49 ∨ j = 50 := by omega
  rcases h with rfl | rfl | rfl | rfl | rfl | rfl | rfl | rfl | rfl | rfl | rfl | rfl | rfl | rfl | rfl | rfl | rfl | rfl | rfl | rfl | rfl | rfl | rfl | rfl | rfl | rfl | rfl | rfl | rfl | rfl | rfl | rfl | rfl | rfl | rfl | rfl | rfl | rfl | rfl | rfl | rfl | rfl | rfl | rfl | rfl | rfl | rfl | rfl | rfl | rfl | rfl <;> rfl
theorem ni_7 : Cond.instantiable "FederationWireModel" 51 ∈ fw_WS := fw_in (fw_tb (i := 547) (by decide +kernel)) rfl
theorem nj_7 : Cond.initialized "FederationWireModel" ∈ fw_WS := fw_in (fw_tb (i := 8) (by decide +kernel)) rfl
theorem ob_1 : Cond.instanceMethod objectInit ∈ fw_WS := fw_in (fw_tb (i := 16) (by decide +kernel)) rfl
theorem ob_2 : Cond.code objectInit ⟨#[0xb1]⟩ 1 none ∈ fw_WS := fw_in (fw_tb (i := 17) (by decide +kernel)) rfl
theorem mmin_1 : Cond.static Lib.Math.min.name ∈ fw_WS := fw_in (fw_tb (i := 378) (by decide +kernel)) rfl
theorem mmin_2 : Cond.initialized "java/lang/Math" ∈ fw_WS := fw_in (fw_tb (i := 3) (by decide +kernel)) rfl
theorem mmin_3 : Cond.code Lib.Math.min.name Lib.Math.min.code 2 (some .int) ∈ fw_WS := fw_in (fw_tb (i := 379) (by decide +kernel)) rfl
theorem mmax_1 : Cond.static Lib.Math.max.name ∈ fw_WS := fw_in (fw_tb (i := 29) (by decide +kernel)) rfl
theorem mmax_2 : Cond.initialized "java/lang/Math" ∈ fw_WS := fw_in (fw_tb (i := 3) (by decide +kernel)) rfl
theorem mmax_3 : Cond.code Lib.Math.max.name Lib.Math.max.code 2 (some .int) ∈ fw_WS := fw_in (fw_tb (i := 30) (by decide +kernel)) rfl
theorem ac_int : Cond.arrayClass .int ∈ fw_WS := fw_in (fw_tb (i := 44) (by decide +kernel)) rfl
theorem ac_boolean : Cond.arrayClass .boolean ∈ fw_WS := fw_in (fw_tb (i := 160) (by decide +kernel)) rfl
def y_Frame_init : MethodName := ⟨"FederationWire$Frame", "<init>", "()V"⟩
theorem yi_Frame_init : Cond.instanceMethod y_Frame_init ∈ fw_WS := fw_in (fw_tb (i := 58) (by decide +kernel)) rfl
def y_Frame_begin : MethodName := ⟨"FederationWire$Frame", "begin", "(II)V"⟩
theorem yi_Frame_begin : Cond.instanceMethod y_Frame_begin ∈ fw_WS := fw_in (fw_tb (i := 370) (by decide +kernel)) rfl
theorem ys_Frame_begin : Cond.selects y_Frame_begin.cls y_Frame_begin y_Frame_begin ∈ fw_WS := fw_in (fw_tb (i := 371) (by decide +kernel)) rfl
def y_Frame_put : MethodName := ⟨"FederationWire$Frame", "put", "(I)V"⟩
theorem yi_Frame_put : Cond.instanceMethod y_Frame_put ∈ fw_WS := fw_in (fw_tb (i := 374) (by decide +kernel)) rfl
theorem ys_Frame_put : Cond.selects y_Frame_put.cls y_Frame_put y_Frame_put ∈ fw_WS := fw_in (fw_tb (i := 375) (by decide +kernel)) rfl
def y_Frame_byteAt : MethodName := ⟨"FederationWire$Frame", "byteAt", "(I)I"⟩
theorem yi_Frame_byteAt : Cond.instanceMethod y_Frame_byteAt ∈ fw_WS := fw_in (fw_tb (i := 234) (by decide +kernel)) rfl
theorem ys_Frame_byteAt : Cond.selects y_Frame_byteAt.cls y_Frame_byteAt y_Frame_byteAt ∈ fw_WS := fw_in (fw_tb (i := 235) (by decide +kernel)) rfl
def y_Frame_sum : MethodName := ⟨"FederationWire$Frame", "sum", "()I"⟩
theorem yi_Frame_sum : Cond.instanceMethod y_Frame_sum ∈ fw_WS := fw_in (fw_tb (i := 238) (by decide +kernel)) rfl
theorem ys_Frame_sum : Cond.selects y_Frame_sum.cls y_Frame_sum y_Frame_sum ∈ fw_WS := fw_in (fw_tb (i := 239) (by decide +kernel)) rfl
def y_Pairs_init : MethodName := ⟨"FederationWire$Pairs", "<init>", "(I)V"⟩
theorem yi_Pairs_init : Cond.instanceMethod y_Pairs_init ∈ fw_WS := fw_in (fw_tb (i := 25) (by decide +kernel)) rfl
def y_Memory_init : MethodName := ⟨"FederationWire$Memory", "<init>", "()V"⟩
theorem yi_Memory_init : Cond.instanceMethod y_Memory_init ∈ fw_WS := fw_in (fw_tb (i := 85) (by decide +kernel)) rfl
def y_Pairs_add : MethodName := ⟨"FederationWire$Pairs", "add", "(II)Z"⟩
theorem yi_Pairs_add : Cond.instanceMethod y_Pairs_add ∈ fw_WS := fw_in (fw_tb (i := 265) (by decide +kernel)) rfl
theorem ys_Pairs_add : Cond.selects y_Pairs_add.cls y_Pairs_add y_Pairs_add ∈ fw_WS := fw_in (fw_tb (i := 266) (by decide +kernel)) rfl
def y_Pairs_keyAt : MethodName := ⟨"FederationWire$Pairs", "keyAt", "(I)I"⟩
theorem yi_Pairs_keyAt : Cond.instanceMethod y_Pairs_keyAt ∈ fw_WS := fw_in (fw_tb (i := 283) (by decide +kernel)) rfl
theorem ys_Pairs_keyAt : Cond.selects y_Pairs_keyAt.cls y_Pairs_keyAt y_Pairs_keyAt ∈ fw_WS := fw_in (fw_tb (i := 284) (by decide +kernel)) rfl
def y_Pairs_valueAt : MethodName := ⟨"FederationWire$Pairs", "valueAt", "(I)I"⟩
theorem yi_Pairs_valueAt : Cond.instanceMethod y_Pairs_valueAt ∈ fw_WS := fw_in (fw_tb (i := 287) (by decide +kernel)) rfl
theorem ys_Pairs_valueAt : Cond.selects y_Pairs_valueAt.cls y_Pairs_valueAt y_Pairs_valueAt ∈ fw_WS := fw_in (fw_tb (i := 288) (by decide +kernel)) rfl
def y_Pairs_clear : MethodName := ⟨"FederationWire$Pairs", "clear", "()V"⟩
theorem yi_Pairs_clear : Cond.instanceMethod y_Pairs_clear ∈ fw_WS := fw_in (fw_tb (i := 354) (by decide +kernel)) rfl
theorem ys_Pairs_clear : Cond.selects y_Pairs_clear.cls y_Pairs_clear y_Pairs_clear ∈ fw_WS := fw_in (fw_tb (i := 355) (by decide +kernel)) rfl
def y_Request_addKey : MethodName := ⟨"FederationWire$Request", "addKey", "(I)V"⟩
theorem yi_Request_addKey : Cond.instanceMethod y_Request_addKey ∈ fw_WS := fw_in (fw_tb (i := 293) (by decide +kernel)) rfl
theorem ys_Request_addKey : Cond.selects y_Request_addKey.cls y_Request_addKey y_Request_addKey ∈ fw_WS := fw_in (fw_ts 6 (by decide +kernel)) rfl
def y_Request_init : MethodName := ⟨"FederationWire$Request", "<init>", "(IIZILFederationWire$Pairs;)V"⟩
theorem yi_Request_init : Cond.instanceMethod y_Request_init ∈ fw_WS := fw_in (fw_tb (i := 274) (by decide +kernel)) rfl
def y_Request_hasKeysLeft : MethodName := ⟨"FederationWire$Request", "hasKeysLeft", "()Z"⟩
theorem yi_Request_hasKeysLeft : Cond.instanceMethod y_Request_hasKeysLeft ∈ fw_WS := fw_in (fw_tb (i := 358) (by decide +kernel)) rfl
theorem ys_Request_hasKeysLeft : Cond.selects y_Request_hasKeysLeft.cls y_Request_hasKeysLeft y_Request_hasKeysLeft ∈ fw_WS := fw_in (fw_tb (i := 359) (by decide +kernel)) rfl
def y_Request_nextStep : MethodName := ⟨"FederationWire$Request", "nextStep", "(I)V"⟩
theorem yi_Request_nextStep : Cond.instanceMethod y_Request_nextStep ∈ fw_WS := fw_in (fw_tb (i := 367) (by decide +kernel)) rfl
theorem ys_Request_nextStep : Cond.selects y_Request_nextStep.cls y_Request_nextStep y_Request_nextStep ∈ fw_WS := fw_in (fw_ts 7 (by decide +kernel)) rfl
def y_Request_writeAsk : MethodName := ⟨"FederationWire$Request", "writeAsk", "()V"⟩
theorem yi_Request_writeAsk : Cond.instanceMethod y_Request_writeAsk ∈ fw_WS := fw_in (fw_tb (i := 362) (by decide +kernel)) rfl
theorem ys_Request_writeAsk : Cond.selects y_Request_writeAsk.cls y_Request_writeAsk y_Request_writeAsk ∈ fw_WS := fw_in (fw_tb (i := 363) (by decide +kernel)) rfl
def y_Request_writeMore : MethodName := ⟨"FederationWire$Request", "writeMore", "()V"⟩
theorem yi_Request_writeMore : Cond.instanceMethod y_Request_writeMore ∈ fw_WS := fw_in (fw_tb (i := 466) (by decide +kernel)) rfl
theorem ys_Request_writeMore : Cond.selects y_Request_writeMore.cls y_Request_writeMore y_Request_writeMore ∈ fw_WS := fw_in (fw_tb (i := 467) (by decide +kernel)) rfl
def y_Request_waitsFor : MethodName := ⟨"FederationWire$Request", "waitsFor", "(LFederationWire$Frame;I)Z"⟩
theorem yi_Request_waitsFor : Cond.instanceMethod y_Request_waitsFor ∈ fw_WS := fw_in (fw_tb (i := 451) (by decide +kernel)) rfl
theorem ys_Request_waitsFor : Cond.selects y_Request_waitsFor.cls y_Request_waitsFor y_Request_waitsFor ∈ fw_WS := fw_in (fw_tb (i := 452) (by decide +kernel)) rfl
def y_Request_takeRows : MethodName := ⟨"FederationWire$Request", "takeRows", "(LFederationWire$Frame;)V"⟩
theorem yi_Request_takeRows : Cond.instanceMethod y_Request_takeRows ∈ fw_WS := fw_in (fw_tb (i := 461) (by decide +kernel)) rfl
theorem ys_Request_takeRows : Cond.selects y_Request_takeRows.cls y_Request_takeRows y_Request_takeRows ∈ fw_WS := fw_in (fw_tb (i := 462) (by decide +kernel)) rfl
def y_Request_fail : MethodName := ⟨"FederationWire$Request", "fail", "(I)V"⟩
theorem yi_Request_fail : Cond.instanceMethod y_Request_fail ∈ fw_WS := fw_in (fw_tb (i := 456) (by decide +kernel)) rfl
theorem ys_Request_fail : Cond.selects y_Request_fail.cls y_Request_fail y_Request_fail ∈ fw_WS := fw_in (fw_tb (i := 457) (by decide +kernel)) rfl
def y_Request_joinedSize : MethodName := ⟨"FederationWire$Request", "joinedSize", "()I"⟩
theorem yi_Request_joinedSize : Cond.instanceMethod y_Request_joinedSize ∈ fw_WS := fw_in (fw_tb (i := 509) (by decide +kernel)) rfl
theorem ys_Request_joinedSize : Cond.selects y_Request_joinedSize.cls y_Request_joinedSize y_Request_joinedSize ∈ fw_WS := fw_in (fw_tb (i := 510) (by decide +kernel)) rfl
def y_Request_silentPart : MethodName := ⟨"FederationWire$Request", "silentPart", "(IZ)I"⟩
theorem yi_Request_silentPart : Cond.instanceMethod y_Request_silentPart ∈ fw_WS := fw_in (fw_tb (i := 528) (by decide +kernel)) rfl
theorem ys_Request_silentPart : Cond.selects y_Request_silentPart.cls y_Request_silentPart y_Request_silentPart ∈ fw_WS := fw_in (fw_ts 23 (by decide +kernel)) rfl
def y_Request_joinedPart : MethodName := ⟨"FederationWire$Request", "joinedPart", "(IZ)I"⟩
theorem yi_Request_joinedPart : Cond.instanceMethod y_Request_joinedPart ∈ fw_WS := fw_in (fw_tb (i := 523) (by decide +kernel)) rfl
theorem ys_Request_joinedPart : Cond.selects y_Request_joinedPart.cls y_Request_joinedPart y_Request_joinedPart ∈ fw_WS := fw_in (fw_tb (i := 524) (by decide +kernel)) rfl
def y_ServingEnd_init : MethodName := ⟨"FederationWire$ServingEnd", "<init>", "()V"⟩
theorem yi_ServingEnd_init : Cond.instanceMethod y_ServingEnd_init ∈ fw_WS := fw_in (fw_tb (i := 48) (by decide +kernel)) rfl
def y_ServingEnd_memoryAt : MethodName := ⟨"FederationWire$ServingEnd", "memoryAt", "(I)LFederationWire$Memory;"⟩
theorem yi_ServingEnd_memoryAt : Cond.instanceMethod y_ServingEnd_memoryAt ∈ fw_WS := fw_in (fw_tb (i := 420) (by decide +kernel)) rfl
theorem ys_ServingEnd_memoryAt : Cond.selects y_ServingEnd_memoryAt.cls y_ServingEnd_memoryAt y_ServingEnd_memoryAt ∈ fw_WS := fw_in (fw_ts 14 (by decide +kernel)) rfl
def y_ServingEnd_placeOf : MethodName := ⟨"FederationWire$ServingEnd", "placeOf", "(I)I"⟩
theorem yi_ServingEnd_placeOf : Cond.instanceMethod y_ServingEnd_placeOf ∈ fw_WS := fw_in (fw_tb (i := 416) (by decide +kernel)) rfl
theorem ys_ServingEnd_placeOf : Cond.selects y_ServingEnd_placeOf.cls y_ServingEnd_placeOf y_ServingEnd_placeOf ∈ fw_WS := fw_in (fw_ts 13 (by decide +kernel)) rfl
def y_ServingEnd_memoryFor : MethodName := ⟨"FederationWire$ServingEnd", "memoryFor", "(I)LFederationWire$Memory;"⟩
theorem yi_ServingEnd_memoryFor : Cond.instanceMethod y_ServingEnd_memoryFor ∈ fw_WS := fw_in (fw_tb (i := 425) (by decide +kernel)) rfl
theorem ys_ServingEnd_memoryFor : Cond.selects y_ServingEnd_memoryFor.cls y_ServingEnd_memoryFor y_ServingEnd_memoryFor ∈ fw_WS := fw_in (fw_ts 15 (by decide +kernel)) rfl
def y_ServingEnd_remember : MethodName := ⟨"FederationWire$ServingEnd", "remember", "(LFederationWire$Memory;LFederationWire$Frame;)V"⟩
theorem yi_ServingEnd_remember : Cond.instanceMethod y_ServingEnd_remember ∈ fw_WS := fw_in (fw_tb (i := 429) (by decide +kernel)) rfl
theorem ys_ServingEnd_remember : Cond.selects y_ServingEnd_remember.cls y_ServingEnd_remember y_ServingEnd_remember ∈ fw_WS := fw_in (fw_ts 16 (by decide +kernel)) rfl
def y_ServingEnd_writeRows : MethodName := ⟨"FederationWire$ServingEnd", "writeRows", "(LFederationWire$Memory;II)V"⟩
theorem yi_ServingEnd_writeRows : Cond.instanceMethod y_ServingEnd_writeRows ∈ fw_WS := fw_in (fw_tb (i := 437) (by decide +kernel)) rfl
theorem ys_ServingEnd_writeRows : Cond.selects y_ServingEnd_writeRows.cls y_ServingEnd_writeRows y_ServingEnd_writeRows ∈ fw_WS := fw_in (fw_ts 17 (by decide +kernel)) rfl
def y_ServingEnd_answerAsk : MethodName := ⟨"FederationWire$ServingEnd", "answerAsk", "(LFederationWire$Frame;)V"⟩
theorem yi_ServingEnd_answerAsk : Cond.instanceMethod y_ServingEnd_answerAsk ∈ fw_WS := fw_in (fw_tb (i := 411) (by decide +kernel)) rfl
theorem ys_ServingEnd_answerAsk : Cond.selects y_ServingEnd_answerAsk.cls y_ServingEnd_answerAsk y_ServingEnd_answerAsk ∈ fw_WS := fw_in (fw_tb (i := 412) (by decide +kernel)) rfl
def y_ServingEnd_answerMore : MethodName := ⟨"FederationWire$ServingEnd", "answerMore", "(LFederationWire$Frame;)V"⟩
theorem yi_ServingEnd_answerMore : Cond.instanceMethod y_ServingEnd_answerMore ∈ fw_WS := fw_in (fw_tb (i := 443) (by decide +kernel)) rfl
theorem ys_ServingEnd_answerMore : Cond.selects y_ServingEnd_answerMore.cls y_ServingEnd_answerMore y_ServingEnd_answerMore ∈ fw_WS := fw_in (fw_tb (i := 444) (by decide +kernel)) rfl
def y_Wire_init : MethodName := ⟨"FederationWire$Wire", "<init>", "(Z)V"⟩
theorem yi_Wire_init : Cond.instanceMethod y_Wire_init ∈ fw_WS := fw_in (fw_tb (i := 129) (by decide +kernel)) rfl
def y_Wire_clearOut : MethodName := ⟨"FederationWire$Wire", "clearOut", "()V"⟩
theorem yi_Wire_clearOut : Cond.instanceMethod y_Wire_clearOut ∈ fw_WS := fw_in (fw_tb (i := 250) (by decide +kernel)) rfl
theorem ys_Wire_clearOut : Cond.selects y_Wire_clearOut.cls y_Wire_clearOut y_Wire_clearOut ∈ fw_WS := fw_in (fw_tb (i := 251) (by decide +kernel)) rfl
def y_Wire_end : MethodName := ⟨"FederationWire$Wire", "end", "()V"⟩
theorem yi_Wire_end : Cond.instanceMethod y_Wire_end ∈ fw_WS := fw_in (fw_tb (i := 246) (by decide +kernel)) rfl
theorem ys_Wire_end : Cond.selects y_Wire_end.cls y_Wire_end y_Wire_end ∈ fw_WS := fw_in (fw_tb (i := 247) (by decide +kernel)) rfl
def y_Wire_push : MethodName := ⟨"FederationWire$Wire", "push", "(I)V"⟩
theorem yi_Wire_push : Cond.instanceMethod y_Wire_push ∈ fw_WS := fw_in (fw_tb (i := 231) (by decide +kernel)) rfl
theorem ys_Wire_push : Cond.selects y_Wire_push.cls y_Wire_push y_Wire_push ∈ fw_WS := fw_in (fw_ts 5 (by decide +kernel)) rfl
def y_Wire_send : MethodName := ⟨"FederationWire$Wire", "send", "(LFederationWire$Frame;)Z"⟩
theorem yi_Wire_send : Cond.instanceMethod y_Wire_send ∈ fw_WS := fw_in (fw_tb (i := 226) (by decide +kernel)) rfl
theorem ys_Wire_send : Cond.selects y_Wire_send.cls y_Wire_send y_Wire_send ∈ fw_WS := fw_in (fw_tb (i := 227) (by decide +kernel)) rfl
def y_Wire_takeFirst : MethodName := ⟨"FederationWire$Wire", "takeFirst", "()I"⟩
theorem yi_Wire_takeFirst : Cond.instanceMethod y_Wire_takeFirst ∈ fw_WS := fw_in (fw_tb (i := 478) (by decide +kernel)) rfl
theorem ys_Wire_takeFirst : Cond.selects y_Wire_takeFirst.cls y_Wire_takeFirst y_Wire_takeFirst ∈ fw_WS := fw_in (fw_tb (i := 479) (by decide +kernel)) rfl
def y_Wire_lengthSuits : MethodName := ⟨"FederationWire$Wire", "lengthSuits", "(I)Z"⟩
theorem yi_Wire_lengthSuits : Cond.instanceMethod y_Wire_lengthSuits ∈ fw_WS := fw_in (fw_tb (i := 398) (by decide +kernel)) rfl
theorem ys_Wire_lengthSuits : Cond.selects y_Wire_lengthSuits.cls y_Wire_lengthSuits y_Wire_lengthSuits ∈ fw_WS := fw_in (fw_ts 10 (by decide +kernel)) rfl
def y_Wire_suits : MethodName := ⟨"FederationWire$Wire", "suits", "(I)Z"⟩
theorem yi_Wire_suits : Cond.instanceMethod y_Wire_suits ∈ fw_WS := fw_in (fw_tb (i := 394) (by decide +kernel)) rfl
theorem ys_Wire_suits : Cond.selects y_Wire_suits.cls y_Wire_suits y_Wire_suits ∈ fw_WS := fw_in (fw_ts 9 (by decide +kernel)) rfl
def y_Wire_keep : MethodName := ⟨"FederationWire$Wire", "keep", "(I)V"⟩
theorem yi_Wire_keep : Cond.instanceMethod y_Wire_keep ∈ fw_WS := fw_in (fw_tb (i := 402) (by decide +kernel)) rfl
theorem ys_Wire_keep : Cond.selects y_Wire_keep.cls y_Wire_keep y_Wire_keep ∈ fw_WS := fw_in (fw_ts 11 (by decide +kernel)) rfl
def y_Wire_accept : MethodName := ⟨"FederationWire$Wire", "accept", "(I)I"⟩
theorem yi_Wire_accept : Cond.instanceMethod y_Wire_accept ∈ fw_WS := fw_in (fw_tb (i := 389) (by decide +kernel)) rfl
theorem ys_Wire_accept : Cond.selects y_Wire_accept.cls y_Wire_accept y_Wire_accept ∈ fw_WS := fw_in (fw_tb (i := 390) (by decide +kernel)) rfl
def y_FW_init : MethodName := ⟨"FederationWire", "<init>", "()V"⟩
theorem yi_FW_init : Cond.instanceMethod y_FW_init ∈ fw_WS := fw_in (fw_tb (i := 13) (by decide +kernel)) rfl
def y_FW_wireAt : MethodName := ⟨"FederationWire", "wireAt", "(I)LFederationWire$Wire;"⟩
theorem yi_FW_wireAt : Cond.instanceMethod y_FW_wireAt ∈ fw_WS := fw_in (fw_tb (i := 211) (by decide +kernel)) rfl
theorem ys_FW_wireAt : Cond.selects y_FW_wireAt.cls y_FW_wireAt y_FW_wireAt ∈ fw_WS := fw_in (fw_ts 1 (by decide +kernel)) rfl
def y_FW_houseWire : MethodName := ⟨"FederationWire", "houseWire", "(I)LFederationWire$Wire;"⟩
theorem yi_FW_houseWire : Cond.instanceMethod y_FW_houseWire ∈ fw_WS := fw_in (fw_tb (i := 207) (by decide +kernel)) rfl
theorem ys_FW_houseWire : Cond.selects y_FW_houseWire.cls y_FW_houseWire y_FW_houseWire ∈ fw_WS := fw_in (fw_ts 0 (by decide +kernel)) rfl
def y_FW_requestAt : MethodName := ⟨"FederationWire", "requestAt", "(I)LFederationWire$Request;"⟩
theorem yi_FW_requestAt : Cond.instanceMethod y_FW_requestAt ∈ fw_WS := fw_in (fw_tb (i := 215) (by decide +kernel)) rfl
theorem ys_FW_requestAt : Cond.selects y_FW_requestAt.cls y_FW_requestAt y_FW_requestAt ∈ fw_WS := fw_in (fw_ts 2 (by decide +kernel)) rfl
def y_FW_send : MethodName := ⟨"FederationWire", "send", "(LFederationWire$Frame;LFederationWire$Wire;)Z"⟩
theorem yi_FW_send : Cond.instanceMethod y_FW_send ∈ fw_WS := fw_in (fw_tb (i := 223) (by decide +kernel)) rfl
theorem ys_FW_send : Cond.selects y_FW_send.cls y_FW_send y_FW_send ∈ fw_WS := fw_in (fw_ts 4 (by decide +kernel)) rfl
def y_FW_sendFirst : MethodName := ⟨"FederationWire", "sendFirst", "(LFederationWire$Request;LFederationWire$Wire;)Z"⟩
theorem yi_FW_sendFirst : Cond.instanceMethod y_FW_sendFirst ∈ fw_WS := fw_in (fw_tb (i := 219) (by decide +kernel)) rfl
theorem ys_FW_sendFirst : Cond.selects y_FW_sendFirst.cls y_FW_sendFirst y_FW_sendFirst ∈ fw_WS := fw_in (fw_ts 3 (by decide +kernel)) rfl
def y_FW_up : MethodName := ⟨"FederationWire", "up", "(I)I"⟩
theorem yi_FW_up : Cond.instanceMethod y_FW_up ∈ fw_WS := fw_in (fw_tb (i := 202) (by decide +kernel)) rfl
theorem ys_FW_up : Cond.selects y_FW_up.cls y_FW_up y_FW_up ∈ fw_WS := fw_in (fw_tb (i := 203) (by decide +kernel)) rfl
def y_FW_down : MethodName := ⟨"FederationWire", "down", "(I)I"⟩
theorem yi_FW_down : Cond.instanceMethod y_FW_down ∈ fw_WS := fw_in (fw_tb (i := 242) (by decide +kernel)) rfl
theorem ys_FW_down : Cond.selects y_FW_down.cls y_FW_down y_FW_down ∈ fw_WS := fw_in (fw_tb (i := 243) (by decide +kernel)) rfl
def y_FW_setting : MethodName := ⟨"FederationWire", "setting", "(II)I"⟩
theorem yi_FW_setting : Cond.instanceMethod y_FW_setting ∈ fw_WS := fw_in (fw_tb (i := 254) (by decide +kernel)) rfl
theorem ys_FW_setting : Cond.selects y_FW_setting.cls y_FW_setting y_FW_setting ∈ fw_WS := fw_in (fw_tb (i := 255) (by decide +kernel)) rfl
def y_FW_isByte : MethodName := ⟨"FederationWire", "isByte", "(I)Z"⟩
theorem yt_FW_isByte : Cond.static y_FW_isByte ∈ fw_WS := fw_in (fw_tb (i := 262) (by decide +kernel)) rfl
def y_FW_bind : MethodName := ⟨"FederationWire", "bind", "(II)I"⟩
theorem yi_FW_bind : Cond.instanceMethod y_FW_bind ∈ fw_WS := fw_in (fw_tb (i := 258) (by decide +kernel)) rfl
theorem ys_FW_bind : Cond.selects y_FW_bind.cls y_FW_bind y_FW_bind ∈ fw_WS := fw_in (fw_tb (i := 259) (by decide +kernel)) rfl
def y_FW_ask : MethodName := ⟨"FederationWire", "ask", "(IZ)I"⟩
theorem yi_FW_ask : Cond.instanceMethod y_FW_ask ∈ fw_WS := fw_in (fw_tb (i := 269) (by decide +kernel)) rfl
theorem ys_FW_ask : Cond.selects y_FW_ask.cls y_FW_ask y_FW_ask ∈ fw_WS := fw_in (fw_tb (i := 270) (by decide +kernel)) rfl
def y_FW_serve : MethodName := ⟨"FederationWire", "serve", "(LFederationWire$Frame;LFederationWire$Wire;)Z"⟩
theorem yi_FW_serve : Cond.instanceMethod y_FW_serve ∈ fw_WS := fw_in (fw_tb (i := 408) (by decide +kernel)) rfl
theorem ys_FW_serve : Cond.selects y_FW_serve.cls y_FW_serve y_FW_serve ∈ fw_WS := fw_in (fw_ts 12 (by decide +kernel)) rfl
def y_FW_learn : MethodName := ⟨"FederationWire", "learn", "(LFederationWire$Request;)V"⟩
theorem yi_FW_learn : Cond.instanceMethod y_FW_learn ∈ fw_WS := fw_in (fw_tb (i := 471) (by decide +kernel)) rfl
theorem ys_FW_learn : Cond.selects y_FW_learn.cls y_FW_learn y_FW_learn ∈ fw_WS := fw_in (fw_ts 19 (by decide +kernel)) rfl
def y_FW_hear : MethodName := ⟨"FederationWire", "hear", "(LFederationWire$Frame;ILFederationWire$Wire;)Z"⟩
theorem yi_FW_hear : Cond.instanceMethod y_FW_hear ∈ fw_WS := fw_in (fw_tb (i := 448) (by decide +kernel)) rfl
theorem ys_FW_hear : Cond.selects y_FW_hear.cls y_FW_hear y_FW_hear ∈ fw_WS := fw_in (fw_ts 18 (by decide +kernel)) rfl
def y_FW_take : MethodName := ⟨"FederationWire", "take", "(ILFederationWire$Wire;I)I"⟩
theorem yi_FW_take : Cond.instanceMethod y_FW_take ∈ fw_WS := fw_in (fw_tb (i := 386) (by decide +kernel)) rfl
theorem ys_FW_take : Cond.selects y_FW_take.cls y_FW_take y_FW_take ∈ fw_WS := fw_in (fw_ts 8 (by decide +kernel)) rfl
def y_FW_octet : MethodName := ⟨"FederationWire", "octet", "(IB)I"⟩
theorem yi_FW_octet : Cond.instanceMethod y_FW_octet ∈ fw_WS := fw_in (fw_tb (i := 381) (by decide +kernel)) rfl
theorem ys_FW_octet : Cond.selects y_FW_octet.cls y_FW_octet y_FW_octet ∈ fw_WS := fw_in (fw_tb (i := 382) (by decide +kernel)) rfl
def y_FW_out : MethodName := ⟨"FederationWire", "out", "(I)I"⟩
theorem yi_FW_out : Cond.instanceMethod y_FW_out ∈ fw_WS := fw_in (fw_tb (i := 474) (by decide +kernel)) rfl
theorem ys_FW_out : Cond.selects y_FW_out.cls y_FW_out y_FW_out ∈ fw_WS := fw_in (fw_tb (i := 475) (by decide +kernel)) rfl
def y_FW_loop : MethodName := ⟨"FederationWire", "loop", "(II)I"⟩
theorem yi_FW_loop : Cond.instanceMethod y_FW_loop ∈ fw_WS := fw_in (fw_tb (i := 482) (by decide +kernel)) rfl
theorem ys_FW_loop : Cond.selects y_FW_loop.cls y_FW_loop y_FW_loop ∈ fw_WS := fw_in (fw_tb (i := 483) (by decide +kernel)) rfl
def y_FW_earliestDue : MethodName := ⟨"FederationWire", "earliestDue", "()I"⟩
theorem yi_FW_earliestDue : Cond.instanceMethod y_FW_earliestDue ∈ fw_WS := fw_in (fw_tb (i := 493) (by decide +kernel)) rfl
theorem ys_FW_earliestDue : Cond.selects y_FW_earliestDue.cls y_FW_earliestDue y_FW_earliestDue ∈ fw_WS := fw_in (fw_ts 20 (by decide +kernel)) rfl
def y_FW_repeat : MethodName := ⟨"FederationWire", "repeat", "(LFederationWire$Request;)V"⟩
theorem yi_FW_repeat : Cond.instanceMethod y_FW_repeat ∈ fw_WS := fw_in (fw_tb (i := 502) (by decide +kernel)) rfl
theorem ys_FW_repeat : Cond.selects y_FW_repeat.cls y_FW_repeat y_FW_repeat ∈ fw_WS := fw_in (fw_ts 22 (by decide +kernel)) rfl
def y_FW_settleDue : MethodName := ⟨"FederationWire", "settleDue", "()I"⟩
theorem yi_FW_settleDue : Cond.instanceMethod y_FW_settleDue ∈ fw_WS := fw_in (fw_tb (i := 498) (by decide +kernel)) rfl
theorem ys_FW_settleDue : Cond.selects y_FW_settleDue.cls y_FW_settleDue y_FW_settleDue ∈ fw_WS := fw_in (fw_ts 21 (by decide +kernel)) rfl
def y_FW_tick : MethodName := ⟨"FederationWire", "tick", "(I)I"⟩
theorem yi_FW_tick : Cond.instanceMethod y_FW_tick ∈ fw_WS := fw_in (fw_tb (i := 488) (by decide +kernel)) rfl
theorem ys_FW_tick : Cond.selects y_FW_tick.cls y_FW_tick y_FW_tick ∈ fw_WS := fw_in (fw_tb (i := 489) (by decide +kernel)) rfl
def y_FW_told : MethodName := ⟨"FederationWire", "told", "(II)I"⟩
theorem yi_FW_told : Cond.instanceMethod y_FW_told ∈ fw_WS := fw_in (fw_tb (i := 505) (by decide +kernel)) rfl
theorem ys_FW_told : Cond.selects y_FW_told.cls y_FW_told y_FW_told ∈ fw_WS := fw_in (fw_tb (i := 506) (by decide +kernel)) rfl
def y_FW_row : MethodName := ⟨"FederationWire", "row", "(III)I"⟩
theorem yi_FW_row : Cond.instanceMethod y_FW_row ∈ fw_WS := fw_in (fw_tb (i := 513) (by decide +kernel)) rfl
theorem ys_FW_row : Cond.selects y_FW_row.cls y_FW_row y_FW_row ∈ fw_WS := fw_in (fw_tb (i := 514) (by decide +kernel)) rfl
def y_FW_joined : MethodName := ⟨"FederationWire", "joined", "(III)I"⟩
theorem yi_FW_joined : Cond.instanceMethod y_FW_joined ∈ fw_WS := fw_in (fw_tb (i := 519) (by decide +kernel)) rfl
theorem ys_FW_joined : Cond.selects y_FW_joined.cls y_FW_joined y_FW_joined ∈ fw_WS := fw_in (fw_tb (i := 520) (by decide +kernel)) rfl
def y_FW_estimate : MethodName := ⟨"FederationWire", "estimate", "(I)I"⟩
theorem yi_FW_estimate : Cond.instanceMethod y_FW_estimate ∈ fw_WS := fw_in (fw_tb (i := 531) (by decide +kernel)) rfl
theorem ys_FW_estimate : Cond.selects y_FW_estimate.cls y_FW_estimate y_FW_estimate ∈ fw_WS := fw_in (fw_tb (i := 532) (by decide +kernel)) rfl
def y_FW_fact : MethodName := ⟨"FederationWire", "fact", "(II)I"⟩
theorem yi_FW_fact : Cond.instanceMethod y_FW_fact ∈ fw_WS := fw_in (fw_tb (i := 535) (by decide +kernel)) rfl
theorem ys_FW_fact : Cond.selects y_FW_fact.cls y_FW_fact y_FW_fact ∈ fw_WS := fw_in (fw_tb (i := 536) (by decide +kernel)) rfl
def y_FW_count : MethodName := ⟨"FederationWire", "count", "(I)I"⟩
theorem yi_FW_count : Cond.instanceMethod y_FW_count ∈ fw_WS := fw_in (fw_tb (i := 539) (by decide +kernel)) rfl
theorem ys_FW_count : Cond.selects y_FW_count.cls y_FW_count y_FW_count ∈ fw_WS := fw_in (fw_tb (i := 540) (by decide +kernel)) rfl
def y_FW_line : MethodName := ⟨"FederationWire", "line", "(II)I"⟩
theorem yi_FW_line : Cond.instanceMethod y_FW_line ∈ fw_WS := fw_in (fw_tb (i := 543) (by decide +kernel)) rfl
theorem ys_FW_line : Cond.selects y_FW_line.cls y_FW_line y_FW_line ∈ fw_WS := fw_in (fw_tb (i := 544) (by decide +kernel)) rfl
def y_Mo_init : MethodName := ⟨"FederationWireModel", "<init>", "()V"⟩
theorem yi_Mo_init : Cond.instanceMethod y_Mo_init ∈ fw_WS := fw_in (fw_tb (i := 549) (by decide +kernel)) rfl
def y_Mo_isIn : MethodName := ⟨"FederationWireModel", "isIn", "(III)Z"⟩
theorem yt_Mo_isIn : Cond.static y_Mo_isIn ∈ fw_WS := fw_in (fw_tb (i := 711) (by decide +kernel)) rfl
def y_Mo_send : MethodName := ⟨"FederationWireModel", "send", "(III)Z"⟩
theorem yi_Mo_send : Cond.instanceMethod y_Mo_send ∈ fw_WS := fw_in (fw_tb (i := 743) (by decide +kernel)) rfl
theorem ys_Mo_send : Cond.selects y_Mo_send.cls y_Mo_send y_Mo_send ∈ fw_WS := fw_in (fw_ts 29 (by decide +kernel)) rfl
def y_Mo_put : MethodName := ⟨"FederationWireModel", "put", "(I)V"⟩
theorem yi_Mo_put : Cond.instanceMethod y_Mo_put ∈ fw_WS := fw_in (fw_tb (i := 731) (by decide +kernel)) rfl
theorem ys_Mo_put : Cond.selects y_Mo_put.cls y_Mo_put y_Mo_put ∈ fw_WS := fw_in (fw_ts 26 (by decide +kernel)) rfl
def y_Mo_sendLast : MethodName := ⟨"FederationWireModel", "sendLast", "(I)Z"⟩
theorem yi_Mo_sendLast : Cond.instanceMethod y_Mo_sendLast ∈ fw_WS := fw_in (fw_tb (i := 739) (by decide +kernel)) rfl
theorem ys_Mo_sendLast : Cond.selects y_Mo_sendLast.cls y_Mo_sendLast y_Mo_sendLast ∈ fw_WS := fw_in (fw_ts 28 (by decide +kernel)) rfl
def y_Mo_keep : MethodName := ⟨"FederationWireModel", "keep", "(II)V"⟩
theorem yi_Mo_keep : Cond.instanceMethod y_Mo_keep ∈ fw_WS := fw_in (fw_tb (i := 735) (by decide +kernel)) rfl
theorem ys_Mo_keep : Cond.selects y_Mo_keep.cls y_Mo_keep y_Mo_keep ∈ fw_WS := fw_in (fw_ts 27 (by decide +kernel)) rfl
def y_Mo_askPart : MethodName := ⟨"FederationWireModel", "askPart", "(I)V"⟩
theorem yi_Mo_askPart : Cond.instanceMethod y_Mo_askPart ∈ fw_WS := fw_in (fw_tb (i := 727) (by decide +kernel)) rfl
theorem ys_Mo_askPart : Cond.selects y_Mo_askPart.cls y_Mo_askPart y_Mo_askPart ∈ fw_WS := fw_in (fw_ts 25 (by decide +kernel)) rfl
def y_Mo_finish : MethodName := ⟨"FederationWireModel", "finish", "(I)V"⟩
theorem yi_Mo_finish : Cond.instanceMethod y_Mo_finish ∈ fw_WS := fw_in (fw_tb (i := 802) (by decide +kernel)) rfl
theorem ys_Mo_finish : Cond.selects y_Mo_finish.cls y_Mo_finish y_Mo_finish ∈ fw_WS := fw_in (fw_ts 41 (by decide +kernel)) rfl
def y_Mo_fail : MethodName := ⟨"FederationWireModel", "fail", "(II)V"⟩
theorem yi_Mo_fail : Cond.instanceMethod y_Mo_fail ∈ fw_WS := fw_in (fw_tb (i := 798) (by decide +kernel)) rfl
theorem ys_Mo_fail : Cond.selects y_Mo_fail.cls y_Mo_fail y_Mo_fail ∈ fw_WS := fw_in (fw_ts 40 (by decide +kernel)) rfl
def y_Mo_isFailedSilently : MethodName := ⟨"FederationWireModel", "isFailedSilently", "(I)Z"⟩
theorem yi_Mo_isFailedSilently : Cond.instanceMethod y_Mo_isFailedSilently ∈ fw_WS := fw_in (fw_tb (i := 838) (by decide +kernel)) rfl
theorem ys_Mo_isFailedSilently : Cond.selects y_Mo_isFailedSilently.cls y_Mo_isFailedSilently y_Mo_isFailedSilently ∈ fw_WS := fw_in (fw_ts 44 (by decide +kernel)) rfl
def y_Mo_setting : MethodName := ⟨"FederationWireModel", "setting", "(II)I"⟩
theorem yi_Mo_setting : Cond.instanceMethod y_Mo_setting ∈ fw_WS := fw_in (fw_tb (i := 707) (by decide +kernel)) rfl
theorem ys_Mo_setting : Cond.selects y_Mo_setting.cls y_Mo_setting y_Mo_setting ∈ fw_WS := fw_in (fw_tb (i := 708) (by decide +kernel)) rfl
def y_Mo_bind : MethodName := ⟨"FederationWireModel", "bind", "(II)I"⟩
theorem yi_Mo_bind : Cond.instanceMethod y_Mo_bind ∈ fw_WS := fw_in (fw_tb (i := 714) (by decide +kernel)) rfl
theorem ys_Mo_bind : Cond.selects y_Mo_bind.cls y_Mo_bind y_Mo_bind ∈ fw_WS := fw_in (fw_tb (i := 715) (by decide +kernel)) rfl
def y_Mo_addKey : MethodName := ⟨"FederationWireModel", "addKey", "(II)V"⟩
theorem yi_Mo_addKey : Cond.instanceMethod y_Mo_addKey ∈ fw_WS := fw_in (fw_tb (i := 723) (by decide +kernel)) rfl
theorem ys_Mo_addKey : Cond.selects y_Mo_addKey.cls y_Mo_addKey y_Mo_addKey ∈ fw_WS := fw_in (fw_ts 24 (by decide +kernel)) rfl
def y_Mo_ask : MethodName := ⟨"FederationWireModel", "ask", "(IZ)I"⟩
theorem yi_Mo_ask : Cond.instanceMethod y_Mo_ask ∈ fw_WS := fw_in (fw_tb (i := 718) (by decide +kernel)) rfl
theorem ys_Mo_ask : Cond.selects y_Mo_ask.cls y_Mo_ask y_Mo_ask ∈ fw_WS := fw_in (fw_tb (i := 719) (by decide +kernel)) rfl
def y_Mo_isDropped : MethodName := ⟨"FederationWireModel", "isDropped", "(IIII)Z"⟩
theorem yi_Mo_isDropped : Cond.instanceMethod y_Mo_isDropped ∈ fw_WS := fw_in (fw_tb (i := 794) (by decide +kernel)) rfl
theorem ys_Mo_isDropped : Cond.selects y_Mo_isDropped.cls y_Mo_isDropped y_Mo_isDropped ∈ fw_WS := fw_in (fw_ts 39 (by decide +kernel)) rfl
def y_Mo_fact : MethodName := ⟨"FederationWireModel", "fact", "(II)I"⟩
theorem yi_Mo_fact : Cond.instanceMethod y_Mo_fact ∈ fw_WS := fw_in (fw_tb (i := 746) (by decide +kernel)) rfl
theorem ys_Mo_fact : Cond.selects y_Mo_fact.cls y_Mo_fact y_Mo_fact ∈ fw_WS := fw_in (fw_tb (i := 747) (by decide +kernel)) rfl
def y_Mo_placeOf : MethodName := ⟨"FederationWireModel", "placeOf", "(I)I"⟩
theorem yi_Mo_placeOf : Cond.instanceMethod y_Mo_placeOf ∈ fw_WS := fw_in (fw_tb (i := 774) (by decide +kernel)) rfl
theorem ys_Mo_placeOf : Cond.selects y_Mo_placeOf.cls y_Mo_placeOf y_Mo_placeOf ∈ fw_WS := fw_in (fw_ts 34 (by decide +kernel)) rfl
def y_Mo_copy : MethodName := ⟨"FederationWireModel", "copy", "(II)V"⟩
theorem yi_Mo_copy : Cond.instanceMethod y_Mo_copy ∈ fw_WS := fw_in (fw_tb (i := 786) (by decide +kernel)) rfl
theorem ys_Mo_copy : Cond.selects y_Mo_copy.cls y_Mo_copy y_Mo_copy ∈ fw_WS := fw_in (fw_ts 37 (by decide +kernel)) rfl
def y_Mo_forget : MethodName := ⟨"FederationWireModel", "forget", "(I)V"⟩
theorem yi_Mo_forget : Cond.instanceMethod y_Mo_forget ∈ fw_WS := fw_in (fw_tb (i := 782) (by decide +kernel)) rfl
theorem ys_Mo_forget : Cond.selects y_Mo_forget.cls y_Mo_forget y_Mo_forget ∈ fw_WS := fw_in (fw_ts 36 (by decide +kernel)) rfl
def y_Mo_answer : MethodName := ⟨"FederationWireModel", "answer", "(IIII)V"⟩
theorem yi_Mo_answer : Cond.instanceMethod y_Mo_answer ∈ fw_WS := fw_in (fw_tb (i := 790) (by decide +kernel)) rfl
theorem ys_Mo_answer : Cond.selects y_Mo_answer.cls y_Mo_answer y_Mo_answer ∈ fw_WS := fw_in (fw_ts 38 (by decide +kernel)) rfl
def y_Mo_remember : MethodName := ⟨"FederationWireModel", "remember", "(II)V"⟩
theorem yi_Mo_remember : Cond.instanceMethod y_Mo_remember ∈ fw_WS := fw_in (fw_tb (i := 778) (by decide +kernel)) rfl
theorem ys_Mo_remember : Cond.selects y_Mo_remember.cls y_Mo_remember y_Mo_remember ∈ fw_WS := fw_in (fw_ts 35 (by decide +kernel)) rfl
def y_Mo_isServed : MethodName := ⟨"FederationWireModel", "isServed", "(III)Z"⟩
theorem yi_Mo_isServed : Cond.instanceMethod y_Mo_isServed ∈ fw_WS := fw_in (fw_tb (i := 770) (by decide +kernel)) rfl
theorem ys_Mo_isServed : Cond.selects y_Mo_isServed.cls y_Mo_isServed y_Mo_isServed ∈ fw_WS := fw_in (fw_ts 33 (by decide +kernel)) rfl
def y_Mo_end : MethodName := ⟨"FederationWireModel", "end", "(I)V"⟩
theorem yi_Mo_end : Cond.instanceMethod y_Mo_end ∈ fw_WS := fw_in (fw_tb (i := 766) (by decide +kernel)) rfl
theorem ys_Mo_end : Cond.selects y_Mo_end.cls y_Mo_end y_Mo_end ∈ fw_WS := fw_in (fw_ts 32 (by decide +kernel)) rfl
def y_Mo_isLength : MethodName := ⟨"FederationWireModel", "isLength", "(II)Z"⟩
theorem yt_Mo_isLength : Cond.static y_Mo_isLength ∈ fw_WS := fw_in (fw_tb (i := 762) (by decide +kernel)) rfl
def y_Mo_fits : MethodName := ⟨"FederationWireModel", "fits", "(III)Z"⟩
theorem yi_Mo_fits : Cond.instanceMethod y_Mo_fits ∈ fw_WS := fw_in (fw_tb (i := 759) (by decide +kernel)) rfl
theorem ys_Mo_fits : Cond.selects y_Mo_fits.cls y_Mo_fits y_Mo_fits ∈ fw_WS := fw_in (fw_ts 31 (by decide +kernel)) rfl
def y_Mo_come : MethodName := ⟨"FederationWireModel", "come", "(II)I"⟩
theorem yi_Mo_come : Cond.instanceMethod y_Mo_come ∈ fw_WS := fw_in (fw_tb (i := 755) (by decide +kernel)) rfl
theorem ys_Mo_come : Cond.selects y_Mo_come.cls y_Mo_come y_Mo_come ∈ fw_WS := fw_in (fw_ts 30 (by decide +kernel)) rfl
def y_Mo_octet : MethodName := ⟨"FederationWireModel", "octet", "(IB)I"⟩
theorem yi_Mo_octet : Cond.instanceMethod y_Mo_octet ∈ fw_WS := fw_in (fw_tb (i := 750) (by decide +kernel)) rfl
theorem ys_Mo_octet : Cond.selects y_Mo_octet.cls y_Mo_octet y_Mo_octet ∈ fw_WS := fw_in (fw_tb (i := 751) (by decide +kernel)) rfl
def y_Mo_takeOut : MethodName := ⟨"FederationWireModel", "takeOut", "(I)I"⟩
theorem yi_Mo_takeOut : Cond.instanceMethod y_Mo_takeOut ∈ fw_WS := fw_in (fw_tb (i := 810) (by decide +kernel)) rfl
theorem ys_Mo_takeOut : Cond.selects y_Mo_takeOut.cls y_Mo_takeOut y_Mo_takeOut ∈ fw_WS := fw_in (fw_ts 42 (by decide +kernel)) rfl
def y_Mo_out : MethodName := ⟨"FederationWireModel", "out", "(I)I"⟩
theorem yi_Mo_out : Cond.instanceMethod y_Mo_out ∈ fw_WS := fw_in (fw_tb (i := 805) (by decide +kernel)) rfl
theorem ys_Mo_out : Cond.selects y_Mo_out.cls y_Mo_out y_Mo_out ∈ fw_WS := fw_in (fw_tb (i := 806) (by decide +kernel)) rfl
def y_Mo_loop : MethodName := ⟨"FederationWireModel", "loop", "(II)I"⟩
theorem yi_Mo_loop : Cond.instanceMethod y_Mo_loop ∈ fw_WS := fw_in (fw_tb (i := 813) (by decide +kernel)) rfl
theorem ys_Mo_loop : Cond.selects y_Mo_loop.cls y_Mo_loop y_Mo_loop ∈ fw_WS := fw_in (fw_tb (i := 814) (by decide +kernel)) rfl
def y_Mo_up : MethodName := ⟨"FederationWireModel", "up", "(I)I"⟩
theorem yi_Mo_up : Cond.instanceMethod y_Mo_up ∈ fw_WS := fw_in (fw_tb (i := 817) (by decide +kernel)) rfl
theorem ys_Mo_up : Cond.selects y_Mo_up.cls y_Mo_up y_Mo_up ∈ fw_WS := fw_in (fw_tb (i := 818) (by decide +kernel)) rfl
def y_Mo_down : MethodName := ⟨"FederationWireModel", "down", "(I)I"⟩
theorem yi_Mo_down : Cond.instanceMethod y_Mo_down ∈ fw_WS := fw_in (fw_tb (i := 821) (by decide +kernel)) rfl
theorem ys_Mo_down : Cond.selects y_Mo_down.cls y_Mo_down y_Mo_down ∈ fw_WS := fw_in (fw_tb (i := 822) (by decide +kernel)) rfl
def y_Mo_tick : MethodName := ⟨"FederationWireModel", "tick", "(I)I"⟩
theorem yi_Mo_tick : Cond.instanceMethod y_Mo_tick ∈ fw_WS := fw_in (fw_tb (i := 825) (by decide +kernel)) rfl
theorem ys_Mo_tick : Cond.selects y_Mo_tick.cls y_Mo_tick y_Mo_tick ∈ fw_WS := fw_in (fw_tb (i := 826) (by decide +kernel)) rfl
def y_Mo_joinedOnes : MethodName := ⟨"FederationWireModel", "joinedOnes", "(III)I"⟩
theorem yi_Mo_joinedOnes : Cond.instanceMethod y_Mo_joinedOnes ∈ fw_WS := fw_in (fw_tb (i := 834) (by decide +kernel)) rfl
theorem ys_Mo_joinedOnes : Cond.selects y_Mo_joinedOnes.cls y_Mo_joinedOnes y_Mo_joinedOnes ∈ fw_WS := fw_in (fw_ts 43 (by decide +kernel)) rfl
def y_Mo_told : MethodName := ⟨"FederationWireModel", "told", "(II)I"⟩
theorem yi_Mo_told : Cond.instanceMethod y_Mo_told ∈ fw_WS := fw_in (fw_tb (i := 829) (by decide +kernel)) rfl
theorem ys_Mo_told : Cond.selects y_Mo_told.cls y_Mo_told y_Mo_told ∈ fw_WS := fw_in (fw_tb (i := 830) (by decide +kernel)) rfl
def y_Mo_row : MethodName := ⟨"FederationWireModel", "row", "(III)I"⟩
theorem yi_Mo_row : Cond.instanceMethod y_Mo_row ∈ fw_WS := fw_in (fw_tb (i := 841) (by decide +kernel)) rfl
theorem ys_Mo_row : Cond.selects y_Mo_row.cls y_Mo_row y_Mo_row ∈ fw_WS := fw_in (fw_tb (i := 842) (by decide +kernel)) rfl
def y_Mo_joined : MethodName := ⟨"FederationWireModel", "joined", "(III)I"⟩
theorem yi_Mo_joined : Cond.instanceMethod y_Mo_joined ∈ fw_WS := fw_in (fw_tb (i := 845) (by decide +kernel)) rfl
theorem ys_Mo_joined : Cond.selects y_Mo_joined.cls y_Mo_joined y_Mo_joined ∈ fw_WS := fw_in (fw_tb (i := 846) (by decide +kernel)) rfl
def y_Mo_estimate : MethodName := ⟨"FederationWireModel", "estimate", "(I)I"⟩
theorem yi_Mo_estimate : Cond.instanceMethod y_Mo_estimate ∈ fw_WS := fw_in (fw_tb (i := 849) (by decide +kernel)) rfl
theorem ys_Mo_estimate : Cond.selects y_Mo_estimate.cls y_Mo_estimate y_Mo_estimate ∈ fw_WS := fw_in (fw_tb (i := 850) (by decide +kernel)) rfl
def y_Mo_count : MethodName := ⟨"FederationWireModel", "count", "(I)I"⟩
theorem yi_Mo_count : Cond.instanceMethod y_Mo_count ∈ fw_WS := fw_in (fw_tb (i := 853) (by decide +kernel)) rfl
theorem ys_Mo_count : Cond.selects y_Mo_count.cls y_Mo_count y_Mo_count ∈ fw_WS := fw_in (fw_tb (i := 854) (by decide +kernel)) rfl
def y_Mo_line : MethodName := ⟨"FederationWireModel", "line", "(II)I"⟩
theorem yi_Mo_line : Cond.instanceMethod y_Mo_line ∈ fw_WS := fw_in (fw_tb (i := 857) (by decide +kernel)) rfl
theorem ys_Mo_line : Cond.selects y_Mo_line.cls y_Mo_line y_Mo_line ∈ fw_WS := fw_in (fw_tb (i := 858) (by decide +kernel)) rfl
theorem ft_obj_0_3 : Cond.methodLink "FederationWire$Frame" 3 objectInit ∈ fw_WS := fw_in (fw_tb (i := 60) (by decide +kernel)) rfl
theorem ft_field_0_9 : fw_F "FederationWire$Frame" 9 0 0 .int false := ⟨_, _, _, cl_0, by decide, by decide +kernel, by decide, Or.inl (fw_in (fw_tb (i := 61) (by decide +kernel)) rfl)⟩
theorem ft_field_0_15 : fw_F "FederationWire$Frame" 15 0 1 .int false := ⟨_, _, _, cl_0, by decide, by decide +kernel, by decide, Or.inl (fw_in (fw_tb (i := 65) (by decide +kernel)) rfl)⟩
theorem ft_field_0_18 : fw_F "FederationWire$Frame" 18 0 2 .int false := ⟨_, _, _, cl_0, by decide, by decide +kernel, by decide, Or.inl (fw_in (fw_tb (i := 69) (by decide +kernel)) rfl)⟩
theorem ft_field_0_21 : fw_F "FederationWire$Frame" 21 0 3 (.array .int) true := ⟨_, _, _, cl_0, by decide, by decide +kernel, by decide, Or.inl (fw_in (fw_tb (i := 73) (by decide +kernel)) rfl)⟩
theorem ft_nonest_0_21 : ∀ host Cn nm d, Cond.fieldLinkNest "FederationWire$Frame" 21 Cn nm d host ∉ fw_NS := fw_noN "FederationWire$Frame" 21 (by decide +kernel)
theorem ft_obj_2_3 : Cond.methodLink "FederationWire$Pairs" 3 objectInit ∈ fw_WS := fw_in (fw_tb (i := 27) (by decide +kernel)) rfl
theorem ft_field_2_9 : fw_F "FederationWire$Pairs" 9 2 2 .int false := ⟨_, _, _, cl_2, by decide, by decide +kernel, by decide, Or.inl (fw_in (fw_tb (i := 33) (by decide +kernel)) rfl)⟩
theorem ft_max_2_15 : Cond.methodLink "FederationWire$Pairs" 15 Lib.Math.max.name ∈ fw_WS := fw_in (fw_tb (i := 28) (by decide +kernel)) rfl
theorem ft_field_2_21 : fw_F "FederationWire$Pairs" 21 2 0 (.array .int) true := ⟨_, _, _, cl_2, by decide, by decide +kernel, by decide, Or.inl (fw_in (fw_tb (i := 31) (by decide +kernel)) rfl)⟩
theorem ft_nonest_2_21 : ∀ host Cn nm d, Cond.fieldLinkNest "FederationWire$Pairs" 21 Cn nm d host ∉ fw_NS := fw_noN "FederationWire$Pairs" 21 (by decide +kernel)
theorem ft_field_2_25 : fw_F "FederationWire$Pairs" 25 2 1 (.array .int) true := ⟨_, _, _, cl_2, by decide, by decide +kernel, by decide, Or.inl (fw_in (fw_tb (i := 32) (by decide +kernel)) rfl)⟩
theorem ft_nonest_2_25 : ∀ host Cn nm d, Cond.fieldLinkNest "FederationWire$Pairs" 25 Cn nm d host ∉ fw_NS := fw_noN "FederationWire$Pairs" 25 (by decide +kernel)
theorem ft_obj_1_3 : Cond.methodLink "FederationWire$Memory" 3 objectInit ∈ fw_WS := fw_in (fw_tb (i := 87) (by decide +kernel)) rfl
theorem ft_field_1_9 : fw_F "FederationWire$Memory" 9 1 0 .int false := ⟨_, _, _, cl_1, by decide, by decide +kernel, by decide, Or.inl (fw_in (fw_tb (i := 90) (by decide +kernel)) rfl)⟩
theorem ft_field_1_15 : fw_F "FederationWire$Memory" 15 1 1 .int false := ⟨_, _, _, cl_1, by decide, by decide +kernel, by decide, Or.inl (fw_in (fw_tb (i := 92) (by decide +kernel)) rfl)⟩
theorem ft_field_1_18 : fw_F "FederationWire$Memory" 18 1 2 .int false := ⟨_, _, _, cl_1, by decide, by decide +kernel, by decide, Or.inl (fw_in (fw_tb (i := 94) (by decide +kernel)) rfl)⟩
theorem ft_new_1_21 : Cond.classLink "FederationWire$Memory" 21 "FederationWire$Pairs" ∈ fw_WS := fw_in (fw_tb (i := 88) (by decide +kernel)) rfl
theorem ft_callI_1_23 : fw_L "FederationWire$Memory" 23 y_Pairs_init prog_4_method_1_code 3 none 1 := ⟨fw_in (fw_tb (i := 26) (by decide +kernel)) rfl, fw_in (fw_tb (i := 2) (by decide +kernel)) rfl, by decide, by decide +kernel, Or.inl (fw_in (fw_tb (i := 89) (by decide +kernel)) rfl)⟩
theorem ft_field_1_26 : fw_F "FederationWire$Memory" 26 1 3 (.object "FederationWire$Pairs") true := ⟨_, _, _, cl_1, by decide, by decide +kernel, by decide, Or.inl (fw_in (fw_tb (i := 96) (by decide +kernel)) rfl)⟩
theorem ft_nonest_1_26 : ∀ host Cn nm d, Cond.fieldLinkNest "FederationWire$Memory" 26 Cn nm d host ∉ fw_NS := fw_noN "FederationWire$Memory" 26 (by decide +kernel)
theorem ft_field_3_9 : fw_F "FederationWire$Request" 9 3 5 .int false := ⟨_, _, _, cl_3, by decide, by decide +kernel, by decide, Or.inl (fw_in (fw_tb (i := 301) (by decide +kernel)) rfl)⟩
theorem ft_field_3_77 : fw_F "FederationWire$Request" 77 3 4 (.array .int) true := ⟨_, _, _, cl_3, by decide, by decide +kernel, by decide, Or.inl (fw_in (fw_tb (i := 300) (by decide +kernel)) rfl)⟩
theorem ft_obj_3_3 : Cond.methodLink "FederationWire$Request" 3 objectInit ∈ fw_WS := fw_in (fw_tb (i := 276) (by decide +kernel)) rfl
theorem ft_field_3_15 : fw_F "FederationWire$Request" 15 3 6 .int false := ⟨_, _, _, cl_3, by decide, by decide +kernel, by decide, Or.inl (fw_in (fw_tb (i := 303) (by decide +kernel)) rfl)⟩
theorem ft_new_3_18 : Cond.classLink "FederationWire$Request" 18 "FederationWire$Pairs" ∈ fw_WS := fw_in (fw_tb (i := 277) (by decide +kernel)) rfl
theorem ft_callI_3_20 : fw_L "FederationWire$Request" 20 y_Pairs_init prog_4_method_1_code 3 none 1 := ⟨fw_in (fw_tb (i := 26) (by decide +kernel)) rfl, fw_in (fw_tb (i := 2) (by decide +kernel)) rfl, by decide, by decide +kernel, Or.inl (fw_in (fw_tb (i := 278) (by decide +kernel)) rfl)⟩
theorem ft_field_3_23 : fw_F "FederationWire$Request" 23 3 7 (.object "FederationWire$Pairs") true := ⟨_, _, _, cl_3, by decide, by decide +kernel, by decide, Or.inl (fw_in (fw_tb (i := 304) (by decide +kernel)) rfl)⟩
theorem ft_nonest_3_23 : ∀ host Cn nm d, Cond.fieldLinkNest "FederationWire$Request" 23 Cn nm d host ∉ fw_NS := fw_noN "FederationWire$Request" 23 (by decide +kernel)
theorem ft_field_3_27 : fw_F "FederationWire$Request" 27 3 8 .int false := ⟨_, _, _, cl_3, by decide, by decide +kernel, by decide, Or.inl (fw_in (fw_tb (i := 306) (by decide +kernel)) rfl)⟩
theorem ft_new_3_30 : Cond.classLink "FederationWire$Request" 30 "FederationWire$Frame" ∈ fw_WS := fw_in (fw_tb (i := 279) (by decide +kernel)) rfl
theorem ft_callI_3_32 : fw_L "FederationWire$Request" 32 y_Frame_init prog_2_method_1_code 1 none 0 := ⟨fw_in (fw_tb (i := 59) (by decide +kernel)) rfl, fw_in (fw_tb (i := 5) (by decide +kernel)) rfl, by decide, by decide +kernel, Or.inr ⟨"FederationWire", fw_inN (fw_tb (i := 280) (by decide +kernel)) rfl⟩⟩
theorem ft_field_3_33 : fw_F "FederationWire$Request" 33 3 9 (.object "FederationWire$Frame") true := ⟨_, _, _, cl_3, by decide, by decide +kernel, by decide, Or.inl (fw_in (fw_tb (i := 307) (by decide +kernel)) rfl)⟩
theorem ft_nonest_3_33 : ∀ host Cn nm d, Cond.fieldLinkNest "FederationWire$Request" 33 Cn nm d host ∉ fw_NS := fw_noN "FederationWire$Request" 33 (by decide +kernel)
theorem ft_field_3_37 : fw_F "FederationWire$Request" 37 3 11 .int false := ⟨_, _, _, cl_3, by decide, by decide +kernel, by decide, Or.inl (fw_in (fw_tb (i := 310) (by decide +kernel)) rfl)⟩
theorem ft_field_3_40 : fw_F "FederationWire$Request" 40 3 12 .int false := ⟨_, _, _, cl_3, by decide, by decide +kernel, by decide, Or.inl (fw_in (fw_tb (i := 312) (by decide +kernel)) rfl)⟩
theorem ft_field_3_43 : fw_F "FederationWire$Request" 43 3 13 .int false := ⟨_, _, _, cl_3, by decide, by decide +kernel, by decide, Or.inl (fw_in (fw_tb (i := 314) (by decide +kernel)) rfl)⟩
theorem ft_field_3_46 : fw_F "FederationWire$Request" 46 3 14 .int false := ⟨_, _, _, cl_3, by decide, by decide +kernel, by decide, Or.inl (fw_in (fw_tb (i := 316) (by decide +kernel)) rfl)⟩
theorem ft_field_3_49 : fw_F "FederationWire$Request" 49 3 15 .int false := ⟨_, _, _, cl_3, by decide, by decide +kernel, by decide, Or.inl (fw_in (fw_tb (i := 318) (by decide +kernel)) rfl)⟩
theorem ft_field_3_52 : fw_F "FederationWire$Request" 52 3 10 .int true := ⟨_, _, _, cl_3, by decide, by decide +kernel, by decide, Or.inl (fw_in (fw_tb (i := 309) (by decide +kernel)) rfl)⟩
theorem ft_nonest_3_52 : ∀ host Cn nm d, Cond.fieldLinkNest "FederationWire$Request" 52 Cn nm d host ∉ fw_NS := fw_noN "FederationWire$Request" 52 (by decide +kernel)
theorem ft_field_3_55 : fw_F "FederationWire$Request" 55 3 0 .int true := ⟨_, _, _, cl_3, by decide, by decide +kernel, by decide, Or.inl (fw_in (fw_tb (i := 295) (by decide +kernel)) rfl)⟩
theorem ft_nonest_3_55 : ∀ host Cn nm d, Cond.fieldLinkNest "FederationWire$Request" 55 Cn nm d host ∉ fw_NS := fw_noN "FederationWire$Request" 55 (by decide +kernel)
theorem ft_field_3_58 : fw_F "FederationWire$Request" 58 3 1 .boolean true := ⟨_, _, _, cl_3, by decide, by decide +kernel, by decide, Or.inl (fw_in (fw_tb (i := 297) (by decide +kernel)) rfl)⟩
theorem ft_nonest_3_58 : ∀ host Cn nm d, Cond.fieldLinkNest "FederationWire$Request" 58 Cn nm d host ∉ fw_NS := fw_noN "FederationWire$Request" 58 (by decide +kernel)
theorem ft_field_3_62 : fw_F "FederationWire$Request" 62 3 2 .int true := ⟨_, _, _, cl_3, by decide, by decide +kernel, by decide, Or.inl (fw_in (fw_tb (i := 298) (by decide +kernel)) rfl)⟩
theorem ft_nonest_3_62 : ∀ host Cn nm d, Cond.fieldLinkNest "FederationWire$Request" 62 Cn nm d host ∉ fw_NS := fw_noN "FederationWire$Request" 62 (by decide +kernel)
theorem ft_field_3_65 : fw_F "FederationWire$Request" 65 2 2 .int false := ⟨_, _, _, cl_2, by decide, by decide +kernel, by decide, Or.inr ⟨"FederationWire", fw_inN (fw_tb (i := 34) (by decide +kernel)) rfl⟩⟩
theorem ft_field_3_68 : fw_F "FederationWire$Request" 68 3 3 (.object "FederationWire$Pairs") true := ⟨_, _, _, cl_3, by decide, by decide +kernel, by decide, Or.inl (fw_in (fw_tb (i := 299) (by decide +kernel)) rfl)⟩
theorem ft_nonest_3_68 : ∀ host Cn nm d, Cond.fieldLinkNest "FederationWire$Request" 68 Cn nm d host ∉ fw_NS := fw_noN "FederationWire$Request" 68 (by decide +kernel)
theorem ft_max_3_71 : Cond.methodLink "FederationWire$Request" 71 Lib.Math.max.name ∈ fw_WS := fw_in (fw_tb (i := 281) (by decide +kernel)) rfl
theorem ft_nonest_3_77 : ∀ host Cn nm d, Cond.fieldLinkNest "FederationWire$Request" 77 Cn nm d host ∉ fw_NS := fw_noN "FederationWire$Request" 77 (by decide +kernel)
theorem ft_callV_3_81 : fw_L "FederationWire$Request" 81 y_Pairs_keyAt prog_4_method_3_code 2 (some .int) 1 := ⟨fw_in (fw_tb (i := 285) (by decide +kernel)) rfl, fw_in (fw_tb (i := 2) (by decide +kernel)) rfl, by decide, by decide +kernel, Or.inl (fw_in (fw_tb (i := 282) (by decide +kernel)) rfl)⟩
theorem ft_callV_3_85 : fw_L "FederationWire$Request" 85 y_Pairs_valueAt prog_4_method_4_code 2 (some .int) 1 := ⟨fw_in (fw_tb (i := 289) (by decide +kernel)) rfl, fw_in (fw_tb (i := 2) (by decide +kernel)) rfl, by decide, by decide +kernel, Or.inl (fw_in (fw_tb (i := 286) (by decide +kernel)) rfl)⟩
theorem ft_callV_3_88 : fw_L "FederationWire$Request" 88 y_Pairs_add prog_4_method_2_code 3 (some .boolean) 2 := ⟨fw_in (fw_tb (i := 267) (by decide +kernel)) rfl, fw_in (fw_tb (i := 2) (by decide +kernel)) rfl, by decide, by decide +kernel, Or.inl (fw_in (fw_tb (i := 290) (by decide +kernel)) rfl)⟩
theorem ft_callV_3_92 : fw_L "FederationWire$Request" 92 y_Request_addKey prog_5_method_2_code 3 none 1 := ⟨fw_in (fw_tb (i := 294) (by decide +kernel)) rfl, fw_in (fw_tb (i := 9) (by decide +kernel)) rfl, by decide, by decide +kernel, Or.inl (fw_in (fw_tb (i := 291) (by decide +kernel)) rfl)⟩
theorem ft_callV_3_104 : fw_L "FederationWire$Request" 104 y_Frame_begin prog_2_method_2_code 3 none 2 := ⟨fw_in (fw_tb (i := 372) (by decide +kernel)) rfl, fw_in (fw_tb (i := 5) (by decide +kernel)) rfl, by decide, by decide +kernel, Or.inl (fw_in (fw_tb (i := 369) (by decide +kernel)) rfl)⟩
theorem ft_callV_3_101 : fw_L "FederationWire$Request" 101 y_Frame_put prog_2_method_3_code 2 none 1 := ⟨fw_in (fw_tb (i := 376) (by decide +kernel)) rfl, fw_in (fw_tb (i := 5) (by decide +kernel)) rfl, by decide, by decide +kernel, Or.inl (fw_in (fw_tb (i := 373) (by decide +kernel)) rfl)⟩
theorem ft_callV_3_95 : fw_L "FederationWire$Request" 95 y_Request_nextStep prog_5_method_6_code 2 none 1 := ⟨fw_in (fw_tb (i := 368) (by decide +kernel)) rfl, fw_in (fw_tb (i := 9) (by decide +kernel)) rfl, by decide, by decide +kernel, Or.inl (fw_in (fw_tb (i := 365) (by decide +kernel)) rfl)⟩
theorem ft_min_3_98 : Cond.methodLink "FederationWire$Request" 98 Lib.Math.min.name ∈ fw_WS := fw_in (fw_tb (i := 377) (by decide +kernel)) rfl
theorem ft_callV_3_108 : fw_L "FederationWire$Request" 108 y_Frame_byteAt prog_2_method_4_code 2 (some .int) 1 := ⟨fw_in (fw_tb (i := 236) (by decide +kernel)) rfl, fw_in (fw_tb (i := 5) (by decide +kernel)) rfl, by decide, by decide +kernel, Or.inl (fw_in (fw_tb (i := 454) (by decide +kernel)) rfl)⟩
theorem ft_field_3_111 : fw_F "FederationWire$Request" 111 0 0 .int false := ⟨_, _, _, cl_0, by decide, by decide +kernel, by decide, Or.inr ⟨"FederationWire", fw_inN (fw_tb (i := 63) (by decide +kernel)) rfl⟩⟩
theorem ft_field_3_114 : fw_F "FederationWire$Request" 114 0 2 .int false := ⟨_, _, _, cl_0, by decide, by decide +kernel, by decide, Or.inr ⟨"FederationWire", fw_inN (fw_tb (i := 72) (by decide +kernel)) rfl⟩⟩
theorem ft_callV_3_117 : fw_L "FederationWire$Request" 117 y_Pairs_clear prog_4_method_5_code 1 none 0 := ⟨fw_in (fw_tb (i := 356) (by decide +kernel)) rfl, fw_in (fw_tb (i := 2) (by decide +kernel)) rfl, by decide, by decide +kernel, Or.inl (fw_in (fw_tb (i := 459) (by decide +kernel)) rfl)⟩
theorem ft_callV_3_120 : fw_L "FederationWire$Request" 120 y_Request_silentPart prog_5_method_12_code 3 (some .int) 2 := ⟨fw_in (fw_tb (i := 529) (by decide +kernel)) rfl, fw_in (fw_tb (i := 9) (by decide +kernel)) rfl, by decide, by decide +kernel, Or.inl (fw_in (fw_tb (i := 526) (by decide +kernel)) rfl)⟩
theorem ft_obj_4_3 : Cond.methodLink "FederationWire$ServingEnd" 3 objectInit ∈ fw_WS := fw_in (fw_tb (i := 50) (by decide +kernel)) rfl
theorem ft_new_4_9 : Cond.classLink "FederationWire$ServingEnd" 9 "FederationWire$Pairs" ∈ fw_WS := fw_in (fw_tb (i := 51) (by decide +kernel)) rfl
theorem ft_callI_4_11 : fw_L "FederationWire$ServingEnd" 11 y_Pairs_init prog_4_method_1_code 3 none 1 := ⟨fw_in (fw_tb (i := 26) (by decide +kernel)) rfl, fw_in (fw_tb (i := 2) (by decide +kernel)) rfl, by decide, by decide +kernel, Or.inl (fw_in (fw_tb (i := 52) (by decide +kernel)) rfl)⟩
theorem ft_field_4_14 : fw_F "FederationWire$ServingEnd" 14 4 0 (.object "FederationWire$Pairs") true := ⟨_, _, _, cl_4, by decide, by decide +kernel, by decide, Or.inl (fw_in (fw_tb (i := 107) (by decide +kernel)) rfl)⟩
theorem ft_nonest_4_14 : ∀ host Cn nm d, Cond.fieldLinkNest "FederationWire$ServingEnd" 14 Cn nm d host ∉ fw_NS := fw_noN "FederationWire$ServingEnd" 14 (by decide +kernel)
theorem ft_anew_4_20 : Cond.classLink "FederationWire$ServingEnd" 20 "FederationWire$Memory" ∈ fw_WS := fw_in (fw_tb (i := 53) (by decide +kernel)) rfl
theorem ft_field_4_22 : fw_F "FederationWire$ServingEnd" 22 4 1 (.array (.object "FederationWire$Memory")) true := ⟨_, _, _, cl_4, by decide, by decide +kernel, by decide, Or.inl (fw_in (fw_tb (i := 109) (by decide +kernel)) rfl)⟩
theorem ft_nonest_4_22 : ∀ host Cn nm d, Cond.fieldLinkNest "FederationWire$ServingEnd" 22 Cn nm d host ∉ fw_NS := fw_noN "FederationWire$ServingEnd" 22 (by decide +kernel)
theorem ft_field_4_26 : fw_F "FederationWire$ServingEnd" 26 4 2 .int false := ⟨_, _, _, cl_4, by decide, by decide +kernel, by decide, Or.inl (fw_in (fw_tb (i := 110) (by decide +kernel)) rfl)⟩
theorem ft_field_4_30 : fw_F "FederationWire$ServingEnd" 30 4 3 .int false := ⟨_, _, _, cl_4, by decide, by decide +kernel, by decide, Or.inl (fw_in (fw_tb (i := 112) (by decide +kernel)) rfl)⟩
theorem ft_new_4_33 : Cond.classLink "FederationWire$ServingEnd" 33 "FederationWire$Frame" ∈ fw_WS := fw_in (fw_tb (i := 55) (by decide +kernel)) rfl
theorem ft_callI_4_35 : fw_L "FederationWire$ServingEnd" 35 y_Frame_init prog_2_method_1_code 1 none 0 := ⟨fw_in (fw_tb (i := 59) (by decide +kernel)) rfl, fw_in (fw_tb (i := 5) (by decide +kernel)) rfl, by decide, by decide +kernel, Or.inr ⟨"FederationWire", fw_inN (fw_tb (i := 57) (by decide +kernel)) rfl⟩⟩
theorem ft_field_4_36 : fw_F "FederationWire$ServingEnd" 36 4 4 (.object "FederationWire$Frame") true := ⟨_, _, _, cl_4, by decide, by decide +kernel, by decide, Or.inl (fw_in (fw_tb (i := 114) (by decide +kernel)) rfl)⟩
theorem ft_nonest_4_36 : ∀ host Cn nm d, Cond.fieldLinkNest "FederationWire$ServingEnd" 36 Cn nm d host ∉ fw_NS := fw_noN "FederationWire$ServingEnd" 36 (by decide +kernel)
theorem ft_new_4_20 : Cond.classLink "FederationWire$ServingEnd" 20 "FederationWire$Memory" ∈ fw_WS := fw_in (fw_tb (i := 53) (by decide +kernel)) rfl
theorem ft_callI_4_40 : fw_L "FederationWire$ServingEnd" 40 y_Memory_init prog_3_method_1_code 1 none 0 := ⟨fw_in (fw_tb (i := 86) (by decide +kernel)) rfl, fw_in (fw_tb (i := 6) (by decide +kernel)) rfl, by decide, by decide +kernel, Or.inr ⟨"FederationWire", fw_inN (fw_tb (i := 84) (by decide +kernel)) rfl⟩⟩
theorem ft_callV_4_48 : fw_L "FederationWire$ServingEnd" 48 y_ServingEnd_memoryAt prog_6_method_4_code 2 (some (.object "FederationWire$Memory")) 1 := ⟨fw_in (fw_tb (i := 421) (by decide +kernel)) rfl, fw_in (fw_tb (i := 4) (by decide +kernel)) rfl, by decide, by decide +kernel, Or.inl (fw_in (fw_tb (i := 418) (by decide +kernel)) rfl)⟩
theorem ft_field_4_85 : fw_F "FederationWire$ServingEnd" 85 1 0 .int false := ⟨_, _, _, cl_1, by decide, by decide +kernel, by decide, Or.inr ⟨"FederationWire", fw_inN (fw_tb (i := 91) (by decide +kernel)) rfl⟩⟩
theorem ft_callV_4_44 : fw_L "FederationWire$ServingEnd" 44 y_ServingEnd_placeOf prog_6_method_5_code 4 (some .int) 1 := ⟨fw_in (fw_tb (i := 417) (by decide +kernel)) rfl, fw_in (fw_tb (i := 4) (by decide +kernel)) rfl, by decide, by decide +kernel, Or.inl (fw_in (fw_tb (i := 414) (by decide +kernel)) rfl)⟩
theorem ft_field_4_41 : fw_F "FederationWire$ServingEnd" 41 0 1 .int false := ⟨_, _, _, cl_0, by decide, by decide +kernel, by decide, Or.inr ⟨"FederationWire", fw_inN (fw_tb (i := 66) (by decide +kernel)) rfl⟩⟩
theorem ft_callV_4_55 : fw_L "FederationWire$ServingEnd" 55 y_Frame_byteAt prog_2_method_4_code 2 (some .int) 1 := ⟨fw_in (fw_tb (i := 236) (by decide +kernel)) rfl, fw_in (fw_tb (i := 5) (by decide +kernel)) rfl, by decide, by decide +kernel, Or.inl (fw_in (fw_tb (i := 422) (by decide +kernel)) rfl)⟩
theorem ft_field_4_52 : fw_F "FederationWire$ServingEnd" 52 1 1 .int false := ⟨_, _, _, cl_1, by decide, by decide +kernel, by decide, Or.inr ⟨"FederationWire", fw_inN (fw_tb (i := 93) (by decide +kernel)) rfl⟩⟩
theorem ft_field_4_75 : fw_F "FederationWire$ServingEnd" 75 1 2 .int false := ⟨_, _, _, cl_1, by decide, by decide +kernel, by decide, Or.inr ⟨"FederationWire", fw_inN (fw_tb (i := 95) (by decide +kernel)) rfl⟩⟩
theorem ft_field_4_69 : fw_F "FederationWire$ServingEnd" 69 1 3 (.object "FederationWire$Pairs") true := ⟨_, _, _, cl_1, by decide, by decide +kernel, by decide, Or.inr ⟨"FederationWire", fw_inN (fw_tb (i := 97) (by decide +kernel)) rfl⟩⟩
theorem ft_callV_4_86 : fw_L "FederationWire$ServingEnd" 86 y_Pairs_clear prog_4_method_5_code 1 none 0 := ⟨fw_in (fw_tb (i := 356) (by decide +kernel)) rfl, fw_in (fw_tb (i := 2) (by decide +kernel)) rfl, by decide, by decide +kernel, Or.inl (fw_in (fw_tb (i := 431) (by decide +kernel)) rfl)⟩
theorem ft_field_4_89 : fw_F "FederationWire$ServingEnd" 89 0 2 .int false := ⟨_, _, _, cl_0, by decide, by decide +kernel, by decide, Or.inr ⟨"FederationWire", fw_inN (fw_tb (i := 71) (by decide +kernel)) rfl⟩⟩
theorem ft_field_4_72 : fw_F "FederationWire$ServingEnd" 72 2 2 .int false := ⟨_, _, _, cl_2, by decide, by decide +kernel, by decide, Or.inr ⟨"FederationWire", fw_inN (fw_tb (i := 35) (by decide +kernel)) rfl⟩⟩
theorem ft_callV_4_92 : fw_L "FederationWire$ServingEnd" 92 y_Pairs_keyAt prog_4_method_3_code 2 (some .int) 1 := ⟨fw_in (fw_tb (i := 285) (by decide +kernel)) rfl, fw_in (fw_tb (i := 2) (by decide +kernel)) rfl, by decide, by decide +kernel, Or.inl (fw_in (fw_tb (i := 432) (by decide +kernel)) rfl)⟩
theorem ft_callV_4_95 : fw_L "FederationWire$ServingEnd" 95 y_Pairs_valueAt prog_4_method_4_code 2 (some .int) 1 := ⟨fw_in (fw_tb (i := 289) (by decide +kernel)) rfl, fw_in (fw_tb (i := 2) (by decide +kernel)) rfl, by decide, by decide +kernel, Or.inl (fw_in (fw_tb (i := 433) (by decide +kernel)) rfl)⟩
theorem ft_callV_4_98 : fw_L "FederationWire$ServingEnd" 98 y_Pairs_add prog_4_method_2_code 3 (some .boolean) 2 := ⟨fw_in (fw_tb (i := 267) (by decide +kernel)) rfl, fw_in (fw_tb (i := 2) (by decide +kernel)) rfl, by decide, by decide +kernel, Or.inl (fw_in (fw_tb (i := 434) (by decide +kernel)) rfl)⟩
theorem ft_min_4_102 : Cond.methodLink "FederationWire$ServingEnd" 102 Lib.Math.min.name ∈ fw_WS := fw_in (fw_tb (i := 439) (by decide +kernel)) rfl
theorem ft_callV_4_78 : fw_L "FederationWire$ServingEnd" 78 y_Frame_begin prog_2_method_2_code 3 none 2 := ⟨fw_in (fw_tb (i := 372) (by decide +kernel)) rfl, fw_in (fw_tb (i := 5) (by decide +kernel)) rfl, by decide, by decide +kernel, Or.inl (fw_in (fw_tb (i := 440) (by decide +kernel)) rfl)⟩
theorem ft_callV_4_82 : fw_L "FederationWire$ServingEnd" 82 y_Frame_put prog_2_method_3_code 2 none 1 := ⟨fw_in (fw_tb (i := 376) (by decide +kernel)) rfl, fw_in (fw_tb (i := 5) (by decide +kernel)) rfl, by decide, by decide +kernel, Or.inl (fw_in (fw_tb (i := 441) (by decide +kernel)) rfl)⟩
theorem ft_callV_4_58 : fw_L "FederationWire$ServingEnd" 58 y_ServingEnd_memoryFor prog_6_method_6_code 5 (some (.object "FederationWire$Memory")) 1 := ⟨fw_in (fw_tb (i := 426) (by decide +kernel)) rfl, fw_in (fw_tb (i := 4) (by decide +kernel)) rfl, by decide, by decide +kernel, Or.inl (fw_in (fw_tb (i := 423) (by decide +kernel)) rfl)⟩
theorem ft_callV_4_61 : fw_L "FederationWire$ServingEnd" 61 y_ServingEnd_remember prog_6_method_7_code 5 none 2 := ⟨fw_in (fw_tb (i := 430) (by decide +kernel)) rfl, fw_in (fw_tb (i := 4) (by decide +kernel)) rfl, by decide, by decide +kernel, Or.inl (fw_in (fw_tb (i := 427) (by decide +kernel)) rfl)⟩
theorem ft_callV_4_65 : fw_L "FederationWire$ServingEnd" 65 y_ServingEnd_writeRows prog_6_method_8_code 6 none 3 := ⟨fw_in (fw_tb (i := 438) (by decide +kernel)) rfl, fw_in (fw_tb (i := 4) (by decide +kernel)) rfl, by decide, by decide +kernel, Or.inl (fw_in (fw_tb (i := 435) (by decide +kernel)) rfl)⟩
theorem ft_obj_5_3 : Cond.methodLink "FederationWire$Wire" 3 objectInit ∈ fw_WS := fw_in (fw_tb (i := 131) (by decide +kernel)) rfl
theorem ft_field_5_9 : fw_F "FederationWire$Wire" 9 5 1 (.array .int) true := ⟨_, _, _, cl_5, by decide, by decide +kernel, by decide, Or.inl (fw_in (fw_tb (i := 136) (by decide +kernel)) rfl)⟩
theorem ft_nonest_5_9 : ∀ host Cn nm d, Cond.fieldLinkNest "FederationWire$Wire" 9 Cn nm d host ∉ fw_NS := fw_noN "FederationWire$Wire" 9 (by decide +kernel)
theorem ft_field_5_15 : fw_F "FederationWire$Wire" 15 5 2 .int false := ⟨_, _, _, cl_5, by decide, by decide +kernel, by decide, Or.inl (fw_in (fw_tb (i := 137) (by decide +kernel)) rfl)⟩
theorem ft_field_5_19 : fw_F "FederationWire$Wire" 19 5 3 .int false := ⟨_, _, _, cl_5, by decide, by decide +kernel, by decide, Or.inl (fw_in (fw_tb (i := 138) (by decide +kernel)) rfl)⟩
theorem ft_new_5_22 : Cond.classLink "FederationWire$Wire" 22 "FederationWire$Frame" ∈ fw_WS := fw_in (fw_tb (i := 132) (by decide +kernel)) rfl
theorem ft_callI_5_24 : fw_L "FederationWire$Wire" 24 y_Frame_init prog_2_method_1_code 1 none 0 := ⟨fw_in (fw_tb (i := 59) (by decide +kernel)) rfl, fw_in (fw_tb (i := 5) (by decide +kernel)) rfl, by decide, by decide +kernel, Or.inr ⟨"FederationWire", fw_inN (fw_tb (i := 133) (by decide +kernel)) rfl⟩⟩
theorem ft_field_5_25 : fw_F "FederationWire$Wire" 25 5 4 (.object "FederationWire$Frame") true := ⟨_, _, _, cl_5, by decide, by decide +kernel, by decide, Or.inl (fw_in (fw_tb (i := 140) (by decide +kernel)) rfl)⟩
theorem ft_nonest_5_25 : ∀ host Cn nm d, Cond.fieldLinkNest "FederationWire$Wire" 25 Cn nm d host ∉ fw_NS := fw_noN "FederationWire$Wire" 25 (by decide +kernel)
theorem ft_field_5_29 : fw_F "FederationWire$Wire" 29 5 5 .int false := ⟨_, _, _, cl_5, by decide, by decide +kernel, by decide, Or.inl (fw_in (fw_tb (i := 142) (by decide +kernel)) rfl)⟩
theorem ft_field_5_32 : fw_F "FederationWire$Wire" 32 5 6 .int false := ⟨_, _, _, cl_5, by decide, by decide +kernel, by decide, Or.inl (fw_in (fw_tb (i := 144) (by decide +kernel)) rfl)⟩
theorem ft_field_5_35 : fw_F "FederationWire$Wire" 35 5 0 .boolean false := ⟨_, _, _, cl_5, by decide, by decide +kernel, by decide, Or.inl (fw_in (fw_tb (i := 134) (by decide +kernel)) rfl)⟩
theorem ft_callV_5_39 : fw_L "FederationWire$Wire" 39 y_Wire_clearOut prog_7_method_3_code 1 none 0 := ⟨fw_in (fw_tb (i := 252) (by decide +kernel)) rfl, fw_in (fw_tb (i := 7) (by decide +kernel)) rfl, by decide, by decide +kernel, Or.inl (fw_in (fw_tb (i := 249) (by decide +kernel)) rfl)⟩
theorem ft_field_5_42 : fw_F "FederationWire$Wire" 42 0 2 .int false := ⟨_, _, _, cl_0, by decide, by decide +kernel, by decide, Or.inr ⟨"FederationWire", fw_inN (fw_tb (i := 70) (by decide +kernel)) rfl⟩⟩
theorem ft_callV_5_45 : fw_L "FederationWire$Wire" 45 y_Wire_push prog_7_method_5_code 3 none 1 := ⟨fw_in (fw_tb (i := 232) (by decide +kernel)) rfl, fw_in (fw_tb (i := 7) (by decide +kernel)) rfl, by decide, by decide +kernel, Or.inl (fw_in (fw_tb (i := 229) (by decide +kernel)) rfl)⟩
theorem ft_field_5_49 : fw_F "FederationWire$Wire" 49 0 0 .int false := ⟨_, _, _, cl_0, by decide, by decide +kernel, by decide, Or.inr ⟨"FederationWire", fw_inN (fw_tb (i := 62) (by decide +kernel)) rfl⟩⟩
theorem ft_field_5_52 : fw_F "FederationWire$Wire" 52 0 1 .int false := ⟨_, _, _, cl_0, by decide, by decide +kernel, by decide, Or.inr ⟨"FederationWire", fw_inN (fw_tb (i := 67) (by decide +kernel)) rfl⟩⟩
theorem ft_callV_5_59 : fw_L "FederationWire$Wire" 59 y_Frame_sum prog_2_method_5_code 3 (some .int) 0 := ⟨fw_in (fw_tb (i := 240) (by decide +kernel)) rfl, fw_in (fw_tb (i := 5) (by decide +kernel)) rfl, by decide, by decide +kernel, Or.inl (fw_in (fw_tb (i := 237) (by decide +kernel)) rfl)⟩
theorem ft_callV_5_55 : fw_L "FederationWire$Wire" 55 y_Frame_byteAt prog_2_method_4_code 2 (some .int) 1 := ⟨fw_in (fw_tb (i := 236) (by decide +kernel)) rfl, fw_in (fw_tb (i := 5) (by decide +kernel)) rfl, by decide, by decide +kernel, Or.inl (fw_in (fw_tb (i := 233) (by decide +kernel)) rfl)⟩
theorem ft_callV_5_70 : fw_L "FederationWire$Wire" 70 y_Wire_lengthSuits prog_7_method_9_code 2 (some .boolean) 1 := ⟨fw_in (fw_tb (i := 399) (by decide +kernel)) rfl, fw_in (fw_tb (i := 7) (by decide +kernel)) rfl, by decide, by decide +kernel, Or.inl (fw_in (fw_tb (i := 396) (by decide +kernel)) rfl)⟩
theorem ft_callV_5_73 : fw_L "FederationWire$Wire" 73 y_Frame_begin prog_2_method_2_code 3 none 2 := ⟨fw_in (fw_tb (i := 372) (by decide +kernel)) rfl, fw_in (fw_tb (i := 5) (by decide +kernel)) rfl, by decide, by decide +kernel, Or.inl (fw_in (fw_tb (i := 404) (by decide +kernel)) rfl)⟩
theorem ft_callV_5_77 : fw_L "FederationWire$Wire" 77 y_Frame_put prog_2_method_3_code 2 none 1 := ⟨fw_in (fw_tb (i := 376) (by decide +kernel)) rfl, fw_in (fw_tb (i := 5) (by decide +kernel)) rfl, by decide, by decide +kernel, Or.inl (fw_in (fw_tb (i := 405) (by decide +kernel)) rfl)⟩
theorem ft_callV_5_63 : fw_L "FederationWire$Wire" 63 y_Wire_suits prog_7_method_8_code 2 (some .boolean) 1 := ⟨fw_in (fw_tb (i := 395) (by decide +kernel)) rfl, fw_in (fw_tb (i := 7) (by decide +kernel)) rfl, by decide, by decide +kernel, Or.inl (fw_in (fw_tb (i := 392) (by decide +kernel)) rfl)⟩
theorem ft_callV_5_67 : fw_L "FederationWire$Wire" 67 y_Wire_keep prog_7_method_10_code 2 none 1 := ⟨fw_in (fw_tb (i := 403) (by decide +kernel)) rfl, fw_in (fw_tb (i := 7) (by decide +kernel)) rfl, by decide, by decide +kernel, Or.inl (fw_in (fw_tb (i := 400) (by decide +kernel)) rfl)⟩
theorem ft_obj_6_1 : Cond.methodLink "FederationWire" 1 objectInit ∈ fw_WS := fw_in (fw_tb (i := 15) (by decide +kernel)) rfl
theorem ft_anew_6_9 : Cond.classLink "FederationWire" 9 "FederationWire$Wire" ∈ fw_WS := fw_in (fw_tb (i := 18) (by decide +kernel)) rfl
theorem ft_field_6_11 : fw_F "FederationWire" 11 6 0 (.array (.object "FederationWire$Wire")) true := ⟨_, _, _, cl_6, by decide, by decide +kernel, by decide, Or.inl (fw_in (fw_tb (i := 161) (by decide +kernel)) rfl)⟩
theorem ft_nonest_6_11 : ∀ host Cn nm d, Cond.fieldLinkNest "FederationWire" 11 Cn nm d host ∉ fw_NS := fw_noN "FederationWire" 11 (by decide +kernel)
theorem ft_anew_6_15 : Cond.classLink "FederationWire" 15 "FederationWire$Request" ∈ fw_WS := fw_in (fw_tb (i := 20) (by decide +kernel)) rfl
theorem ft_field_6_17 : fw_F "FederationWire" 17 6 1 (.array (.object "FederationWire$Request")) true := ⟨_, _, _, cl_6, by decide, by decide +kernel, by decide, Or.inl (fw_in (fw_tb (i := 162) (by decide +kernel)) rfl)⟩
theorem ft_nonest_6_17 : ∀ host Cn nm d, Cond.fieldLinkNest "FederationWire" 17 Cn nm d host ∉ fw_NS := fw_noN "FederationWire" 17 (by decide +kernel)
theorem ft_field_6_21 : fw_F "FederationWire" 21 6 2 .int false := ⟨_, _, _, cl_6, by decide, by decide +kernel, by decide, Or.inl (fw_in (fw_tb (i := 163) (by decide +kernel)) rfl)⟩
theorem ft_new_6_25 : Cond.classLink "FederationWire" 25 "FederationWire$Pairs" ∈ fw_WS := fw_in (fw_tb (i := 22) (by decide +kernel)) rfl
theorem ft_callI_6_27 : fw_L "FederationWire" 27 y_Pairs_init prog_4_method_1_code 3 none 1 := ⟨fw_in (fw_tb (i := 26) (by decide +kernel)) rfl, fw_in (fw_tb (i := 2) (by decide +kernel)) rfl, by decide, by decide +kernel, Or.inl (fw_in (fw_tb (i := 24) (by decide +kernel)) rfl)⟩
theorem ft_field_6_30 : fw_F "FederationWire" 30 6 3 (.object "FederationWire$Pairs") true := ⟨_, _, _, cl_6, by decide, by decide +kernel, by decide, Or.inl (fw_in (fw_tb (i := 164) (by decide +kernel)) rfl)⟩
theorem ft_nonest_6_30 : ∀ host Cn nm d, Cond.fieldLinkNest "FederationWire" 30 Cn nm d host ∉ fw_NS := fw_noN "FederationWire" 30 (by decide +kernel)
theorem ft_new_6_34 : Cond.classLink "FederationWire" 34 "FederationWire$ServingEnd" ∈ fw_WS := fw_in (fw_tb (i := 45) (by decide +kernel)) rfl
theorem ft_callI_6_36 : fw_L "FederationWire" 36 y_ServingEnd_init prog_6_method_1_code 2 none 0 := ⟨fw_in (fw_tb (i := 49) (by decide +kernel)) rfl, fw_in (fw_tb (i := 4) (by decide +kernel)) rfl, by decide, by decide +kernel, Or.inl (fw_in (fw_tb (i := 47) (by decide +kernel)) rfl)⟩
theorem ft_field_6_37 : fw_F "FederationWire" 37 6 4 (.object "FederationWire$ServingEnd") true := ⟨_, _, _, cl_6, by decide, by decide +kernel, by decide, Or.inl (fw_in (fw_tb (i := 165) (by decide +kernel)) rfl)⟩
theorem ft_nonest_6_37 : ∀ host Cn nm d, Cond.fieldLinkNest "FederationWire" 37 Cn nm d host ∉ fw_NS := fw_noN "FederationWire" 37 (by decide +kernel)
theorem ft_field_6_41 : fw_F "FederationWire" 41 6 5 (.array .int) true := ⟨_, _, _, cl_6, by decide, by decide +kernel, by decide, Or.inl (fw_in (fw_tb (i := 166) (by decide +kernel)) rfl)⟩
theorem ft_nonest_6_41 : ∀ host Cn nm d, Cond.fieldLinkNest "FederationWire" 41 Cn nm d host ∉ fw_NS := fw_noN "FederationWire" 41 (by decide +kernel)
theorem ft_field_6_45 : fw_F "FederationWire" 45 6 6 (.array .boolean) true := ⟨_, _, _, cl_6, by decide, by decide +kernel, by decide, Or.inl (fw_in (fw_tb (i := 167) (by decide +kernel)) rfl)⟩
theorem ft_nonest_6_45 : ∀ host Cn nm d, Cond.fieldLinkNest "FederationWire" 45 Cn nm d host ∉ fw_NS := fw_noN "FederationWire" 45 (by decide +kernel)
theorem ft_field_6_49 : fw_F "FederationWire" 49 6 7 .int false := ⟨_, _, _, cl_6, by decide, by decide +kernel, by decide, Or.inl (fw_in (fw_tb (i := 168) (by decide +kernel)) rfl)⟩
theorem ft_field_6_52 : fw_F "FederationWire" 52 6 8 .int false := ⟨_, _, _, cl_6, by decide, by decide +kernel, by decide, Or.inl (fw_in (fw_tb (i := 169) (by decide +kernel)) rfl)⟩
theorem ft_field_6_55 : fw_F "FederationWire" 55 6 9 .int false := ⟨_, _, _, cl_6, by decide, by decide +kernel, by decide, Or.inl (fw_in (fw_tb (i := 170) (by decide +kernel)) rfl)⟩
theorem ft_field_6_58 : fw_F "FederationWire" 58 6 10 .int false := ⟨_, _, _, cl_6, by decide, by decide +kernel, by decide, Or.inl (fw_in (fw_tb (i := 171) (by decide +kernel)) rfl)⟩
theorem ft_field_6_61 : fw_F "FederationWire" 61 6 11 .int false := ⟨_, _, _, cl_6, by decide, by decide +kernel, by decide, Or.inl (fw_in (fw_tb (i := 172) (by decide +kernel)) rfl)⟩
theorem ft_field_6_64 : fw_F "FederationWire" 64 6 12 .int false := ⟨_, _, _, cl_6, by decide, by decide +kernel, by decide, Or.inl (fw_in (fw_tb (i := 173) (by decide +kernel)) rfl)⟩
theorem ft_new_6_9 : Cond.classLink "FederationWire" 9 "FederationWire$Wire" ∈ fw_WS := fw_in (fw_tb (i := 18) (by decide +kernel)) rfl
theorem ft_callI_6_67 : fw_L "FederationWire" 67 y_Wire_init prog_7_method_1_code 2 none 1 := ⟨fw_in (fw_tb (i := 130) (by decide +kernel)) rfl, fw_in (fw_tb (i := 7) (by decide +kernel)) rfl, by decide, by decide +kernel, Or.inl (fw_in (fw_tb (i := 128) (by decide +kernel)) rfl)⟩
theorem ft_callV_6_119 : fw_L "FederationWire" 119 y_FW_wireAt prog_1_method_19_code 2 (some (.object "FederationWire$Wire")) 1 := ⟨fw_in (fw_tb (i := 212) (by decide +kernel)) rfl, fw_in (fw_tb (i := 1) (by decide +kernel)) rfl, by decide, by decide +kernel, Or.inl (fw_in (fw_tb (i := 209) (by decide +kernel)) rfl)⟩
theorem ft_callV_6_187 : fw_L "FederationWire" 187 y_Wire_send prog_7_method_4_code 3 (some .boolean) 1 := ⟨fw_in (fw_tb (i := 228) (by decide +kernel)) rfl, fw_in (fw_tb (i := 7) (by decide +kernel)) rfl, by decide, by decide +kernel, Or.inl (fw_in (fw_tb (i := 225) (by decide +kernel)) rfl)⟩
theorem ft_field_6_191 : fw_F "FederationWire" 191 3 12 .int false := ⟨_, _, _, cl_3, by decide, by decide +kernel, by decide, Or.inr ⟨"FederationWire", fw_inN (fw_tb (i := 313) (by decide +kernel)) rfl⟩⟩
theorem ft_field_6_160 : fw_F "FederationWire" 160 3 13 .int false := ⟨_, _, _, cl_3, by decide, by decide +kernel, by decide, Or.inr ⟨"FederationWire", fw_inN (fw_tb (i := 315) (by decide +kernel)) rfl⟩⟩
theorem ft_field_6_194 : fw_F "FederationWire" 194 3 9 (.object "FederationWire$Frame") true := ⟨_, _, _, cl_3, by decide, by decide +kernel, by decide, Or.inr ⟨"FederationWire", fw_inN (fw_tb (i := 308) (by decide +kernel)) rfl⟩⟩
theorem ft_callV_6_198 : fw_L "FederationWire" 198 y_FW_send prog_1_method_22_code 4 (some .boolean) 2 := ⟨fw_in (fw_tb (i := 224) (by decide +kernel)) rfl, fw_in (fw_tb (i := 1) (by decide +kernel)) rfl, by decide, by decide +kernel, Or.inl (fw_in (fw_tb (i := 221) (by decide +kernel)) rfl)⟩
theorem ft_callV_6_70 : fw_L "FederationWire" 70 y_FW_houseWire prog_1_method_20_code 2 (some (.object "FederationWire$Wire")) 1 := ⟨fw_in (fw_tb (i := 208) (by decide +kernel)) rfl, fw_in (fw_tb (i := 1) (by decide +kernel)) rfl, by decide, by decide +kernel, Or.inl (fw_in (fw_tb (i := 205) (by decide +kernel)) rfl)⟩
theorem ft_field_6_74 : fw_F "FederationWire" 74 5 0 .boolean false := ⟨_, _, _, cl_5, by decide, by decide +kernel, by decide, Or.inr ⟨"FederationWire", fw_inN (fw_tb (i := 135) (by decide +kernel)) rfl⟩⟩
theorem ft_callV_6_78 : fw_L "FederationWire" 78 y_FW_requestAt prog_1_method_21_code 2 (some (.object "FederationWire$Request")) 1 := ⟨fw_in (fw_tb (i := 216) (by decide +kernel)) rfl, fw_in (fw_tb (i := 1) (by decide +kernel)) rfl, by decide, by decide +kernel, Or.inl (fw_in (fw_tb (i := 213) (by decide +kernel)) rfl)⟩
theorem ft_field_6_82 : fw_F "FederationWire" 82 3 0 .int true := ⟨_, _, _, cl_3, by decide, by decide +kernel, by decide, Or.inr ⟨"FederationWire", fw_inN (fw_tb (i := 296) (by decide +kernel)) rfl⟩⟩
theorem ft_field_6_85 : fw_F "FederationWire" 85 3 14 .int false := ⟨_, _, _, cl_3, by decide, by decide +kernel, by decide, Or.inr ⟨"FederationWire", fw_inN (fw_tb (i := 317) (by decide +kernel)) rfl⟩⟩
theorem ft_callV_6_88 : fw_L "FederationWire" 88 y_FW_sendFirst prog_1_method_23_code 3 (some .boolean) 2 := ⟨fw_in (fw_tb (i := 220) (by decide +kernel)) rfl, fw_in (fw_tb (i := 1) (by decide +kernel)) rfl, by decide, by decide +kernel, Or.inl (fw_in (fw_tb (i := 217) (by decide +kernel)) rfl)⟩
theorem ft_callV_6_92 : fw_L "FederationWire" 92 y_Wire_end prog_7_method_2_code 1 none 0 := ⟨fw_in (fw_tb (i := 248) (by decide +kernel)) rfl, fw_in (fw_tb (i := 7) (by decide +kernel)) rfl, by decide, by decide +kernel, Or.inl (fw_in (fw_tb (i := 245) (by decide +kernel)) rfl)⟩
theorem ft_callS_6_95 : fw_L "FederationWire" 95 y_FW_isByte prog_1_method_18_code 1 (some .boolean) 1 := ⟨fw_in (fw_tb (i := 263) (by decide +kernel)) rfl, fw_in (fw_tb (i := 1) (by decide +kernel)) rfl, by decide, by decide +kernel, Or.inl (fw_in (fw_tb (i := 261) (by decide +kernel)) rfl)⟩
theorem ft_callV_6_99 : fw_L "FederationWire" 99 y_Pairs_add prog_4_method_2_code 3 (some .boolean) 2 := ⟨fw_in (fw_tb (i := 267) (by decide +kernel)) rfl, fw_in (fw_tb (i := 2) (by decide +kernel)) rfl, by decide, by decide +kernel, Or.inl (fw_in (fw_tb (i := 264) (by decide +kernel)) rfl)⟩
theorem ft_field_6_103 : fw_F "FederationWire" 103 2 2 .int false := ⟨_, _, _, cl_2, by decide, by decide +kernel, by decide, Or.inr ⟨"FederationWire", fw_inN (fw_tb (i := 36) (by decide +kernel)) rfl⟩⟩
theorem ft_new_6_15 : Cond.classLink "FederationWire" 15 "FederationWire$Request" ∈ fw_WS := fw_in (fw_tb (i := 20) (by decide +kernel)) rfl
theorem ft_callI_6_106 : fw_L "FederationWire" 106 y_Request_init prog_5_method_1_code 7 none 5 := ⟨fw_in (fw_tb (i := 275) (by decide +kernel)) rfl, fw_in (fw_tb (i := 9) (by decide +kernel)) rfl, by decide, by decide +kernel, Or.inl (fw_in (fw_tb (i := 273) (by decide +kernel)) rfl)⟩
theorem ft_callV_6_109 : fw_L "FederationWire" 109 y_Pairs_clear prog_4_method_5_code 1 none 0 := ⟨fw_in (fw_tb (i := 356) (by decide +kernel)) rfl, fw_in (fw_tb (i := 2) (by decide +kernel)) rfl, by decide, by decide +kernel, Or.inl (fw_in (fw_tb (i := 353) (by decide +kernel)) rfl)⟩
theorem ft_callV_6_112 : fw_L "FederationWire" 112 y_Request_hasKeysLeft prog_5_method_3_code 1 (some .boolean) 0 := ⟨fw_in (fw_tb (i := 360) (by decide +kernel)) rfl, fw_in (fw_tb (i := 9) (by decide +kernel)) rfl, by decide, by decide +kernel, Or.inl (fw_in (fw_tb (i := 357) (by decide +kernel)) rfl)⟩
theorem ft_callV_6_116 : fw_L "FederationWire" 116 y_Request_writeAsk prog_5_method_4_code 3 none 0 := ⟨fw_in (fw_tb (i := 364) (by decide +kernel)) rfl, fw_in (fw_tb (i := 9) (by decide +kernel)) rfl, by decide, by decide +kernel, Or.inl (fw_in (fw_tb (i := 361) (by decide +kernel)) rfl)⟩
theorem ft_field_6_214 : fw_F "FederationWire" 214 0 0 .int false := ⟨_, _, _, cl_0, by decide, by decide +kernel, by decide, Or.inr ⟨"FederationWire", fw_inN (fw_tb (i := 64) (by decide +kernel)) rfl⟩⟩
theorem ft_callV_6_223 : fw_L "FederationWire" 223 y_ServingEnd_answerMore prog_6_method_3_code 5 none 1 := ⟨fw_in (fw_tb (i := 445) (by decide +kernel)) rfl, fw_in (fw_tb (i := 4) (by decide +kernel)) rfl, by decide, by decide +kernel, Or.inl (fw_in (fw_tb (i := 442) (by decide +kernel)) rfl)⟩
theorem ft_field_6_226 : fw_F "FederationWire" 226 4 4 (.object "FederationWire$Frame") true := ⟨_, _, _, cl_4, by decide, by decide +kernel, by decide, Or.inr ⟨"FederationWire", fw_inN (fw_tb (i := 115) (by decide +kernel)) rfl⟩⟩
theorem ft_callV_6_219 : fw_L "FederationWire" 219 y_ServingEnd_answerAsk prog_6_method_2_code 3 none 1 := ⟨fw_in (fw_tb (i := 413) (by decide +kernel)) rfl, fw_in (fw_tb (i := 4) (by decide +kernel)) rfl, by decide, by decide +kernel, Or.inl (fw_in (fw_tb (i := 410) (by decide +kernel)) rfl)⟩
theorem ft_field_6_163 : fw_F "FederationWire" 163 3 5 .int false := ⟨_, _, _, cl_3, by decide, by decide +kernel, by decide, Or.inr ⟨"FederationWire", fw_inN (fw_tb (i := 302) (by decide +kernel)) rfl⟩⟩
theorem ft_field_6_151 : fw_F "FederationWire" 151 3 7 (.object "FederationWire$Pairs") true := ⟨_, _, _, cl_3, by decide, by decide +kernel, by decide, Or.inr ⟨"FederationWire", fw_inN (fw_tb (i := 305) (by decide +kernel)) rfl⟩⟩
theorem ft_field_6_229 : fw_F "FederationWire" 229 0 1 .int false := ⟨_, _, _, cl_0, by decide, by decide +kernel, by decide, Or.inr ⟨"FederationWire", fw_inN (fw_tb (i := 68) (by decide +kernel)) rfl⟩⟩
theorem ft_callV_6_232 : fw_L "FederationWire" 232 y_Request_waitsFor prog_5_method_7_code 3 (some .boolean) 2 := ⟨fw_in (fw_tb (i := 453) (by decide +kernel)) rfl, fw_in (fw_tb (i := 9) (by decide +kernel)) rfl, by decide, by decide +kernel, Or.inl (fw_in (fw_tb (i := 450) (by decide +kernel)) rfl)⟩
theorem ft_callV_6_239 : fw_L "FederationWire" 239 y_Request_takeRows prog_5_method_8_code 3 none 1 := ⟨fw_in (fw_tb (i := 463) (by decide +kernel)) rfl, fw_in (fw_tb (i := 9) (by decide +kernel)) rfl, by decide, by decide +kernel, Or.inl (fw_in (fw_tb (i := 460) (by decide +kernel)) rfl)⟩
theorem ft_callV_6_242 : fw_L "FederationWire" 242 y_Frame_byteAt prog_2_method_4_code 2 (some .int) 1 := ⟨fw_in (fw_tb (i := 236) (by decide +kernel)) rfl, fw_in (fw_tb (i := 5) (by decide +kernel)) rfl, by decide, by decide +kernel, Or.inl (fw_in (fw_tb (i := 464) (by decide +kernel)) rfl)⟩
theorem ft_callV_6_248 : fw_L "FederationWire" 248 y_FW_learn prog_1_method_27_code 4 none 1 := ⟨fw_in (fw_tb (i := 472) (by decide +kernel)) rfl, fw_in (fw_tb (i := 1) (by decide +kernel)) rfl, by decide, by decide +kernel, Or.inl (fw_in (fw_tb (i := 469) (by decide +kernel)) rfl)⟩
theorem ft_callV_6_245 : fw_L "FederationWire" 245 y_Request_writeMore prog_5_method_5_code 1 none 0 := ⟨fw_in (fw_tb (i := 468) (by decide +kernel)) rfl, fw_in (fw_tb (i := 9) (by decide +kernel)) rfl, by decide, by decide +kernel, Or.inl (fw_in (fw_tb (i := 465) (by decide +kernel)) rfl)⟩
theorem ft_callV_6_236 : fw_L "FederationWire" 236 y_Request_fail prog_5_method_9_code 2 none 1 := ⟨fw_in (fw_tb (i := 458) (by decide +kernel)) rfl, fw_in (fw_tb (i := 9) (by decide +kernel)) rfl, by decide, by decide +kernel, Or.inl (fw_in (fw_tb (i := 455) (by decide +kernel)) rfl)⟩
theorem ft_callV_6_201 : fw_L "FederationWire" 201 y_Wire_accept prog_7_method_7_code 2 (some .int) 1 := ⟨fw_in (fw_tb (i := 391) (by decide +kernel)) rfl, fw_in (fw_tb (i := 7) (by decide +kernel)) rfl, by decide, by decide +kernel, Or.inl (fw_in (fw_tb (i := 388) (by decide +kernel)) rfl)⟩
theorem ft_field_6_204 : fw_F "FederationWire" 204 5 4 (.object "FederationWire$Frame") true := ⟨_, _, _, cl_5, by decide, by decide +kernel, by decide, Or.inr ⟨"FederationWire", fw_inN (fw_tb (i := 141) (by decide +kernel)) rfl⟩⟩
theorem ft_callV_6_210 : fw_L "FederationWire" 210 y_FW_hear prog_1_method_26_code 5 (some .boolean) 3 := ⟨fw_in (fw_tb (i := 449) (by decide +kernel)) rfl, fw_in (fw_tb (i := 1) (by decide +kernel)) rfl, by decide, by decide +kernel, Or.inl (fw_in (fw_tb (i := 446) (by decide +kernel)) rfl)⟩
theorem ft_callV_6_207 : fw_L "FederationWire" 207 y_FW_serve prog_1_method_25_code 3 (some .boolean) 2 := ⟨fw_in (fw_tb (i := 409) (by decide +kernel)) rfl, fw_in (fw_tb (i := 1) (by decide +kernel)) rfl, by decide, by decide +kernel, Or.inl (fw_in (fw_tb (i := 406) (by decide +kernel)) rfl)⟩
theorem ft_field_6_184 : fw_F "FederationWire" 184 5 5 .int false := ⟨_, _, _, cl_5, by decide, by decide +kernel, by decide, Or.inr ⟨"FederationWire", fw_inN (fw_tb (i := 143) (by decide +kernel)) rfl⟩⟩
theorem ft_callV_6_122 : fw_L "FederationWire" 122 y_FW_take prog_1_method_24_code 7 (some .int) 3 := ⟨fw_in (fw_tb (i := 387) (by decide +kernel)) rfl, fw_in (fw_tb (i := 1) (by decide +kernel)) rfl, by decide, by decide +kernel, Or.inl (fw_in (fw_tb (i := 384) (by decide +kernel)) rfl)⟩
theorem ft_callV_6_126 : fw_L "FederationWire" 126 y_Wire_takeFirst prog_7_method_6_code 2 (some .int) 0 := ⟨fw_in (fw_tb (i := 480) (by decide +kernel)) rfl, fw_in (fw_tb (i := 7) (by decide +kernel)) rfl, by decide, by decide +kernel, Or.inl (fw_in (fw_tb (i := 477) (by decide +kernel)) rfl)⟩
theorem ft_field_6_130 : fw_F "FederationWire" 130 5 3 .int false := ⟨_, _, _, cl_5, by decide, by decide +kernel, by decide, Or.inr ⟨"FederationWire", fw_inN (fw_tb (i := 139) (by decide +kernel)) rfl⟩⟩
theorem ft_min_6_133 : Cond.methodLink "FederationWire" 133 Lib.Math.min.name ∈ fw_WS := fw_in (fw_tb (i := 485) (by decide +kernel)) rfl
theorem ft_callV_6_139 : fw_L "FederationWire" 139 y_Wire_clearOut prog_7_method_3_code 1 none 0 := ⟨fw_in (fw_tb (i := 252) (by decide +kernel)) rfl, fw_in (fw_tb (i := 7) (by decide +kernel)) rfl, by decide, by decide +kernel, Or.inl (fw_in (fw_tb (i := 486) (by decide +kernel)) rfl)⟩
theorem ft_ldc_6_254 : Cond.constant "FederationWire" 254 2147483647 ∈ fw_WS := fw_in (fw_tb (i := 495) (by decide +kernel)) rfl
theorem ft_callV_6_255 : fw_L "FederationWire" 255 y_FW_repeat prog_1_method_30_code 3 none 1 := ⟨fw_in (fw_tb (i := 503) (by decide +kernel)) rfl, fw_in (fw_tb (i := 1) (by decide +kernel)) rfl, by decide, by decide +kernel, Or.inl (fw_in (fw_tb (i := 500) (by decide +kernel)) rfl)⟩
theorem ft_callV_6_142 : fw_L "FederationWire" 142 y_FW_earliestDue prog_1_method_28_code 4 (some .int) 0 := ⟨fw_in (fw_tb (i := 494) (by decide +kernel)) rfl, fw_in (fw_tb (i := 1) (by decide +kernel)) rfl, by decide, by decide +kernel, Or.inl (fw_in (fw_tb (i := 491) (by decide +kernel)) rfl)⟩
theorem ft_callV_6_145 : fw_L "FederationWire" 145 y_FW_settleDue prog_1_method_29_code 4 (some .int) 0 := ⟨fw_in (fw_tb (i := 499) (by decide +kernel)) rfl, fw_in (fw_tb (i := 1) (by decide +kernel)) rfl, by decide, by decide +kernel, Or.inl (fw_in (fw_tb (i := 496) (by decide +kernel)) rfl)⟩
theorem ft_field_6_148 : fw_F "FederationWire" 148 3 15 .int false := ⟨_, _, _, cl_3, by decide, by decide +kernel, by decide, Or.inr ⟨"FederationWire", fw_inN (fw_tb (i := 319) (by decide +kernel)) rfl⟩⟩
theorem ft_callV_6_154 : fw_L "FederationWire" 154 y_Request_joinedSize prog_5_method_10_code 4 (some .int) 0 := ⟨fw_in (fw_tb (i := 511) (by decide +kernel)) rfl, fw_in (fw_tb (i := 9) (by decide +kernel)) rfl, by decide, by decide +kernel, Or.inl (fw_in (fw_tb (i := 508) (by decide +kernel)) rfl)⟩
theorem ft_field_6_157 : fw_F "FederationWire" 157 3 11 .int false := ⟨_, _, _, cl_3, by decide, by decide +kernel, by decide, Or.inr ⟨"FederationWire", fw_inN (fw_tb (i := 311) (by decide +kernel)) rfl⟩⟩
theorem ft_callV_6_170 : fw_L "FederationWire" 170 y_Pairs_valueAt prog_4_method_4_code 2 (some .int) 1 := ⟨fw_in (fw_tb (i := 289) (by decide +kernel)) rfl, fw_in (fw_tb (i := 2) (by decide +kernel)) rfl, by decide, by decide +kernel, Or.inl (fw_in (fw_tb (i := 517) (by decide +kernel)) rfl)⟩
theorem ft_callV_6_166 : fw_L "FederationWire" 166 y_Pairs_keyAt prog_4_method_3_code 2 (some .int) 1 := ⟨fw_in (fw_tb (i := 285) (by decide +kernel)) rfl, fw_in (fw_tb (i := 2) (by decide +kernel)) rfl, by decide, by decide +kernel, Or.inl (fw_in (fw_tb (i := 516) (by decide +kernel)) rfl)⟩
theorem ft_callV_6_173 : fw_L "FederationWire" 173 y_Request_joinedPart prog_5_method_11_code 6 (some .int) 2 := ⟨fw_in (fw_tb (i := 525) (by decide +kernel)) rfl, fw_in (fw_tb (i := 9) (by decide +kernel)) rfl, by decide, by decide +kernel, Or.inl (fw_in (fw_tb (i := 522) (by decide +kernel)) rfl)⟩
theorem ft_field_6_177 : fw_F "FederationWire" 177 4 0 (.object "FederationWire$Pairs") true := ⟨_, _, _, cl_4, by decide, by decide +kernel, by decide, Or.inr ⟨"FederationWire", fw_inN (fw_tb (i := 108) (by decide +kernel)) rfl⟩⟩
theorem ft_field_6_180 : fw_F "FederationWire" 180 4 3 .int false := ⟨_, _, _, cl_4, by decide, by decide +kernel, by decide, Or.inr ⟨"FederationWire", fw_inN (fw_tb (i := 113) (by decide +kernel)) rfl⟩⟩
theorem ft_field_6_181 : fw_F "FederationWire" 181 4 2 .int false := ⟨_, _, _, cl_4, by decide, by decide +kernel, by decide, Or.inr ⟨"FederationWire", fw_inN (fw_tb (i := 111) (by decide +kernel)) rfl⟩⟩
theorem ft_obj_7_1 : Cond.methodLink "FederationWireModel" 1 objectInit ∈ fw_WS := fw_in (fw_tb (i := 551) (by decide +kernel)) rfl
theorem ft_field_7_7 : fw_F "FederationWireModel" 7 7 0 (.array .boolean) true := ⟨_, _, _, cl_7, by decide, by decide +kernel, by decide, Or.inl (fw_in (fw_tb (i := 552) (by decide +kernel)) rfl)⟩
theorem ft_nonest_7_7 : ∀ host Cn nm d, Cond.fieldLinkNest "FederationWireModel" 7 Cn nm d host ∉ fw_NS := fw_noN "FederationWireModel" 7 (by decide +kernel)
theorem ft_field_7_13 : fw_F "FederationWireModel" 13 7 1 (.array .int) true := ⟨_, _, _, cl_7, by decide, by decide +kernel, by decide, Or.inl (fw_in (fw_tb (i := 553) (by decide +kernel)) rfl)⟩
theorem ft_nonest_7_13 : ∀ host Cn nm d, Cond.fieldLinkNest "FederationWireModel" 13 Cn nm d host ∉ fw_NS := fw_noN "FederationWireModel" 13 (by decide +kernel)
theorem ft_field_7_17 : fw_F "FederationWireModel" 17 7 2 (.array .int) true := ⟨_, _, _, cl_7, by decide, by decide +kernel, by decide, Or.inl (fw_in (fw_tb (i := 554) (by decide +kernel)) rfl)⟩
theorem ft_nonest_7_17 : ∀ host Cn nm d, Cond.fieldLinkNest "FederationWireModel" 17 Cn nm d host ∉ fw_NS := fw_noN "FederationWireModel" 17 (by decide +kernel)
theorem ft_field_7_20 : fw_F "FederationWireModel" 20 7 3 (.array .int) true := ⟨_, _, _, cl_7, by decide, by decide +kernel, by decide, Or.inl (fw_in (fw_tb (i := 555) (by decide +kernel)) rfl)⟩
theorem ft_nonest_7_20 : ∀ host Cn nm d, Cond.fieldLinkNest "FederationWireModel" 20 Cn nm d host ∉ fw_NS := fw_noN "FederationWireModel" 20 (by decide +kernel)
theorem ft_field_7_23 : fw_F "FederationWireModel" 23 7 4 (.array .int) true := ⟨_, _, _, cl_7, by decide, by decide +kernel, by decide, Or.inl (fw_in (fw_tb (i := 556) (by decide +kernel)) rfl)⟩
theorem ft_nonest_7_23 : ∀ host Cn nm d, Cond.fieldLinkNest "FederationWireModel" 23 Cn nm d host ∉ fw_NS := fw_noN "FederationWireModel" 23 (by decide +kernel)
theorem ft_field_7_26 : fw_F "FederationWireModel" 26 7 5 .int false := ⟨_, _, _, cl_7, by decide, by decide +kernel, by decide, Or.inl (fw_in (fw_tb (i := 557) (by decide +kernel)) rfl)⟩
theorem ft_field_7_30 : fw_F "FederationWireModel" 30 7 6 .int false := ⟨_, _, _, cl_7, by decide, by decide +kernel, by decide, Or.inl (fw_in (fw_tb (i := 558) (by decide +kernel)) rfl)⟩
theorem ft_field_7_33 : fw_F "FederationWireModel" 33 7 7 .int false := ⟨_, _, _, cl_7, by decide, by decide +kernel, by decide, Or.inl (fw_in (fw_tb (i := 559) (by decide +kernel)) rfl)⟩
theorem ft_field_7_36 : fw_F "FederationWireModel" 36 7 12 (.array .int) true := ⟨_, _, _, cl_7, by decide, by decide +kernel, by decide, Or.inl (fw_in (fw_tb (i := 564) (by decide +kernel)) rfl)⟩
theorem ft_nonest_7_36 : ∀ host Cn nm d, Cond.fieldLinkNest "FederationWireModel" 36 Cn nm d host ∉ fw_NS := fw_noN "FederationWireModel" 36 (by decide +kernel)
theorem ft_field_7_39 : fw_F "FederationWireModel" 39 7 13 (.array .int) true := ⟨_, _, _, cl_7, by decide, by decide +kernel, by decide, Or.inl (fw_in (fw_tb (i := 565) (by decide +kernel)) rfl)⟩
theorem ft_nonest_7_39 : ∀ host Cn nm d, Cond.fieldLinkNest "FederationWireModel" 39 Cn nm d host ∉ fw_NS := fw_noN "FederationWireModel" 39 (by decide +kernel)
theorem ft_field_7_42 : fw_F "FederationWireModel" 42 7 15 (.array .int) true := ⟨_, _, _, cl_7, by decide, by decide +kernel, by decide, Or.inl (fw_in (fw_tb (i := 567) (by decide +kernel)) rfl)⟩
theorem ft_nonest_7_42 : ∀ host Cn nm d, Cond.fieldLinkNest "FederationWireModel" 42 Cn nm d host ∉ fw_NS := fw_noN "FederationWireModel" 42 (by decide +kernel)
theorem ft_field_7_45 : fw_F "FederationWireModel" 45 7 16 (.array .boolean) true := ⟨_, _, _, cl_7, by decide, by decide +kernel, by decide, Or.inl (fw_in (fw_tb (i := 568) (by decide +kernel)) rfl)⟩
theorem ft_nonest_7_45 : ∀ host Cn nm d, Cond.fieldLinkNest "FederationWireModel" 45 Cn nm d host ∉ fw_NS := fw_noN "FederationWireModel" 45 (by decide +kernel)
theorem ft_field_7_48 : fw_F "FederationWireModel" 48 7 17 (.array .int) true := ⟨_, _, _, cl_7, by decide, by decide +kernel, by decide, Or.inl (fw_in (fw_tb (i := 569) (by decide +kernel)) rfl)⟩
theorem ft_nonest_7_48 : ∀ host Cn nm d, Cond.fieldLinkNest "FederationWireModel" 48 Cn nm d host ∉ fw_NS := fw_noN "FederationWireModel" 48 (by decide +kernel)
theorem ft_field_7_51 : fw_F "FederationWireModel" 51 7 18 (.array .int) true := ⟨_, _, _, cl_7, by decide, by decide +kernel, by decide, Or.inl (fw_in (fw_tb (i := 570) (by decide +kernel)) rfl)⟩
theorem ft_nonest_7_51 : ∀ host Cn nm d, Cond.fieldLinkNest "FederationWireModel" 51 Cn nm d host ∉ fw_NS := fw_noN "FederationWireModel" 51 (by decide +kernel)
theorem ft_field_7_54 : fw_F "FederationWireModel" 54 7 19 (.array .int) true := ⟨_, _, _, cl_7, by decide, by decide +kernel, by decide, Or.inl (fw_in (fw_tb (i := 571) (by decide +kernel)) rfl)⟩
theorem ft_nonest_7_54 : ∀ host Cn nm d, Cond.fieldLinkNest "FederationWireModel" 54 Cn nm d host ∉ fw_NS := fw_noN "FederationWireModel" 54 (by decide +kernel)
theorem ft_field_7_57 : fw_F "FederationWireModel" 57 7 20 (.array .int) true := ⟨_, _, _, cl_7, by decide, by decide +kernel, by decide, Or.inl (fw_in (fw_tb (i := 572) (by decide +kernel)) rfl)⟩
theorem ft_nonest_7_57 : ∀ host Cn nm d, Cond.fieldLinkNest "FederationWireModel" 57 Cn nm d host ∉ fw_NS := fw_noN "FederationWireModel" 57 (by decide +kernel)
theorem ft_field_7_60 : fw_F "FederationWireModel" 60 7 21 (.array .int) true := ⟨_, _, _, cl_7, by decide, by decide +kernel, by decide, Or.inl (fw_in (fw_tb (i := 573) (by decide +kernel)) rfl)⟩
theorem ft_nonest_7_60 : ∀ host Cn nm d, Cond.fieldLinkNest "FederationWireModel" 60 Cn nm d host ∉ fw_NS := fw_noN "FederationWireModel" 60 (by decide +kernel)
theorem ft_field_7_63 : fw_F "FederationWireModel" 63 7 22 (.array .int) true := ⟨_, _, _, cl_7, by decide, by decide +kernel, by decide, Or.inl (fw_in (fw_tb (i := 574) (by decide +kernel)) rfl)⟩
theorem ft_nonest_7_63 : ∀ host Cn nm d, Cond.fieldLinkNest "FederationWireModel" 63 Cn nm d host ∉ fw_NS := fw_noN "FederationWireModel" 63 (by decide +kernel)
theorem ft_field_7_66 : fw_F "FederationWireModel" 66 7 23 (.array .int) true := ⟨_, _, _, cl_7, by decide, by decide +kernel, by decide, Or.inl (fw_in (fw_tb (i := 575) (by decide +kernel)) rfl)⟩
theorem ft_nonest_7_66 : ∀ host Cn nm d, Cond.fieldLinkNest "FederationWireModel" 66 Cn nm d host ∉ fw_NS := fw_noN "FederationWireModel" 66 (by decide +kernel)
theorem ft_field_7_69 : fw_F "FederationWireModel" 69 7 24 (.array .int) true := ⟨_, _, _, cl_7, by decide, by decide +kernel, by decide, Or.inl (fw_in (fw_tb (i := 576) (by decide +kernel)) rfl)⟩
theorem ft_nonest_7_69 : ∀ host Cn nm d, Cond.fieldLinkNest "FederationWireModel" 69 Cn nm d host ∉ fw_NS := fw_noN "FederationWireModel" 69 (by decide +kernel)
theorem ft_field_7_72 : fw_F "FederationWireModel" 72 7 25 (.array .int) true := ⟨_, _, _, cl_7, by decide, by decide +kernel, by decide, Or.inl (fw_in (fw_tb (i := 577) (by decide +kernel)) rfl)⟩
theorem ft_nonest_7_72 : ∀ host Cn nm d, Cond.fieldLinkNest "FederationWireModel" 72 Cn nm d host ∉ fw_NS := fw_noN "FederationWireModel" 72 (by decide +kernel)
theorem ft_field_7_75 : fw_F "FederationWireModel" 75 7 26 (.array .int) true := ⟨_, _, _, cl_7, by decide, by decide +kernel, by decide, Or.inl (fw_in (fw_tb (i := 578) (by decide +kernel)) rfl)⟩
theorem ft_nonest_7_75 : ∀ host Cn nm d, Cond.fieldLinkNest "FederationWireModel" 75 Cn nm d host ∉ fw_NS := fw_noN "FederationWireModel" 75 (by decide +kernel)
theorem ft_field_7_78 : fw_F "FederationWireModel" 78 7 27 (.array .int) true := ⟨_, _, _, cl_7, by decide, by decide +kernel, by decide, Or.inl (fw_in (fw_tb (i := 579) (by decide +kernel)) rfl)⟩
theorem ft_nonest_7_78 : ∀ host Cn nm d, Cond.fieldLinkNest "FederationWireModel" 78 Cn nm d host ∉ fw_NS := fw_noN "FederationWireModel" 78 (by decide +kernel)
theorem ft_field_7_81 : fw_F "FederationWireModel" 81 7 28 (.array .int) true := ⟨_, _, _, cl_7, by decide, by decide +kernel, by decide, Or.inl (fw_in (fw_tb (i := 580) (by decide +kernel)) rfl)⟩
theorem ft_nonest_7_81 : ∀ host Cn nm d, Cond.fieldLinkNest "FederationWireModel" 81 Cn nm d host ∉ fw_NS := fw_noN "FederationWireModel" 81 (by decide +kernel)
theorem ft_field_7_84 : fw_F "FederationWireModel" 84 7 29 (.array .int) true := ⟨_, _, _, cl_7, by decide, by decide +kernel, by decide, Or.inl (fw_in (fw_tb (i := 581) (by decide +kernel)) rfl)⟩
theorem ft_nonest_7_84 : ∀ host Cn nm d, Cond.fieldLinkNest "FederationWireModel" 84 Cn nm d host ∉ fw_NS := fw_noN "FederationWireModel" 84 (by decide +kernel)
theorem ft_field_7_87 : fw_F "FederationWireModel" 87 7 30 (.array .int) true := ⟨_, _, _, cl_7, by decide, by decide +kernel, by decide, Or.inl (fw_in (fw_tb (i := 582) (by decide +kernel)) rfl)⟩
theorem ft_nonest_7_87 : ∀ host Cn nm d, Cond.fieldLinkNest "FederationWireModel" 87 Cn nm d host ∉ fw_NS := fw_noN "FederationWireModel" 87 (by decide +kernel)
theorem ft_field_7_90 : fw_F "FederationWireModel" 90 7 31 (.array .int) true := ⟨_, _, _, cl_7, by decide, by decide +kernel, by decide, Or.inl (fw_in (fw_tb (i := 583) (by decide +kernel)) rfl)⟩
theorem ft_nonest_7_90 : ∀ host Cn nm d, Cond.fieldLinkNest "FederationWireModel" 90 Cn nm d host ∉ fw_NS := fw_noN "FederationWireModel" 90 (by decide +kernel)
theorem ft_field_7_93 : fw_F "FederationWireModel" 93 7 32 (.array .int) true := ⟨_, _, _, cl_7, by decide, by decide +kernel, by decide, Or.inl (fw_in (fw_tb (i := 584) (by decide +kernel)) rfl)⟩
theorem ft_nonest_7_93 : ∀ host Cn nm d, Cond.fieldLinkNest "FederationWireModel" 93 Cn nm d host ∉ fw_NS := fw_noN "FederationWireModel" 93 (by decide +kernel)
theorem ft_field_7_96 : fw_F "FederationWireModel" 96 7 33 (.array .int) true := ⟨_, _, _, cl_7, by decide, by decide +kernel, by decide, Or.inl (fw_in (fw_tb (i := 585) (by decide +kernel)) rfl)⟩
theorem ft_nonest_7_96 : ∀ host Cn nm d, Cond.fieldLinkNest "FederationWireModel" 96 Cn nm d host ∉ fw_NS := fw_noN "FederationWireModel" 96 (by decide +kernel)
theorem ft_field_7_99 : fw_F "FederationWireModel" 99 7 34 (.array .int) true := ⟨_, _, _, cl_7, by decide, by decide +kernel, by decide, Or.inl (fw_in (fw_tb (i := 586) (by decide +kernel)) rfl)⟩
theorem ft_nonest_7_99 : ∀ host Cn nm d, Cond.fieldLinkNest "FederationWireModel" 99 Cn nm d host ∉ fw_NS := fw_noN "FederationWireModel" 99 (by decide +kernel)
theorem ft_field_7_102 : fw_F "FederationWireModel" 102 7 35 (.array .int) true := ⟨_, _, _, cl_7, by decide, by decide +kernel, by decide, Or.inl (fw_in (fw_tb (i := 587) (by decide +kernel)) rfl)⟩
theorem ft_nonest_7_102 : ∀ host Cn nm d, Cond.fieldLinkNest "FederationWireModel" 102 Cn nm d host ∉ fw_NS := fw_noN "FederationWireModel" 102 (by decide +kernel)
theorem ft_field_7_105 : fw_F "FederationWireModel" 105 7 36 (.array .int) true := ⟨_, _, _, cl_7, by decide, by decide +kernel, by decide, Or.inl (fw_in (fw_tb (i := 588) (by decide +kernel)) rfl)⟩
theorem ft_nonest_7_105 : ∀ host Cn nm d, Cond.fieldLinkNest "FederationWireModel" 105 Cn nm d host ∉ fw_NS := fw_noN "FederationWireModel" 105 (by decide +kernel)
theorem ft_field_7_108 : fw_F "FederationWireModel" 108 7 37 (.array .boolean) true := ⟨_, _, _, cl_7, by decide, by decide +kernel, by decide, Or.inl (fw_in (fw_tb (i := 589) (by decide +kernel)) rfl)⟩
theorem ft_nonest_7_108 : ∀ host Cn nm d, Cond.fieldLinkNest "FederationWireModel" 108 Cn nm d host ∉ fw_NS := fw_noN "FederationWireModel" 108 (by decide +kernel)
theorem ft_field_7_111 : fw_F "FederationWireModel" 111 7 39 (.array .int) true := ⟨_, _, _, cl_7, by decide, by decide +kernel, by decide, Or.inl (fw_in (fw_tb (i := 591) (by decide +kernel)) rfl)⟩
theorem ft_nonest_7_111 : ∀ host Cn nm d, Cond.fieldLinkNest "FederationWireModel" 111 Cn nm d host ∉ fw_NS := fw_noN "FederationWireModel" 111 (by decide +kernel)
theorem ft_field_7_114 : fw_F "FederationWireModel" 114 7 40 (.array .int) true := ⟨_, _, _, cl_7, by decide, by decide +kernel, by decide, Or.inl (fw_in (fw_tb (i := 592) (by decide +kernel)) rfl)⟩
theorem ft_nonest_7_114 : ∀ host Cn nm d, Cond.fieldLinkNest "FederationWireModel" 114 Cn nm d host ∉ fw_NS := fw_noN "FederationWireModel" 114 (by decide +kernel)
theorem ft_field_7_117 : fw_F "FederationWireModel" 117 7 43 (.array .int) true := ⟨_, _, _, cl_7, by decide, by decide +kernel, by decide, Or.inl (fw_in (fw_tb (i := 595) (by decide +kernel)) rfl)⟩
theorem ft_nonest_7_117 : ∀ host Cn nm d, Cond.fieldLinkNest "FederationWireModel" 117 Cn nm d host ∉ fw_NS := fw_noN "FederationWireModel" 117 (by decide +kernel)
theorem ft_field_7_120 : fw_F "FederationWireModel" 120 7 44 (.array .int) true := ⟨_, _, _, cl_7, by decide, by decide +kernel, by decide, Or.inl (fw_in (fw_tb (i := 596) (by decide +kernel)) rfl)⟩
theorem ft_nonest_7_120 : ∀ host Cn nm d, Cond.fieldLinkNest "FederationWireModel" 120 Cn nm d host ∉ fw_NS := fw_noN "FederationWireModel" 120 (by decide +kernel)
theorem ft_field_7_123 : fw_F "FederationWireModel" 123 7 45 (.array .int) true := ⟨_, _, _, cl_7, by decide, by decide +kernel, by decide, Or.inl (fw_in (fw_tb (i := 597) (by decide +kernel)) rfl)⟩
theorem ft_nonest_7_123 : ∀ host Cn nm d, Cond.fieldLinkNest "FederationWireModel" 123 Cn nm d host ∉ fw_NS := fw_noN "FederationWireModel" 123 (by decide +kernel)
theorem ft_field_7_126 : fw_F "FederationWireModel" 126 7 46 (.array .int) true := ⟨_, _, _, cl_7, by decide, by decide +kernel, by decide, Or.inl (fw_in (fw_tb (i := 598) (by decide +kernel)) rfl)⟩
theorem ft_nonest_7_126 : ∀ host Cn nm d, Cond.fieldLinkNest "FederationWireModel" 126 Cn nm d host ∉ fw_NS := fw_noN "FederationWireModel" 126 (by decide +kernel)
theorem ft_field_7_129 : fw_F "FederationWireModel" 129 7 47 (.array .int) true := ⟨_, _, _, cl_7, by decide, by decide +kernel, by decide, Or.inl (fw_in (fw_tb (i := 599) (by decide +kernel)) rfl)⟩
theorem ft_nonest_7_129 : ∀ host Cn nm d, Cond.fieldLinkNest "FederationWireModel" 129 Cn nm d host ∉ fw_NS := fw_noN "FederationWireModel" 129 (by decide +kernel)
theorem ft_field_7_132 : fw_F "FederationWireModel" 132 7 48 (.array .int) true := ⟨_, _, _, cl_7, by decide, by decide +kernel, by decide, Or.inl (fw_in (fw_tb (i := 600) (by decide +kernel)) rfl)⟩
theorem ft_nonest_7_132 : ∀ host Cn nm d, Cond.fieldLinkNest "FederationWireModel" 132 Cn nm d host ∉ fw_NS := fw_noN "FederationWireModel" 132 (by decide +kernel)
theorem ft_field_7_135 : fw_F "FederationWireModel" 135 7 50 (.array .int) true := ⟨_, _, _, cl_7, by decide, by decide +kernel, by decide, Or.inl (fw_in (fw_tb (i := 602) (by decide +kernel)) rfl)⟩
theorem ft_nonest_7_135 : ∀ host Cn nm d, Cond.fieldLinkNest "FederationWireModel" 135 Cn nm d host ∉ fw_NS := fw_noN "FederationWireModel" 135 (by decide +kernel)
theorem ft_field_7_141 : fw_F "FederationWireModel" 141 7 10 .int false := ⟨_, _, _, cl_7, by decide, by decide +kernel, by decide, Or.inl (fw_in (fw_tb (i := 562) (by decide +kernel)) rfl)⟩
theorem ft_field_7_138 : fw_F "FederationWireModel" 138 7 49 .int false := ⟨_, _, _, cl_7, by decide, by decide +kernel, by decide, Or.inl (fw_in (fw_tb (i := 601) (by decide +kernel)) rfl)⟩
theorem ft_field_7_148 : fw_F "FederationWireModel" 148 7 8 .int false := ⟨_, _, _, cl_7, by decide, by decide +kernel, by decide, Or.inl (fw_in (fw_tb (i := 560) (by decide +kernel)) rfl)⟩
theorem ft_callV_7_151 : fw_L "FederationWireModel" 151 y_Mo_send prog_9_method_3_code 7 (some .boolean) 3 := ⟨fw_in (fw_tb (i := 744) (by decide +kernel)) rfl, fw_in (fw_tb (i := 8) (by decide +kernel)) rfl, by decide, by decide +kernel, Or.inl (fw_in (fw_tb (i := 741) (by decide +kernel)) rfl)⟩
theorem ft_callV_7_144 : fw_L "FederationWireModel" 144 y_Mo_put prog_9_method_4_code 2 none 1 := ⟨fw_in (fw_tb (i := 732) (by decide +kernel)) rfl, fw_in (fw_tb (i := 8) (by decide +kernel)) rfl, by decide, by decide +kernel, Or.inl (fw_in (fw_tb (i := 729) (by decide +kernel)) rfl)⟩
theorem ft_callV_7_155 : fw_L "FederationWireModel" 155 y_Mo_sendLast prog_9_method_5_code 3 (some .boolean) 1 := ⟨fw_in (fw_tb (i := 740) (by decide +kernel)) rfl, fw_in (fw_tb (i := 8) (by decide +kernel)) rfl, by decide, by decide +kernel, Or.inl (fw_in (fw_tb (i := 737) (by decide +kernel)) rfl)⟩
theorem ft_callV_7_159 : fw_L "FederationWireModel" 159 y_Mo_keep prog_9_method_6_code 4 none 2 := ⟨fw_in (fw_tb (i := 736) (by decide +kernel)) rfl, fw_in (fw_tb (i := 8) (by decide +kernel)) rfl, by decide, by decide +kernel, Or.inl (fw_in (fw_tb (i := 733) (by decide +kernel)) rfl)⟩
theorem ft_callS_7_163 : fw_L "FederationWireModel" 163 y_Mo_isIn prog_9_method_2_code 3 (some .boolean) 3 := ⟨fw_in (fw_tb (i := 712) (by decide +kernel)) rfl, fw_in (fw_tb (i := 8) (by decide +kernel)) rfl, by decide, by decide +kernel, Or.inl (fw_in (fw_tb (i := 710) (by decide +kernel)) rfl)⟩
theorem ft_field_7_166 : fw_F "FederationWireModel" 166 7 11 .int false := ⟨_, _, _, cl_7, by decide, by decide +kernel, by decide, Or.inl (fw_in (fw_tb (i := 563) (by decide +kernel)) rfl)⟩
theorem ft_field_7_169 : fw_F "FederationWireModel" 169 7 14 .int false := ⟨_, _, _, cl_7, by decide, by decide +kernel, by decide, Or.inl (fw_in (fw_tb (i := 566) (by decide +kernel)) rfl)⟩
theorem ft_callV_7_175 : fw_L "FederationWireModel" 175 y_Mo_askPart prog_9_method_7_code 3 none 1 := ⟨fw_in (fw_tb (i := 728) (by decide +kernel)) rfl, fw_in (fw_tb (i := 8) (by decide +kernel)) rfl, by decide, by decide +kernel, Or.inl (fw_in (fw_tb (i := 725) (by decide +kernel)) rfl)⟩
theorem ft_callV_7_172 : fw_L "FederationWireModel" 172 y_Mo_addKey prog_9_method_13_code 4 none 2 := ⟨fw_in (fw_tb (i := 724) (by decide +kernel)) rfl, fw_in (fw_tb (i := 8) (by decide +kernel)) rfl, by decide, by decide +kernel, Or.inl (fw_in (fw_tb (i := 721) (by decide +kernel)) rfl)⟩
theorem ft_callV_7_181 : fw_L "FederationWireModel" 181 y_Mo_finish prog_9_method_8_code 4 none 1 := ⟨fw_in (fw_tb (i := 803) (by decide +kernel)) rfl, fw_in (fw_tb (i := 8) (by decide +kernel)) rfl, by decide, by decide +kernel, Or.inl (fw_in (fw_tb (i := 800) (by decide +kernel)) rfl)⟩
theorem ft_callV_7_178 : fw_L "FederationWireModel" 178 y_Mo_fail prog_9_method_9_code 3 none 2 := ⟨fw_in (fw_tb (i := 799) (by decide +kernel)) rfl, fw_in (fw_tb (i := 8) (by decide +kernel)) rfl, by decide, by decide +kernel, Or.inl (fw_in (fw_tb (i := 796) (by decide +kernel)) rfl)⟩
theorem ft_field_7_184 : fw_F "FederationWireModel" 184 7 38 .int false := ⟨_, _, _, cl_7, by decide, by decide +kernel, by decide, Or.inl (fw_in (fw_tb (i := 590) (by decide +kernel)) rfl)⟩
theorem ft_field_7_187 : fw_F "FederationWireModel" 187 7 41 .int false := ⟨_, _, _, cl_7, by decide, by decide +kernel, by decide, Or.inl (fw_in (fw_tb (i := 593) (by decide +kernel)) rfl)⟩
theorem ft_callV_7_190 : fw_L "FederationWireModel" 190 y_Mo_copy prog_9_method_18_code 4 none 2 := ⟨fw_in (fw_tb (i := 787) (by decide +kernel)) rfl, fw_in (fw_tb (i := 8) (by decide +kernel)) rfl, by decide, by decide +kernel, Or.inl (fw_in (fw_tb (i := 784) (by decide +kernel)) rfl)⟩
theorem ft_callV_7_193 : fw_L "FederationWireModel" 193 y_Mo_placeOf prog_9_method_17_code 4 (some .int) 1 := ⟨fw_in (fw_tb (i := 775) (by decide +kernel)) rfl, fw_in (fw_tb (i := 8) (by decide +kernel)) rfl, by decide, by decide +kernel, Or.inl (fw_in (fw_tb (i := 772) (by decide +kernel)) rfl)⟩
theorem ft_callV_7_197 : fw_L "FederationWireModel" 197 y_Mo_forget prog_9_method_19_code 3 none 1 := ⟨fw_in (fw_tb (i := 783) (by decide +kernel)) rfl, fw_in (fw_tb (i := 8) (by decide +kernel)) rfl, by decide, by decide +kernel, Or.inl (fw_in (fw_tb (i := 780) (by decide +kernel)) rfl)⟩
theorem ft_callV_7_206 : fw_L "FederationWireModel" 206 y_Mo_answer prog_9_method_20_code 7 none 4 := ⟨fw_in (fw_tb (i := 791) (by decide +kernel)) rfl, fw_in (fw_tb (i := 8) (by decide +kernel)) rfl, by decide, by decide +kernel, Or.inl (fw_in (fw_tb (i := 788) (by decide +kernel)) rfl)⟩
theorem ft_callV_7_203 : fw_L "FederationWireModel" 203 y_Mo_remember prog_9_method_21_code 7 none 2 := ⟨fw_in (fw_tb (i := 779) (by decide +kernel)) rfl, fw_in (fw_tb (i := 8) (by decide +kernel)) rfl, by decide, by decide +kernel, Or.inl (fw_in (fw_tb (i := 776) (by decide +kernel)) rfl)⟩
theorem ft_field_7_200 : fw_F "FederationWireModel" 200 7 42 .int false := ⟨_, _, _, cl_7, by decide, by decide +kernel, by decide, Or.inl (fw_in (fw_tb (i := 594) (by decide +kernel)) rfl)⟩
theorem ft_callS_7_210 : fw_L "FederationWireModel" 210 y_Mo_isLength prog_9_method_24_code 2 (some .boolean) 2 := ⟨fw_in (fw_tb (i := 763) (by decide +kernel)) rfl, fw_in (fw_tb (i := 8) (by decide +kernel)) rfl, by decide, by decide +kernel, Or.inl (fw_in (fw_tb (i := 761) (by decide +kernel)) rfl)⟩
theorem ft_callV_7_214 : fw_L "FederationWireModel" 214 y_Mo_fits prog_9_method_25_code 6 (some .boolean) 3 := ⟨fw_in (fw_tb (i := 760) (by decide +kernel)) rfl, fw_in (fw_tb (i := 8) (by decide +kernel)) rfl, by decide, by decide +kernel, Or.inl (fw_in (fw_tb (i := 757) (by decide +kernel)) rfl)⟩
theorem ft_callV_7_223 : fw_L "FederationWireModel" 223 y_Mo_isDropped prog_9_method_15_code 7 (some .boolean) 4 := ⟨fw_in (fw_tb (i := 795) (by decide +kernel)) rfl, fw_in (fw_tb (i := 8) (by decide +kernel)) rfl, by decide, by decide +kernel, Or.inl (fw_in (fw_tb (i := 792) (by decide +kernel)) rfl)⟩
theorem ft_field_7_227 : fw_F "FederationWireModel" 227 7 9 .int false := ⟨_, _, _, cl_7, by decide, by decide +kernel, by decide, Or.inl (fw_in (fw_tb (i := 561) (by decide +kernel)) rfl)⟩
theorem ft_callV_7_220 : fw_L "FederationWireModel" 220 y_Mo_isServed prog_9_method_22_code 7 (some .boolean) 3 := ⟨fw_in (fw_tb (i := 771) (by decide +kernel)) rfl, fw_in (fw_tb (i := 8) (by decide +kernel)) rfl, by decide, by decide +kernel, Or.inl (fw_in (fw_tb (i := 768) (by decide +kernel)) rfl)⟩
theorem ft_callV_7_217 : fw_L "FederationWireModel" 217 y_Mo_end prog_9_method_23_code 2 none 1 := ⟨fw_in (fw_tb (i := 767) (by decide +kernel)) rfl, fw_in (fw_tb (i := 8) (by decide +kernel)) rfl, by decide, by decide +kernel, Or.inl (fw_in (fw_tb (i := 764) (by decide +kernel)) rfl)⟩
theorem ft_callV_7_230 : fw_L "FederationWireModel" 230 y_Mo_come prog_9_method_26_code 8 (some .int) 2 := ⟨fw_in (fw_tb (i := 756) (by decide +kernel)) rfl, fw_in (fw_tb (i := 8) (by decide +kernel)) rfl, by decide, by decide +kernel, Or.inl (fw_in (fw_tb (i := 753) (by decide +kernel)) rfl)⟩
theorem ft_callV_7_234 : fw_L "FederationWireModel" 234 y_Mo_takeOut prog_9_method_28_code 4 (some .int) 1 := ⟨fw_in (fw_tb (i := 811) (by decide +kernel)) rfl, fw_in (fw_tb (i := 8) (by decide +kernel)) rfl, by decide, by decide +kernel, Or.inl (fw_in (fw_tb (i := 808) (by decide +kernel)) rfl)⟩
theorem ft_callV_7_237 : fw_L "FederationWireModel" 237 y_Mo_isFailedSilently prog_9_method_10_code 2 (some .boolean) 1 := ⟨fw_in (fw_tb (i := 839) (by decide +kernel)) rfl, fw_in (fw_tb (i := 8) (by decide +kernel)) rfl, by decide, by decide +kernel, Or.inl (fw_in (fw_tb (i := 836) (by decide +kernel)) rfl)⟩
theorem ft_callV_7_240 : fw_L "FederationWireModel" 240 y_Mo_joinedOnes prog_9_method_34_code 7 (some .int) 3 := ⟨fw_in (fw_tb (i := 835) (by decide +kernel)) rfl, fw_in (fw_tb (i := 8) (by decide +kernel)) rfl, by decide, by decide +kernel, Or.inl (fw_in (fw_tb (i := 832) (by decide +kernel)) rfl)⟩
