/-! A function of the abstract store for each method (by program, out of the listing). -/
def F_Frame_init (a0 : Nat) (S0 : fw_S) : Option (fw_S) :=
  (fw_let (fw_wi S0 a0 0 (0 : Int32)) (fun S1 =>
  (fw_let (fw_wi S1 a0 1 (0 : Int32)) (fun S2 =>
  (fw_let (fw_wi S2 a0 2 (0 : Int32)) (fun S3 =>
  (fw_let (fw_z S3) (fun b5 => (fw_let (fw_nw S3 (18 : Int32).toNatClampNeg) (fun S4 =>
  (fw_let (fw_wr S4 a0 3 (some b5)) (fun S7 =>
  (some S7)))))))))))))
def F_Frame_begin (a0 : Nat) (p1 : Int32) (p2 : Int32) (S0 : fw_S) : Option (fw_S) :=
  (fw_let (fw_wi S0 a0 0 p1) (fun S1 =>
  (fw_let (fw_wi S1 a0 1 p2) (fun S2 =>
  (fw_let (fw_wi S2 a0 2 (0 : Int32)) (fun S3 =>
  (some S3)))))))
def F_Frame_put (a0 : Nat) (p1 : Int32) (S0 : fw_S) : Option (fw_S) :=
  (if (fw_g S0 a0 2) < 0 then
  (some S0)
  else
  (fw_om (fw_r S0 a0 3) none (fun b1 =>
  (if (nI (fw_l S0 b1)) ≤ (fw_g S0 a0 2) then
  (some S0)
  else
  (fw_om (fw_r S0 a0 3) none (fun b2 =>
  (if (fw_g S0 a0 2) < 0 ∨ fw_l S0 b2 ≤ (fw_g S0 a0 2).toNatClampNeg then none else
  (fw_let (fw_wi S0 b2 (fw_g S0 a0 2).toNatClampNeg (p1 &&& (255 : Int32))) (fun S4 =>
  (fw_let (fw_wi S4 a0 2 ((fw_g S4 a0 2) + (1 : Int32))) (fun S5 =>
  (some S5))))))))))))
def F_Frame_byteAt (a0 : Nat) (p1 : Int32) (S0 : fw_S) : Option (Int32) :=
  (if p1 < 0 then
  (some (0 : Int32))
  else
  (if (fw_g S0 a0 2) ≤ p1 then
  (some (0 : Int32))
  else
  (fw_om (fw_r S0 a0 3) none (fun b1 =>
  (if (nI (fw_l S0 b1)) ≤ p1 then
  (some (0 : Int32))
  else
  (fw_om (fw_r S0 a0 3) none (fun b2 =>
  (if p1 < 0 ∨ fw_l S0 b2 ≤ p1.toNatClampNeg then none else
  (some (fw_g S0 b2 p1.toNatClampNeg))))))))))
def F_Frame_sum_l17 (S0 : fw_S) : Nat → Nat → Int32 → Int32 → Option (Int32)
  | 0, _, _, _ => none
  | n + 1, v0, v1, v2 =>
    (if (fw_g S0 v0 2) ≤ v2 then
  (some v1)
  else
  (fw_om (fw_r S0 v0 3) none (fun b2 =>
  (if (nI (fw_l S0 b2)) ≤ v2 then
  (some v1)
  else
  (fw_om (fw_r S0 v0 3) none (fun b3 =>
  (if v2 < 0 ∨ fw_l S0 b3 ≤ v2.toNatClampNeg then none else
  (fw_let (v1 ^^^ (fw_g S0 b3 v2.toNatClampNeg)) (fun x5 =>
  F_Frame_sum_l17 S0 n v0 x5 (v2 + (1 : Int32)))))))))))
def F_Frame_sum (a0 : Nat) (S0 : fw_S) : Option (Int32) :=
  (fw_let (((fw_g S0 a0 0) ^^^ (fw_g S0 a0 1)) ^^^ (fw_g S0 a0 2)) (fun x1 =>
  F_Frame_sum_l17 S0 4096 a0 x1 (0 : Int32)))
def F_Pairs_init (a0 : Nat) (p1 : Int32) (S0 : fw_S) : Option (fw_S) :=
  (fw_let (fw_wi S0 a0 2 (0 : Int32)) (fun S1 =>
  (fw_let (if p1 < (0 : Int32) then (0 : Int32) else p1) (fun x2 =>
  (if x2 < 0 ∨ 64 < x2.toNatClampNeg then none else
  (fw_let (fw_z S1) (fun b5 => (fw_let (fw_nw S1 x2.toNatClampNeg) (fun S4 =>
  (fw_let (fw_wr S4 a0 0 (some b5)) (fun S7 =>
  (if x2 < 0 ∨ 64 < x2.toNatClampNeg then none else
  (fw_let (fw_z S7) (fun b10 => (fw_let (fw_nw S7 x2.toNatClampNeg) (fun S9 =>
  (fw_let (fw_wr S9 a0 1 (some b10)) (fun S12 =>
  (some S12)))))))))))))))))))
def F_Memory_init (a0 : Nat) (S0 : fw_S) : Option (fw_S) :=
  (fw_let (fw_wi S0 a0 0 (0 : Int32)) (fun S1 =>
  (fw_let (fw_wi S1 a0 1 (0 : Int32)) (fun S2 =>
  (fw_let (fw_wi S2 a0 2 (0 : Int32)) (fun S3 =>
  (fw_let (fw_z S3) (fun b5 => (fw_let (fw_nw S3 0) (fun S4 =>
  (Option.bind (F_Pairs_init b5 (60 : Int32) S4) (fun S7 =>
  (fw_let (fw_wr S7 a0 3 (some b5)) (fun S9 =>
  (some S9)))))))))))))))
def F_Pairs_add (a0 : Nat) (p1 : Int32) (p2 : Int32) (S0 : fw_S) : Option (Int32 × fw_S) :=
  (if (fw_g S0 a0 2) < 0 then
  (some ((0 : Int32), S0))
  else
  (fw_om (fw_r S0 a0 0) none (fun b1 =>
  (if (nI (fw_l S0 b1)) ≤ (fw_g S0 a0 2) then
  (some ((0 : Int32), S0))
  else
  (fw_om (fw_r S0 a0 1) none (fun b2 =>
  (if (fw_g S0 a0 2) < (nI (fw_l S0 b2)) then
  (fw_om (fw_r S0 a0 0) none (fun b3 =>
  (if (fw_g S0 a0 2) < 0 ∨ fw_l S0 b3 ≤ (fw_g S0 a0 2).toNatClampNeg then none else
  (fw_let (fw_wi S0 b3 (fw_g S0 a0 2).toNatClampNeg p1) (fun S5 =>
  (fw_om (fw_r S5 a0 1) none (fun b6 =>
  (if (fw_g S5 a0 2) < 0 ∨ fw_l S5 b6 ≤ (fw_g S5 a0 2).toNatClampNeg then none else
  (fw_let (fw_wi S5 b6 (fw_g S5 a0 2).toNatClampNeg p2) (fun S8 =>
  (fw_let (fw_wi S8 a0 2 ((fw_g S8 a0 2) + (1 : Int32))) (fun S9 =>
  (some ((1 : Int32), S9))))))))))))))
  else
  (some ((0 : Int32), S0)))))))))
def F_Pairs_keyAt (a0 : Nat) (p1 : Int32) (S0 : fw_S) : Option (Int32) :=
  (if p1 < 0 then
  (some (-2 : Int32))
  else
  (if (fw_g S0 a0 2) ≤ p1 then
  (some (-2 : Int32))
  else
  (fw_om (fw_r S0 a0 0) none (fun b1 =>
  (if (nI (fw_l S0 b1)) ≤ p1 then
  (some (-2 : Int32))
  else
  (fw_om (fw_r S0 a0 0) none (fun b2 =>
  (if p1 < 0 ∨ fw_l S0 b2 ≤ p1.toNatClampNeg then none else
  (some (fw_g S0 b2 p1.toNatClampNeg))))))))))
def F_Pairs_valueAt (a0 : Nat) (p1 : Int32) (S0 : fw_S) : Option (Int32) :=
  (if p1 < 0 then
  (some (-2 : Int32))
  else
  (if (fw_g S0 a0 2) ≤ p1 then
  (some (-2 : Int32))
  else
  (fw_om (fw_r S0 a0 1) none (fun b1 =>
  (if (nI (fw_l S0 b1)) ≤ p1 then
  (some (-2 : Int32))
  else
  (fw_om (fw_r S0 a0 1) none (fun b2 =>
  (if p1 < 0 ∨ fw_l S0 b2 ≤ p1.toNatClampNeg then none else
  (some (fw_g S0 b2 p1.toNatClampNeg))))))))))
def F_Pairs_clear (a0 : Nat) (S0 : fw_S) : Option (fw_S) :=
  (fw_let (fw_wi S0 a0 2 (0 : Int32)) (fun S1 =>
  (some S1)))
def F_Request_addKey_j36 (v0 : Nat) (v1 : Int32) (S0 : fw_S) : Option (fw_S) :=
    (if (fw_g S0 v0 5) < 0 then
  (some S0)
  else
  (fw_om (fw_r S0 v0 4) none (fun b1 =>
  (if (nI (fw_l S0 b1)) ≤ (fw_g S0 v0 5) then
  (some S0)
  else
  (fw_om (fw_r S0 v0 4) none (fun b2 =>
  (if (fw_g S0 v0 5) < 0 ∨ fw_l S0 b2 ≤ (fw_g S0 v0 5).toNatClampNeg then none else
  (fw_let (fw_wi S0 b2 (fw_g S0 v0 5).toNatClampNeg v1) (fun S4 =>
  (fw_let (fw_wi S4 v0 5 ((fw_g S4 v0 5) + (1 : Int32))) (fun S5 =>
  (some S5))))))))))))
def F_Request_addKey_l2 : Nat → Nat → Int32 → Int32 → fw_S → Option (fw_S)
  | 0, _, _, _, _ => none
  | n + 1, v0, v1, v2, S0 =>
    (if (fw_g S0 v0 5) ≤ v2 then
  F_Request_addKey_j36 v0 v1 S0
  else
  (fw_om (fw_r S0 v0 4) none (fun b6 =>
  (if (nI (fw_l S0 b6)) ≤ v2 then
  F_Request_addKey_j36 v0 v1 S0
  else
  (fw_om (fw_r S0 v0 4) none (fun b7 =>
  (if v2 < 0 ∨ fw_l S0 b7 ≤ v2.toNatClampNeg then none else
  (if (fw_g S0 b7 v2.toNatClampNeg) = v1 then
  (some S0)
  else
  F_Request_addKey_l2 n v0 v1 (v2 + (1 : Int32)) S0))))))))
def F_Request_addKey (a0 : Nat) (p1 : Int32) (S0 : fw_S) : Option (fw_S) :=
  F_Request_addKey_l2 4096 a0 p1 (0 : Int32) S0
def F_Request_init_l123 : Nat → Nat → Nat → Int32 → fw_S → Option (fw_S)
  | 0, _, _, _, _ => none
  | n + 1, v0, v5, v6, S0 =>
    (if (fw_g S0 v5 2) ≤ v6 then
  (some S0)
  else
  (fw_om (fw_r S0 v0 3) ((Option.bind (F_Pairs_keyAt v5 v6 S0) (fun x38 =>
  (Option.bind (F_Pairs_valueAt v5 v6 S0) (fun x40 =>
  none))))) (fun b37 =>
  (Option.bind (F_Pairs_keyAt v5 v6 S0) (fun x42 =>
  (Option.bind (F_Pairs_valueAt v5 v6 S0) (fun x44 =>
  (fw_b2 (F_Pairs_add b37 x42 x44 S0) (fun x47 S46 =>
  (Option.bind (F_Pairs_keyAt v5 v6 S46) (fun x49 =>
  (Option.bind (F_Request_addKey v0 x49 S46) (fun S51 =>
  F_Request_init_l123 n v0 v5 (v6 + (1 : Int32)) S51)))))))))))))
def F_Request_init (a0 : Nat) (p1 : Int32) (p2 : Int32) (p3 : Int32) (p4 : Int32) (p5 : Nat) (S0 : fw_S) : Option (fw_S) :=
  (fw_let (fw_wi S0 a0 5 (0 : Int32)) (fun S1 =>
  (fw_let (fw_wi S1 a0 6 (0 : Int32)) (fun S2 =>
  (fw_let (fw_z S2) (fun b4 => (fw_let (fw_nw S2 0) (fun S3 =>
  (Option.bind (F_Pairs_init b4 (60 : Int32) S3) (fun S6 =>
  (fw_let (fw_wr S6 a0 7 (some b4)) (fun S8 =>
  (fw_let (fw_wi S8 a0 8 (0 : Int32)) (fun S9 =>
  (fw_let (fw_z S9) (fun b11 => (fw_let (fw_nw S9 0) (fun S10 =>
  (Option.bind (F_Frame_init b11 S10) (fun S13 =>
  (fw_let (fw_wr S13 a0 9 (some b11)) (fun S15 =>
  (fw_let (fw_wi S15 a0 11 (-1 : Int32)) (fun S16 =>
  (fw_let (fw_wi S16 a0 12 (0 : Int32)) (fun S17 =>
  (fw_let (fw_wi S17 a0 13 (0 : Int32)) (fun S18 =>
  (fw_let (fw_wi S18 a0 14 (0 : Int32)) (fun S19 =>
  (fw_let (fw_wi S19 a0 15 (0 : Int32)) (fun S20 =>
  (fw_let (fw_wi S20 a0 10 p1) (fun S21 =>
  (fw_let (fw_wi S21 a0 0 p2) (fun S22 =>
  (if p3 = 0 ∨ p3 = 1 then
  (fw_let (fw_wi S22 a0 1 p3) (fun S24 =>
  (fw_let (fw_wi S24 a0 2 p4) (fun S25 =>
  (fw_let (fw_z S25) (fun b27 => (fw_let (fw_nw S25 0) (fun S26 =>
  (Option.bind (F_Pairs_init b27 (fw_g S26 p5 2) S26) (fun S29 =>
  (fw_let (fw_wr S29 a0 3 (some b27)) (fun S31 =>
  (if (if (fw_g S31 p5 2) < (0 : Int32) then (0 : Int32) else (fw_g S31 p5 2)) < 0 ∨ 64 < (if (fw_g S31 p5 2) < (0 : Int32) then (0 : Int32) else (fw_g S31 p5 2)).toNatClampNeg then none else
  (fw_let (fw_z S31) (fun b34 => (fw_let (fw_nw S31 (if (fw_g S31 p5 2) < (0 : Int32) then (0 : Int32) else (fw_g S31 p5 2)).toNatClampNeg) (fun S33 =>
  (fw_let (fw_wr S33 a0 4 (some b34)) (fun S36 =>
  F_Request_init_l123 4096 a0 p5 (0 : Int32) S36)))))))))))))))))))
  else none)))))))))))))))))))))))))))))))))))))
def F_Request_hasKeysLeft (a0 : Nat) (S0 : fw_S) : Option (Int32) :=
  (if (fw_g S0 a0 5) ≤ (fw_g S0 a0 6) then
  (some (0 : Int32))
  else
  (some (1 : Int32)))
def F_Request_nextStep (a0 : Nat) (p1 : Int32) (S0 : fw_S) : Option (fw_S) :=
  (fw_let (fw_wi S0 a0 11 (((fw_g S0 a0 11) + (1 : Int32)) &&& (255 : Int32))) (fun S1 =>
  (fw_om (fw_r S1 a0 9) none (fun b2 =>
  (Option.bind (F_Frame_begin b2 p1 (fw_g S1 a0 10) S1) (fun S3 =>
  (fw_om (fw_r S3 a0 9) none (fun b5 =>
  (Option.bind (F_Frame_put b5 (fw_g S3 a0 11) S3) (fun S6 =>
  (some S6)))))))))))
def F_Request_writeAsk_j63 (v0 : Nat) (v1 : Int32) (S0 : fw_S) : Option (fw_S) :=
    (fw_let (fw_wi S0 v0 6 v1) (fun S6 =>
  (fw_let (fw_wi S6 v0 8 (0 : Int32)) (fun S7 =>
  (some S7)))))
def F_Request_writeAsk_l39 : Nat → Nat → Int32 → Int32 → fw_S → Option (fw_S)
  | 0, _, _, _, _ => none
  | n + 1, v0, v1, v2, S0 =>
    (if v1 ≤ v2 then
  F_Request_writeAsk_j63 v0 v1 S0
  else
  (fw_om (fw_r S0 v0 9) ((fw_om (fw_r S0 v0 4) none (fun b9 =>
  (if v2 < 0 ∨ fw_l S0 b9 ≤ v2.toNatClampNeg then none else
  none)))) (fun b8 =>
  (fw_om (fw_r S0 v0 4) none (fun b11 =>
  (if v2 < 0 ∨ fw_l S0 b11 ≤ v2.toNatClampNeg then none else
  (Option.bind (F_Frame_put b8 (fw_g S0 b11 v2.toNatClampNeg) S0) (fun S13 =>
  F_Request_writeAsk_l39 n v0 v1 (v2 + (1 : Int32)) S13))))))))
def F_Request_writeAsk (a0 : Nat) (S0 : fw_S) : Option (fw_S) :=
  (Option.bind (F_Request_nextStep a0 (1 : Int32) S0) (fun S1 =>
  (fw_om (fw_r S1 a0 4) none (fun b3 =>
  (fw_let (if (nI (fw_l S1 b3)) < (if (fw_g S1 a0 5) < ((fw_g S1 a0 6) + (fw_g S1 a0 2)) then (fw_g S1 a0 5) else ((fw_g S1 a0 6) + (fw_g S1 a0 2))) then (nI (fw_l S1 b3)) else (if (fw_g S1 a0 5) < ((fw_g S1 a0 6) + (fw_g S1 a0 2)) then (fw_g S1 a0 5) else ((fw_g S1 a0 6) + (fw_g S1 a0 2)))) (fun x4 =>
  (fw_let (if (fw_g S1 a0 6) < (0 : Int32) then (0 : Int32) else (fw_g S1 a0 6)) (fun x5 =>
  F_Request_writeAsk_l39 4096 a0 x4 x5 S1))))))))
def F_Request_writeMore (a0 : Nat) (S0 : fw_S) : Option (fw_S) :=
  (Option.bind (F_Request_nextStep a0 (3 : Int32) S0) (fun S1 =>
  (fw_om (fw_r S1 a0 9) none (fun b3 =>
  (Option.bind (F_Frame_put b3 (fw_g S1 a0 8) S1) (fun S4 =>
  (some S4)))))))
def F_Request_waitsFor (a0 : Nat) (p1 : Nat) (p2 : Int32) (S0 : fw_S) : Option (Int32) :=
  (if (fw_g S0 a0 14) = 0 then
  (if (fw_g S0 a0 0) = p2 then
  (Option.bind (F_Frame_byteAt p1 (0 : Int32) S0) (fun x1 =>
  (if x1 = (fw_g S0 a0 11) then
  (if (fw_g S0 p1 0) = (2 : Int32) then
  (some (1 : Int32))
  else
  (if (fw_g S0 p1 0) = (4 : Int32) then
  (some (1 : Int32))
  else
  (some (0 : Int32))))
  else
  (some (0 : Int32)))))
  else
  (some (0 : Int32)))
  else
  (some (0 : Int32)))
def F_Request_takeRows_l2 : Nat → Nat → Nat → Int32 → fw_S → Option (fw_S)
  | 0, _, _, _, _ => none
  | n + 1, v0, v1, v2, S0 =>
    (if (fw_g S0 v1 2) ≤ (v2 + (1 : Int32)) then
  (some S0)
  else
  (fw_om (fw_r S0 v0 7) ((Option.bind (F_Frame_byteAt v1 v2 S0) (fun x2 =>
  (Option.bind (F_Frame_byteAt v1 (v2 + (1 : Int32)) S0) (fun x4 =>
  none))))) (fun b1 =>
  (Option.bind (F_Frame_byteAt v1 v2 S0) (fun x6 =>
  (Option.bind (F_Frame_byteAt v1 (v2 + (1 : Int32)) S0) (fun x8 =>
  (fw_b2 (F_Pairs_add b1 x6 x8 S0) (fun x11 S10 =>
  (fw_let (fw_wi S10 v0 8 ((fw_g S10 v0 8) + (1 : Int32))) (fun S13 =>
  F_Request_takeRows_l2 n v0 v1 (v2 + (2 : Int32)) S13)))))))))))
def F_Request_takeRows (a0 : Nat) (p1 : Nat) (S0 : fw_S) : Option (fw_S) :=
  F_Request_takeRows_l2 4096 a0 p1 (2 : Int32) S0
def F_Request_fail (a0 : Nat) (p1 : Int32) (S0 : fw_S) : Option (fw_S) :=
  (fw_let (fw_wi S0 a0 15 p1) (fun S1 =>
  (if (fw_g S1 a0 1) = 0 then
  (fw_let (fw_wi S1 a0 14 (2 : Int32)) (fun S2 =>
  (some S2)))
  else
  (fw_let (fw_wi S1 a0 14 (1 : Int32)) (fun S3 =>
  (fw_om (fw_r S3 a0 7) none (fun b4 =>
  (Option.bind (F_Pairs_clear b4 S3) (fun S5 =>
  (some S5))))))))))
def F_Request_joinedSize_l42 (S0 : fw_S) (k29 : Nat → Int32 → Int32 → Option (Int32)) : Nat → Nat → Int32 → Int32 → Int32 → Option (Int32)
  | 0, _, _, _, _ => none
  | n + 1, v0, v1, v2, v3 =>
    (fw_om (fw_r S0 v0 7) none (fun b2 =>
  (if (fw_g S0 b2 2) ≤ v3 then
  k29 v0 v1 (v2 + (1 : Int32))
  else
  (fw_om (fw_r S0 v0 7) none (fun b3 =>
  (Option.bind (F_Pairs_keyAt b3 v3 S0) (fun x4 =>
  (fw_om (fw_r S0 v0 3) none (fun b6 =>
  (Option.bind (F_Pairs_keyAt b6 v2 S0) (fun x7 =>
  (if x4 = x7 then
  F_Request_joinedSize_l42 S0 k29 n v0 (v1 + (1 : Int32)) v2 (v3 + (1 : Int32))
  else
  F_Request_joinedSize_l42 S0 k29 n v0 v1 v2 (v3 + (1 : Int32))))))))))))))
def F_Request_joinedSize_l29 (S0 : fw_S) : Nat → Nat → Int32 → Int32 → Option (Int32)
  | 0, _, _, _ => none
  | n + 1, v0, v1, v2 =>
    (fw_om (fw_r S0 v0 3) none (fun b1 =>
  (if (fw_g S0 b1 2) ≤ v2 then
  (some v1)
  else
  F_Request_joinedSize_l42 S0 (F_Request_joinedSize_l29 S0 n) 4096 v0 v1 v2 (0 : Int32))))
def F_Request_joinedSize (a0 : Nat) (S0 : fw_S) : Option (Int32) :=
  (if (fw_g S0 a0 14) = (1 : Int32) then
  (if (fw_g S0 a0 15) = 0 then
  F_Request_joinedSize_l29 S0 4096 a0 (0 : Int32) (0 : Int32)
  else
  (fw_om (fw_r S0 a0 3) none (fun b9 =>
  (some (fw_g S0 b9 2)))))
  else
  (some (0 : Int32)))
def F_Request_silentPart (a0 : Nat) (p1 : Int32) (p2 : Int32) (S0 : fw_S) : Option (Int32) :=
  (if p1 < 0 then
  (some (-2 : Int32))
  else
  (fw_om (fw_r S0 a0 3) none (fun b1 =>
  (if p1 < (fw_g S0 b1 2) then
  (if p2 = 0 then
  (some (-1 : Int32))
  else
  (fw_om (fw_r S0 a0 3) none (fun b2 =>
  (Option.bind (F_Pairs_valueAt b2 p1 S0) (fun x3 =>
  (some x3))))))
  else
  (some (-2 : Int32))))))
def F_Request_joinedPart_j75 (S0 : fw_S) (v0 : Nat) (v2 : Int32) (v4 : Int32) (v5 : Int32) : Option (Int32) :=
    (if v2 = 0 then
  (fw_om (fw_r S0 v0 7) none (fun b9 =>
  (Option.bind (F_Pairs_valueAt b9 v5 S0) (fun x10 =>
  (some x10)))))
  else
  (fw_om (fw_r S0 v0 3) none (fun b12 =>
  (Option.bind (F_Pairs_valueAt b12 v4 S0) (fun x13 =>
  (some x13))))))
def F_Request_joinedPart_l34 (S0 : fw_S) (k19 : Nat → Int32 → Int32 → Int32 → Int32 → Option (Int32)) : Nat → Nat → Int32 → Int32 → Int32 → Int32 → Int32 → Option (Int32)
  | 0, _, _, _, _, _, _ => none
  | n + 1, v0, v1, v2, v3, v4, v5 =>
    (fw_om (fw_r S0 v0 7) none (fun b2 =>
  (if (fw_g S0 b2 2) ≤ v5 then
  k19 v0 v1 v2 v3 (v4 + (1 : Int32))
  else
  (fw_om (fw_r S0 v0 7) none (fun b3 =>
  (Option.bind (F_Pairs_keyAt b3 v5 S0) (fun x4 =>
  (fw_om (fw_r S0 v0 3) none (fun b6 =>
  (Option.bind (F_Pairs_keyAt b6 v4 S0) (fun x7 =>
  (if x4 = x7 then
  (if v3 = v1 then
  F_Request_joinedPart_j75 S0 v0 v2 v4 v5
  else
  F_Request_joinedPart_l34 S0 k19 n v0 v1 v2 (v3 + (1 : Int32)) v4 (v5 + (1 : Int32)))
  else
  F_Request_joinedPart_l34 S0 k19 n v0 v1 v2 v3 v4 (v5 + (1 : Int32))))))))))))))
def F_Request_joinedPart_l19 (S0 : fw_S) : Nat → Nat → Int32 → Int32 → Int32 → Int32 → Option (Int32)
  | 0, _, _, _, _, _ => none
  | n + 1, v0, v1, v2, v3, v4 =>
    (fw_om (fw_r S0 v0 3) none (fun b1 =>
  (if (fw_g S0 b1 2) ≤ v4 then
  (some (-2 : Int32))
  else
  F_Request_joinedPart_l34 S0 (F_Request_joinedPart_l19 S0 n) 4096 v0 v1 v2 v3 v4 (0 : Int32))))
def F_Request_joinedPart (a0 : Nat) (p1 : Int32) (p2 : Int32) (S0 : fw_S) : Option (Int32) :=
  (if (fw_g S0 a0 15) = 0 then
  F_Request_joinedPart_l19 S0 4096 a0 p1 p2 (0 : Int32) (0 : Int32)
  else
  (Option.bind (F_Request_silentPart a0 p1 p2 S0) (fun x15 =>
  (some x15))))
set_option maxRecDepth 100000 in
def F_ServingEnd_init (a0 : Nat) (S0 : fw_S) : Option (fw_S) :=
  (fw_let (fw_z S0) (fun b2 => (fw_let (fw_nw S0 0) (fun S1 =>
  (Option.bind (F_Pairs_init b2 (60 : Int32) S1) (fun S4 =>
  (fw_let (fw_wr S4 a0 0 (some b2)) (fun S6 =>
  (fw_let (fw_z S6) (fun b8 => (fw_let (fw_nw S6 (8 : Int32).toNatClampNeg) (fun S7 =>
  (fw_let (fw_wr S7 a0 1 (some b8)) (fun S10 =>
  (fw_let (fw_wi S10 a0 2 (0 : Int32)) (fun S11 =>
  (fw_let (fw_wi S11 a0 3 (0 : Int32)) (fun S12 =>
  (fw_let (fw_z S12) (fun b14 => (fw_let (fw_nw S12 0) (fun S13 =>
  (Option.bind (F_Frame_init b14 S13) (fun S16 =>
  (fw_let (fw_wr S16 a0 4 (some b14)) (fun S18 =>
  (fw_om (fw_r S18 a0 1) ((fw_let (fw_z S18) (fun b21 => (fw_let (fw_nw S18 0) (fun S20 =>
  (Option.bind (F_Memory_init b21 S20) (fun S23 =>
  none))))))) (fun b19 =>
  (fw_let (fw_z S18) (fun b26 => (fw_let (fw_nw S18 0) (fun S25 =>
  (Option.bind (F_Memory_init b26 S25) (fun S28 =>
  (if (0 : Int32) < 0 ∨ fw_l S28 b19 ≤ (0 : Int32).toNatClampNeg then none else
  (fw_let (fw_wr S28 b19 (0 : Int32).toNatClampNeg (some b26)) (fun S31 =>
  (fw_om (fw_r S31 a0 1) ((fw_let (fw_z S31) (fun b34 => (fw_let (fw_nw S31 0) (fun S33 =>
  (Option.bind (F_Memory_init b34 S33) (fun S36 =>
  none))))))) (fun b32 =>
  (fw_let (fw_z S31) (fun b39 => (fw_let (fw_nw S31 0) (fun S38 =>
  (Option.bind (F_Memory_init b39 S38) (fun S41 =>
  (if (1 : Int32) < 0 ∨ fw_l S41 b32 ≤ (1 : Int32).toNatClampNeg then none else
  (fw_let (fw_wr S41 b32 (1 : Int32).toNatClampNeg (some b39)) (fun S44 =>
  (fw_om (fw_r S44 a0 1) ((fw_let (fw_z S44) (fun b47 => (fw_let (fw_nw S44 0) (fun S46 =>
  (Option.bind (F_Memory_init b47 S46) (fun S49 =>
  none))))))) (fun b45 =>
  (fw_let (fw_z S44) (fun b52 => (fw_let (fw_nw S44 0) (fun S51 =>
  (Option.bind (F_Memory_init b52 S51) (fun S54 =>
  (if (2 : Int32) < 0 ∨ fw_l S54 b45 ≤ (2 : Int32).toNatClampNeg then none else
  (fw_let (fw_wr S54 b45 (2 : Int32).toNatClampNeg (some b52)) (fun S57 =>
  (fw_om (fw_r S57 a0 1) ((fw_let (fw_z S57) (fun b60 => (fw_let (fw_nw S57 0) (fun S59 =>
  (Option.bind (F_Memory_init b60 S59) (fun S62 =>
  none))))))) (fun b58 =>
  (fw_let (fw_z S57) (fun b65 => (fw_let (fw_nw S57 0) (fun S64 =>
  (Option.bind (F_Memory_init b65 S64) (fun S67 =>
  (if (3 : Int32) < 0 ∨ fw_l S67 b58 ≤ (3 : Int32).toNatClampNeg then none else
  (fw_let (fw_wr S67 b58 (3 : Int32).toNatClampNeg (some b65)) (fun S70 =>
  (fw_om (fw_r S70 a0 1) ((fw_let (fw_z S70) (fun b73 => (fw_let (fw_nw S70 0) (fun S72 =>
  (Option.bind (F_Memory_init b73 S72) (fun S75 =>
  none))))))) (fun b71 =>
  (fw_let (fw_z S70) (fun b78 => (fw_let (fw_nw S70 0) (fun S77 =>
  (Option.bind (F_Memory_init b78 S77) (fun S80 =>
  (if (4 : Int32) < 0 ∨ fw_l S80 b71 ≤ (4 : Int32).toNatClampNeg then none else
  (fw_let (fw_wr S80 b71 (4 : Int32).toNatClampNeg (some b78)) (fun S83 =>
  (fw_om (fw_r S83 a0 1) ((fw_let (fw_z S83) (fun b86 => (fw_let (fw_nw S83 0) (fun S85 =>
  (Option.bind (F_Memory_init b86 S85) (fun S88 =>
  none))))))) (fun b84 =>
  (fw_let (fw_z S83) (fun b91 => (fw_let (fw_nw S83 0) (fun S90 =>
  (Option.bind (F_Memory_init b91 S90) (fun S93 =>
  (if (5 : Int32) < 0 ∨ fw_l S93 b84 ≤ (5 : Int32).toNatClampNeg then none else
  (fw_let (fw_wr S93 b84 (5 : Int32).toNatClampNeg (some b91)) (fun S96 =>
  (fw_om (fw_r S96 a0 1) ((fw_let (fw_z S96) (fun b99 => (fw_let (fw_nw S96 0) (fun S98 =>
  (Option.bind (F_Memory_init b99 S98) (fun S101 =>
  none))))))) (fun b97 =>
  (fw_let (fw_z S96) (fun b104 => (fw_let (fw_nw S96 0) (fun S103 =>
  (Option.bind (F_Memory_init b104 S103) (fun S106 =>
  (if (6 : Int32) < 0 ∨ fw_l S106 b97 ≤ (6 : Int32).toNatClampNeg then none else
  (fw_let (fw_wr S106 b97 (6 : Int32).toNatClampNeg (some b104)) (fun S109 =>
  (fw_om (fw_r S109 a0 1) ((fw_let (fw_z S109) (fun b112 => (fw_let (fw_nw S109 0) (fun S111 =>
  (Option.bind (F_Memory_init b112 S111) (fun S114 =>
  none))))))) (fun b110 =>
  (fw_let (fw_z S109) (fun b117 => (fw_let (fw_nw S109 0) (fun S116 =>
  (Option.bind (F_Memory_init b117 S116) (fun S119 =>
  (if (7 : Int32) < 0 ∨ fw_l S119 b110 ≤ (7 : Int32).toNatClampNeg then none else
  (fw_let (fw_wr S119 b110 (7 : Int32).toNatClampNeg (some b117)) (fun S122 =>
  (some S122)))))))))))))))))))))))))))))))))))))))))))))))))))))))))))))))))))))))))))))))))))))))))))))))))))))))))))))))))))
def F_ServingEnd_memoryAt (a0 : Nat) (p1 : Int32) (S0 : fw_S) : Option (Option Nat) :=
  (if p1 < 0 then
  (some none)
  else
  (if (fw_g S0 a0 2) ≤ p1 then
  (some none)
  else
  (fw_om (fw_r S0 a0 1) none (fun b1 =>
  (if (nI (fw_l S0 b1)) ≤ p1 then
  (some none)
  else
  (fw_om (fw_r S0 a0 1) none (fun b2 =>
  (if p1 < 0 ∨ fw_l S0 b2 ≤ p1.toNatClampNeg then none else
  (fw_om (fw_r S0 b2 p1.toNatClampNeg) (some none) (fun b4 =>
  (some (some b4))))))))))))
def F_ServingEnd_placeOf_l2 (S0 : fw_S) : Nat → Nat → Int32 → Int32 → Option (Int32)
  | 0, _, _, _ => none
  | n + 1, v0, v1, v2 =>
    (if (fw_g S0 v0 2) ≤ v2 then
  (some (-2 : Int32))
  else
  (Option.bind (F_ServingEnd_memoryAt v0 v2 S0) (fun o1 =>
  (fw_om o1 (F_ServingEnd_placeOf_l2 S0 n v0 v1 (v2 + (1 : Int32))) (fun b3 =>
  (if (fw_g S0 b3 0) = v1 then
  (some v2)
  else
  F_ServingEnd_placeOf_l2 S0 n v0 v1 (v2 + (1 : Int32))))))))
def F_ServingEnd_placeOf (a0 : Nat) (p1 : Int32) (S0 : fw_S) : Option (Int32) :=
  F_ServingEnd_placeOf_l2 S0 4096 a0 p1 (0 : Int32)
def F_ServingEnd_memoryFor_j90 (v0 : Nat) (S0 : fw_S) : Option ((Option Nat) × fw_S) :=
    (fw_let ((fw_g S0 v0 2) - (1 : Int32)) (fun x6 =>
  (if x6 < 0 then
  (some (none, S0))
  else
  (fw_om (fw_r S0 v0 1) none (fun b7 =>
  (if (nI (fw_l S0 b7)) ≤ x6 then
  (some (none, S0))
  else
  (fw_om (fw_r S0 v0 1) none (fun b8 =>
  (if x6 < 0 ∨ fw_l S0 b8 ≤ x6.toNatClampNeg then none else
  (fw_let (fw_wr S0 b8 x6.toNatClampNeg none) (fun S10 =>
  (some (none, S10)))))))))))))
def F_ServingEnd_memoryFor_l45 : Nat → Nat → Int32 → fw_S → Option ((Option Nat) × fw_S)
  | 0, _, _, _ => none
  | n + 1, v0, v4, S0 =>
    (if (fw_g S0 v0 2) ≤ (v4 + (1 : Int32)) then
  F_ServingEnd_memoryFor_j90 v0 S0
  else
  (fw_om (fw_r S0 v0 1) none (fun b11 =>
  (if (nI (fw_l S0 b11)) ≤ (v4 + (1 : Int32)) then
  F_ServingEnd_memoryFor_j90 v0 S0
  else
  (fw_om (fw_r S0 v0 1) ((fw_om (fw_r S0 v0 1) none (fun b13 =>
  (if (v4 + (1 : Int32)) < 0 ∨ fw_l S0 b13 ≤ (v4 + (1 : Int32)).toNatClampNeg then none else
  (fw_om (fw_r S0 b13 (v4 + (1 : Int32)).toNatClampNeg) none (fun b15 =>
  none)))))) (fun b12 =>
  (fw_om (fw_r S0 v0 1) none (fun b16 =>
  (if (v4 + (1 : Int32)) < 0 ∨ fw_l S0 b16 ≤ (v4 + (1 : Int32)).toNatClampNeg then none else
  (fw_om (fw_r S0 b16 (v4 + (1 : Int32)).toNatClampNeg) ((if v4 < 0 ∨ fw_l S0 b12 ≤ v4.toNatClampNeg then none else
  (fw_let (fw_wr S0 b12 v4.toNatClampNeg none) (fun S20 =>
  F_ServingEnd_memoryFor_l45 n v0 (v4 + (1 : Int32)) S20)))) (fun b18 =>
  (if v4 < 0 ∨ fw_l S0 b12 ≤ v4.toNatClampNeg then none else
  (fw_let (fw_wr S0 b12 v4.toNatClampNeg (some b18)) (fun S22 =>
  F_ServingEnd_memoryFor_l45 n v0 (v4 + (1 : Int32)) S22))))))))))))))
def F_ServingEnd_memoryFor_j90x (v0 : Nat) (v3 : Nat) (S0 : fw_S) : Option ((Option Nat) × fw_S) :=
    (fw_let ((fw_g S0 v0 2) - (1 : Int32)) (fun x23 =>
  (if x23 < 0 then
  (some ((some v3), S0))
  else
  (fw_om (fw_r S0 v0 1) none (fun b24 =>
  (if (nI (fw_l S0 b24)) ≤ x23 then
  (some ((some v3), S0))
  else
  (fw_om (fw_r S0 v0 1) none (fun b25 =>
  (if x23 < 0 ∨ fw_l S0 b25 ≤ x23.toNatClampNeg then none else
  (fw_let (fw_wr S0 b25 x23.toNatClampNeg (some v3)) (fun S27 =>
  (some ((some v3), S27)))))))))))))
def F_ServingEnd_memoryFor_l45x : Nat → Nat → Nat → Int32 → fw_S → Option ((Option Nat) × fw_S)
  | 0, _, _, _, _ => none
  | n + 1, v0, v3, v4, S0 =>
    (if (fw_g S0 v0 2) ≤ (v4 + (1 : Int32)) then
  F_ServingEnd_memoryFor_j90x v0 v3 S0
  else
  (fw_om (fw_r S0 v0 1) none (fun b28 =>
  (if (nI (fw_l S0 b28)) ≤ (v4 + (1 : Int32)) then
  F_ServingEnd_memoryFor_j90x v0 v3 S0
  else
  (fw_om (fw_r S0 v0 1) ((fw_om (fw_r S0 v0 1) none (fun b30 =>
  (if (v4 + (1 : Int32)) < 0 ∨ fw_l S0 b30 ≤ (v4 + (1 : Int32)).toNatClampNeg then none else
  (fw_om (fw_r S0 b30 (v4 + (1 : Int32)).toNatClampNeg) none (fun b32 =>
  none)))))) (fun b29 =>
  (fw_om (fw_r S0 v0 1) none (fun b33 =>
  (if (v4 + (1 : Int32)) < 0 ∨ fw_l S0 b33 ≤ (v4 + (1 : Int32)).toNatClampNeg then none else
  (fw_om (fw_r S0 b33 (v4 + (1 : Int32)).toNatClampNeg) ((if v4 < 0 ∨ fw_l S0 b29 ≤ v4.toNatClampNeg then none else
  (fw_let (fw_wr S0 b29 v4.toNatClampNeg none) (fun S37 =>
  F_ServingEnd_memoryFor_l45x n v0 v3 (v4 + (1 : Int32)) S37)))) (fun b35 =>
  (if v4 < 0 ∨ fw_l S0 b29 ≤ v4.toNatClampNeg then none else
  (fw_let (fw_wr S0 b29 v4.toNatClampNeg (some b35)) (fun S39 =>
  F_ServingEnd_memoryFor_l45x n v0 v3 (v4 + (1 : Int32)) S39))))))))))))))
def F_ServingEnd_memoryFor (a0 : Nat) (p1 : Int32) (S0 : fw_S) : Option ((Option Nat) × fw_S) :=
  (Option.bind (F_ServingEnd_placeOf a0 p1 S0) (fun x1 =>
  (if 0 ≤ x1 then
  (Option.bind (F_ServingEnd_memoryAt a0 x1 S0) (fun o3 =>
  (fw_om o3 (F_ServingEnd_memoryFor_l45 4096 a0 x1 S0) (fun b5 =>
  F_ServingEnd_memoryFor_l45x 4096 a0 b5 x1 S0))))
  else
  (if (8 : Int32) ≤ (fw_g S0 a0 2) then
  (Option.bind (F_ServingEnd_memoryAt a0 (0 : Int32) S0) (fun o40 =>
  (fw_om o40 (F_ServingEnd_memoryFor_l45 4096 a0 (0 : Int32) S0) (fun b42 =>
  F_ServingEnd_memoryFor_l45x 4096 a0 b42 (0 : Int32) S0))))
  else
  (fw_let (fw_g S0 a0 2) (fun x43 =>
  (fw_let (fw_wi S0 a0 2 ((fw_g S0 a0 2) + (1 : Int32))) (fun S44 =>
  (Option.bind (F_ServingEnd_memoryAt a0 x43 S44) (fun o45 =>
  (fw_om o45 (F_ServingEnd_memoryFor_l45 4096 a0 x43 S44) (fun b47 =>
  F_ServingEnd_memoryFor_l45x 4096 a0 b47 x43 S44))))))))))))
def F_ServingEnd_remember_l50 (k39 : Nat → Nat → Nat → Int32 → fw_S → Option (fw_S)) : Nat → Nat → Nat → Nat → Int32 → Int32 → fw_S → Option (fw_S)
  | 0, _, _, _, _, _, _ => none
  | n + 1, v0, v1, v2, v3, v4, S0 =>
    (fw_om (fw_r S0 v0 0) none (fun b9 =>
  (if (fw_g S0 b9 2) ≤ v4 then
  k39 v0 v1 v2 (v3 + (1 : Int32)) S0
  else
  (fw_om (fw_r S0 v0 0) none (fun b10 =>
  (Option.bind (F_Pairs_keyAt b10 v4 S0) (fun x11 =>
  (Option.bind (F_Frame_byteAt v2 v3 S0) (fun x13 =>
  (if x11 = x13 then
  (fw_om (fw_r S0 v1 3) ((fw_om (fw_r S0 v0 0) none (fun b16 =>
  (Option.bind (F_Pairs_keyAt b16 v4 S0) (fun x17 =>
  (fw_om (fw_r S0 v0 0) none (fun b19 =>
  (Option.bind (F_Pairs_valueAt b19 v4 S0) (fun x20 =>
  none))))))))) (fun b15 =>
  (fw_om (fw_r S0 v0 0) none (fun b22 =>
  (Option.bind (F_Pairs_keyAt b22 v4 S0) (fun x23 =>
  (fw_om (fw_r S0 v0 0) none (fun b25 =>
  (Option.bind (F_Pairs_valueAt b25 v4 S0) (fun x26 =>
  (fw_b2 (F_Pairs_add b15 x23 x26 S0) (fun x29 S28 =>
  F_ServingEnd_remember_l50 k39 n v0 v1 v2 v3 (v4 + (1 : Int32)) S28))))))))))))
  else
  F_ServingEnd_remember_l50 k39 n v0 v1 v2 v3 (v4 + (1 : Int32)) S0))))))))))
def F_ServingEnd_remember_l39 : Nat → Nat → Nat → Nat → Int32 → fw_S → Option (fw_S)
  | 0, _, _, _, _, _ => none
  | n + 1, v0, v1, v2, v3, S0 =>
    (if (fw_g S0 v2 2) ≤ v3 then
  (some S0)
  else
  F_ServingEnd_remember_l50 (F_ServingEnd_remember_l39 n) 4096 v0 v1 v2 v3 (0 : Int32) S0)
def F_ServingEnd_remember (a0 : Nat) (p1 : Nat) (p2 : Nat) (S0 : fw_S) : Option (fw_S) :=
  (fw_let (fw_wi S0 p1 0 (fw_g S0 p2 1)) (fun S1 =>
  (Option.bind (F_Frame_byteAt p2 (0 : Int32) S1) (fun x2 =>
  (fw_let (fw_wi S1 p1 1 x2) (fun S4 =>
  (fw_let (fw_wi S4 p1 2 (fw_g S4 p1 1)) (fun S5 =>
  (fw_om (fw_r S5 p1 3) none (fun b6 =>
  (Option.bind (F_Pairs_clear b6 S5) (fun S7 =>
  F_ServingEnd_remember_l39 4096 a0 p1 p2 (1 : Int32) S7))))))))))))
def F_ServingEnd_writeRows_l68 : Nat → Nat → Nat → Int32 → Int32 → fw_S → Option (fw_S)
  | 0, _, _, _, _, _ => none
  | n + 1, v0, v1, v4, v5, S0 =>
    (if v4 ≤ v5 then
  (some S0)
  else
  (fw_om (fw_r S0 v0 4) ((fw_om (fw_r S0 v1 3) none (fun b15 =>
  (Option.bind (F_Pairs_keyAt b15 v5 S0) (fun x16 =>
  none))))) (fun b14 =>
  (fw_om (fw_r S0 v1 3) none (fun b18 =>
  (Option.bind (F_Pairs_keyAt b18 v5 S0) (fun x19 =>
  (Option.bind (F_Frame_put b14 x19 S0) (fun S21 =>
  (fw_om (fw_r S21 v0 4) ((fw_om (fw_r S21 v1 3) none (fun b24 =>
  (Option.bind (F_Pairs_valueAt b24 v5 S21) (fun x25 =>
  none))))) (fun b23 =>
  (fw_om (fw_r S21 v1 3) none (fun b27 =>
  (Option.bind (F_Pairs_valueAt b27 v5 S21) (fun x28 =>
  (Option.bind (F_Frame_put b23 x28 S21) (fun S30 =>
  F_ServingEnd_writeRows_l68 n v0 v1 v4 (v5 + (1 : Int32)) S30)))))))))))))))))
def F_ServingEnd_writeRows (a0 : Nat) (p1 : Nat) (p2 : Int32) (p3 : Int32) (S0 : fw_S) : Option (fw_S) :=
  (fw_om (fw_r S0 p1 3) none (fun b1 =>
  (fw_let (if (fw_g S0 b1 2) < (p3 + (8 : Int32)) then (fw_g S0 b1 2) else (p3 + (8 : Int32))) (fun x2 =>
  (fw_om (fw_r S0 a0 4) none (fun b3 =>
  (Option.bind (F_Frame_begin b3 (2 : Int32) (fw_g S0 p1 0) S0) (fun S4 =>
  (fw_om (fw_r S4 a0 4) none (fun b6 =>
  (Option.bind (F_Frame_put b6 p2 S4) (fun S7 =>
  (fw_om (fw_r S7 a0 4) ((fw_om (fw_r S7 p1 3) none (fun b10 =>
  (if (fw_g S7 b10 2) ≤ x2 then
  none
  else
  none)))) (fun b9 =>
  (fw_om (fw_r S7 p1 3) none (fun b11 =>
  (if (fw_g S7 b11 2) ≤ x2 then
  (Option.bind (F_Frame_put b9 (0 : Int32) S7) (fun S12 =>
  F_ServingEnd_writeRows_l68 4096 a0 p1 x2 p3 S12))
  else
  (Option.bind (F_Frame_put b9 (1 : Int32) S7) (fun S32 =>
  F_ServingEnd_writeRows_l68 4096 a0 p1 x2 p3 S32)))))))))))))))))))
def F_ServingEnd_answerAsk_j42 (v0 : Nat) (v1 : Nat) (S0 : fw_S) : Option (fw_S) :=
    (fw_b2 (F_ServingEnd_memoryFor v0 (fw_g S0 v1 1) S0) (fun o7 S6 =>
  (fw_om o7 none (fun b9 =>
  (Option.bind (F_ServingEnd_remember v0 b9 v1 S6) (fun S10 =>
  (Option.bind (F_Frame_byteAt v1 (0 : Int32) S10) (fun x12 =>
  (Option.bind (F_ServingEnd_writeRows v0 b9 x12 (0 : Int32) S10) (fun S14 =>
  (some S14)))))))))))
def F_ServingEnd_answerAsk (a0 : Nat) (p1 : Nat) (S0 : fw_S) : Option (fw_S) :=
  (Option.bind (F_ServingEnd_placeOf a0 (fw_g S0 p1 1) S0) (fun x1 =>
  (Option.bind (F_ServingEnd_memoryAt a0 x1 S0) (fun o3 =>
  (fw_om o3 (F_ServingEnd_answerAsk_j42 a0 p1 S0) (fun b5 =>
  (Option.bind (F_Frame_byteAt p1 (0 : Int32) S0) (fun x16 =>
  (if (fw_g S0 b5 1) = x16 then
  (fw_let (fw_wi S0 a0 3 ((fw_g S0 a0 3) + (1 : Int32))) (fun S18 =>
  (Option.bind (F_Frame_byteAt p1 (0 : Int32) S18) (fun x19 =>
  (Option.bind (F_ServingEnd_writeRows a0 b5 x19 (0 : Int32) S18) (fun S21 =>
  (some S21)))))))
  else
  F_ServingEnd_answerAsk_j42 a0 p1 S0)))))))))
def F_ServingEnd_answerMore_j64 (v0 : Nat) (v1 : Nat) (v3 : Int32) (S0 : fw_S) : Option (fw_S) :=
    (fw_om (fw_r S0 v0 4) none (fun b10 =>
  (Option.bind (F_Frame_begin b10 (4 : Int32) (fw_g S0 v1 1) S0) (fun S11 =>
  (fw_om (fw_r S11 v0 4) none (fun b13 =>
  (Option.bind (F_Frame_put b13 v3 S11) (fun S14 =>
  (some S14)))))))))
def F_ServingEnd_answerMore (a0 : Nat) (p1 : Nat) (S0 : fw_S) : Option (fw_S) :=
  (Option.bind (F_ServingEnd_placeOf a0 (fw_g S0 p1 1) S0) (fun x1 =>
  (Option.bind (F_ServingEnd_memoryAt a0 x1 S0) (fun o3 =>
  (fw_om o3 ((Option.bind (F_Frame_byteAt p1 (0 : Int32) S0) (fun x6 =>
  (Option.bind (F_Frame_byteAt p1 (1 : Int32) S0) (fun x8 =>
  F_ServingEnd_answerMore_j64 a0 p1 x6 S0))))) (fun b5 =>
  (Option.bind (F_Frame_byteAt p1 (0 : Int32) S0) (fun x16 =>
  (Option.bind (F_Frame_byteAt p1 (1 : Int32) S0) (fun x18 =>
  (fw_om (fw_r S0 b5 3) none (fun b20 =>
  (if (fw_g S0 b20 2) < x18 then
  F_ServingEnd_answerMore_j64 a0 p1 x16 S0
  else
  (if x16 = (fw_g S0 b5 2) then
  (fw_let (fw_wi S0 b5 2 x16) (fun S21 =>
  (Option.bind (F_ServingEnd_writeRows a0 b5 x16 x18 S21) (fun S22 =>
  (some S22)))))
  else
  (if x16 = (((fw_g S0 b5 2) + (1 : Int32)) &&& (255 : Int32)) then
  (fw_let (fw_wi S0 b5 2 x16) (fun S24 =>
  (Option.bind (F_ServingEnd_writeRows a0 b5 x16 x18 S24) (fun S25 =>
  (some S25)))))
  else
  F_ServingEnd_answerMore_j64 a0 p1 x16 S0)))))))))))))))
def F_Wire_init (a0 : Nat) (p1 : Int32) (S0 : fw_S) : Option (fw_S) :=
  (fw_let (fw_z S0) (fun b2 => (fw_let (fw_nw S0 (300 : Int32).toNatClampNeg) (fun S1 =>
  (fw_let (fw_wr S1 a0 1 (some b2)) (fun S4 =>
  (fw_let (fw_wi S4 a0 2 (0 : Int32)) (fun S5 =>
  (fw_let (fw_wi S5 a0 3 (0 : Int32)) (fun S6 =>
  (fw_let (fw_z S6) (fun b8 => (fw_let (fw_nw S6 0) (fun S7 =>
  (Option.bind (F_Frame_init b8 S7) (fun S10 =>
  (fw_let (fw_wr S10 a0 4 (some b8)) (fun S12 =>
  (fw_let (fw_wi S12 a0 5 (0 : Int32)) (fun S13 =>
  (fw_let (fw_wi S13 a0 6 (0 : Int32)) (fun S14 =>
  (if p1 = 0 ∨ p1 = 1 then
  (fw_let (fw_wi S14 a0 0 p1) (fun S16 =>
  (some S16)))
  else none)))))))))))))))))))))))
def F_Wire_clearOut (a0 : Nat) (S0 : fw_S) : Option (fw_S) :=
  (fw_let (fw_wi S0 a0 2 (0 : Int32)) (fun S1 =>
  (fw_let (fw_wi S1 a0 3 (0 : Int32)) (fun S2 =>
  (some S2)))))
def F_Wire_end (a0 : Nat) (S0 : fw_S) : Option (fw_S) :=
  (fw_let (fw_wi S0 a0 0 (0 : Int32)) (fun S1 =>
  (fw_let (fw_wi S1 a0 5 (0 : Int32)) (fun S2 =>
  (Option.bind (F_Wire_clearOut a0 S2) (fun S3 =>
  (some S3)))))))
def F_Wire_push (a0 : Nat) (p1 : Int32) (S0 : fw_S) : Option (fw_S) :=
  (fw_let (((fw_g S0 a0 2) + (fw_g S0 a0 3)) - ((fw_g S0 a0 2) + (fw_g S0 a0 3)) / (300 : Int32) * (300 : Int32)) (fun x1 =>
  (if (300 : Int32) ≤ (fw_g S0 a0 3) then
  (some S0)
  else
  (if x1 < 0 then
  (some S0)
  else
  (fw_om (fw_r S0 a0 1) none (fun b2 =>
  (if (nI (fw_l S0 b2)) ≤ x1 then
  (some S0)
  else
  (fw_om (fw_r S0 a0 1) none (fun b3 =>
  (if x1 < 0 ∨ fw_l S0 b3 ≤ x1.toNatClampNeg then none else
  (fw_let (fw_wi S0 b3 x1.toNatClampNeg p1) (fun S5 =>
  (fw_let (fw_wi S5 a0 3 ((fw_g S5 a0 3) + (1 : Int32))) (fun S6 =>
  (some S6)))))))))))))))
def F_Wire_send_l60 : Nat → Nat → Nat → Int32 → fw_S → Option (Int32 × fw_S)
  | 0, _, _, _, _ => none
  | n + 1, v0, v1, v2, S0 =>
    (if (fw_g S0 v1 2) ≤ v2 then
  (Option.bind (F_Frame_sum v1 S0) (fun x9 =>
  (Option.bind (F_Wire_push v0 x9 S0) (fun S11 =>
  (some ((1 : Int32), S11))))))
  else
  (Option.bind (F_Frame_byteAt v1 v2 S0) (fun x13 =>
  (Option.bind (F_Wire_push v0 x13 S0) (fun S15 =>
  F_Wire_send_l60 n v0 v1 (v2 + (1 : Int32)) S15)))))
def F_Wire_send (a0 : Nat) (p1 : Nat) (S0 : fw_S) : Option (Int32 × fw_S) :=
  (if (fw_g S0 a0 0) = 0 then
  (some ((0 : Int32), S0))
  else
  (if ((((fw_g S0 a0 3) + (4 : Int32)) + (fw_g S0 p1 2)) + (1 : Int32)) ≤ (300 : Int32) then
  (Option.bind (F_Wire_push a0 (126 : Int32) S0) (fun S1 =>
  (Option.bind (F_Wire_push a0 (fw_g S1 p1 0) S1) (fun S3 =>
  (Option.bind (F_Wire_push a0 (fw_g S3 p1 1) S3) (fun S5 =>
  (Option.bind (F_Wire_push a0 (fw_g S5 p1 2) S5) (fun S7 =>
  F_Wire_send_l60 4096 a0 p1 (0 : Int32) S7))))))))
  else
  (some ((0 : Int32), S0))))
def F_Wire_takeFirst (a0 : Nat) (S0 : fw_S) : Option (Int32 × fw_S) :=
  (if (fw_g S0 a0 3) ≤ 0 then
  (some ((-2 : Int32), S0))
  else
  (if (fw_g S0 a0 2) < 0 then
  (some ((-2 : Int32), S0))
  else
  (fw_om (fw_r S0 a0 1) none (fun b1 =>
  (if (fw_g S0 a0 2) < (nI (fw_l S0 b1)) then
  (fw_om (fw_r S0 a0 1) none (fun b2 =>
  (if (fw_g S0 a0 2) < 0 ∨ fw_l S0 b2 ≤ (fw_g S0 a0 2).toNatClampNeg then none else
  (fw_let (fw_g S0 b2 (fw_g S0 a0 2).toNatClampNeg) (fun x4 =>
  (fw_let (fw_wi S0 a0 2 (((fw_g S0 a0 2) + (1 : Int32)) - ((fw_g S0 a0 2) + (1 : Int32)) / (300 : Int32) * (300 : Int32))) (fun S5 =>
  (fw_let (fw_wi S5 a0 3 ((fw_g S5 a0 3) - (1 : Int32))) (fun S6 =>
  (some (x4, S6)))))))))))
  else
  (some ((-2 : Int32), S0)))))))
def F_Wire_lengthSuits (a0 : Nat) (p1 : Int32) (S0 : fw_S) : Option (Int32) :=
  (fw_om (fw_r S0 a0 4) none (fun b1 =>
  (if (fw_g S0 b1 0) = (1 : Int32) then
  (if p1 < (2 : Int32) then
  (some (0 : Int32))
  else
  (if (9 : Int32) < p1 then
  (some (0 : Int32))
  else
  (some (1 : Int32))))
  else
  (if (fw_g S0 b1 0) = (2 : Int32) then
  (if p1 < (2 : Int32) then
  (some (0 : Int32))
  else
  (if (18 : Int32) < p1 then
  (some (0 : Int32))
  else
  (if (p1 &&& (1 : Int32)) = 0 then
  (some (1 : Int32))
  else
  (some (0 : Int32)))))
  else
  (if (fw_g S0 b1 0) = (3 : Int32) then
  (if p1 = (2 : Int32) then
  (some (1 : Int32))
  else
  (some (0 : Int32)))
  else
  (if (fw_g S0 b1 0) = (4 : Int32) then
  (if p1 = (1 : Int32) then
  (some (1 : Int32))
  else
  (some (0 : Int32)))
  else
  (some (0 : Int32))))))))
def F_Wire_suits (a0 : Nat) (p1 : Int32) (S0 : fw_S) : Option (Int32) :=
  (if (fw_g S0 a0 5) = (0 : Int32) then
  (if p1 = (126 : Int32) then
  (some (1 : Int32))
  else
  (some (0 : Int32)))
  else
  (if (fw_g S0 a0 5) = (1 : Int32) then
  (if p1 < (1 : Int32) then
  (some (0 : Int32))
  else
  (if (4 : Int32) < p1 then
  (some (0 : Int32))
  else
  (some (1 : Int32))))
  else
  (if (fw_g S0 a0 5) = (2 : Int32) then
  (some (1 : Int32))
  else
  (if (fw_g S0 a0 5) = (3 : Int32) then
  (Option.bind (F_Wire_lengthSuits a0 p1 S0) (fun x1 =>
  (if x1 = 0 ∨ x1 = 1 then some x1 else none)))
  else
  (if (fw_g S0 a0 5) = ((4 : Int32) + (fw_g S0 a0 6)) then
  (fw_om (fw_r S0 a0 4) none (fun b5 =>
  (Option.bind (F_Frame_sum b5 S0) (fun x6 =>
  (if p1 = x6 then
  (some (1 : Int32))
  else
  (some (0 : Int32)))))))
  else
  (fw_om (fw_r S0 a0 4) none (fun b4 =>
  (if (fw_g S0 b4 0) = (2 : Int32) then
  (if (fw_g S0 a0 5) = (5 : Int32) then
  (if (1 : Int32) < p1 then
  (some (0 : Int32))
  else
  (some (1 : Int32)))
  else
  (some (1 : Int32)))
  else
  (some (1 : Int32))))))))))
def F_Wire_keep (a0 : Nat) (p1 : Int32) (S0 : fw_S) : Option (fw_S) :=
  (if (fw_g S0 a0 5) = (0 : Int32) then
  (fw_let (fw_wi S0 a0 6 (0 : Int32)) (fun S1 =>
  (some S1)))
  else
  (if (fw_g S0 a0 5) = (1 : Int32) then
  (fw_om (fw_r S0 a0 4) none (fun b2 =>
  (Option.bind (F_Frame_begin b2 p1 (0 : Int32) S0) (fun S3 =>
  (some S3)))))
  else
  (if (fw_g S0 a0 5) = (2 : Int32) then
  (fw_om (fw_r S0 a0 4) none (fun b5 =>
  (fw_let (fw_wi S0 b5 1 p1) (fun S6 =>
  (some S6)))))
  else
  (if (fw_g S0 a0 5) = (3 : Int32) then
  (fw_let (fw_wi S0 a0 6 p1) (fun S7 =>
  (some S7)))
  else
  (if ((4 : Int32) + (fw_g S0 a0 6)) ≤ (fw_g S0 a0 5) then
  (some S0)
  else
  (fw_om (fw_r S0 a0 4) none (fun b8 =>
  (Option.bind (F_Frame_put b8 p1 S0) (fun S9 =>
  (some S9))))))))))
def F_Wire_accept (a0 : Nat) (p1 : Int32) (S0 : fw_S) : Option (Int32 × fw_S) :=
  (Option.bind (F_Wire_suits a0 p1 S0) (fun x1 =>
  (if x1 = 0 then
  (some ((-10 : Int32), S0))
  else
  (Option.bind (F_Wire_keep a0 p1 S0) (fun S3 =>
  (fw_let (fw_wi S3 a0 5 ((fw_g S3 a0 5) + (1 : Int32))) (fun S5 =>
  (if ((4 : Int32) + (fw_g S5 a0 6)) < (fw_g S5 a0 5) then
  (fw_let (fw_wi S5 a0 5 (0 : Int32)) (fun S6 =>
  (some ((1 : Int32), S6))))
  else
  (some ((0 : Int32), S5))))))))))
set_option maxRecDepth 100000 in
def F_FW_init (a0 : Nat) (S0 : fw_S) : Option (fw_S) :=
  (fw_let (fw_z S0) (fun b2 => (fw_let (fw_nw S0 (5 : Int32).toNatClampNeg) (fun S1 =>
  (fw_let (fw_wr S1 a0 0 (some b2)) (fun S4 =>
  (fw_let (fw_z S4) (fun b6 => (fw_let (fw_nw S4 (24 : Int32).toNatClampNeg) (fun S5 =>
  (fw_let (fw_wr S5 a0 1 (some b6)) (fun S8 =>
  (fw_let (fw_wi S8 a0 2 (0 : Int32)) (fun S9 =>
  (fw_let (fw_z S9) (fun b11 => (fw_let (fw_nw S9 0) (fun S10 =>
  (Option.bind (F_Pairs_init b11 (20 : Int32) S10) (fun S13 =>
  (fw_let (fw_wr S13 a0 3 (some b11)) (fun S15 =>
  (fw_let (fw_z S15) (fun b17 => (fw_let (fw_nw S15 0) (fun S16 =>
  (Option.bind (F_ServingEnd_init b17 S16) (fun S19 =>
  (fw_let (fw_wr S19 a0 4 (some b17)) (fun S21 =>
  (fw_let (fw_z S21) (fun b23 => (fw_let (fw_nw S21 (4 : Int32).toNatClampNeg) (fun S22 =>
  (fw_let (fw_wr S22 a0 5 (some b23)) (fun S25 =>
  (fw_let (fw_z S25) (fun b27 => (fw_let (fw_nw S25 (4 : Int32).toNatClampNeg) (fun S26 =>
  (fw_let (fw_wr S26 a0 6 (some b27)) (fun S29 =>
  (fw_let (fw_wi S29 a0 7 (4 : Int32)) (fun S30 =>
  (fw_let (fw_wi S30 a0 8 (10 : Int32)) (fun S31 =>
  (fw_let (fw_wi S31 a0 9 (2 : Int32)) (fun S32 =>
  (fw_let (fw_wi S32 a0 10 (0 : Int32)) (fun S33 =>
  (fw_let (fw_wi S33 a0 11 (0 : Int32)) (fun S34 =>
  (fw_let (fw_wi S34 a0 12 (0 : Int32)) (fun S35 =>
  (fw_om (fw_r S35 a0 0) ((fw_let (fw_z S35) (fun b38 => (fw_let (fw_nw S35 0) (fun S37 =>
  (Option.bind (F_Wire_init b38 (0 : Int32) S37) (fun S40 =>
  none))))))) (fun b36 =>
  (fw_let (fw_z S35) (fun b43 => (fw_let (fw_nw S35 0) (fun S42 =>
  (Option.bind (F_Wire_init b43 (0 : Int32) S42) (fun S45 =>
  (if (0 : Int32) < 0 ∨ fw_l S45 b36 ≤ (0 : Int32).toNatClampNeg then none else
  (fw_let (fw_wr S45 b36 (0 : Int32).toNatClampNeg (some b43)) (fun S48 =>
  (fw_om (fw_r S48 a0 0) ((fw_let (fw_z S48) (fun b51 => (fw_let (fw_nw S48 0) (fun S50 =>
  (Option.bind (F_Wire_init b51 (0 : Int32) S50) (fun S53 =>
  none))))))) (fun b49 =>
  (fw_let (fw_z S48) (fun b56 => (fw_let (fw_nw S48 0) (fun S55 =>
  (Option.bind (F_Wire_init b56 (0 : Int32) S55) (fun S58 =>
  (if (1 : Int32) < 0 ∨ fw_l S58 b49 ≤ (1 : Int32).toNatClampNeg then none else
  (fw_let (fw_wr S58 b49 (1 : Int32).toNatClampNeg (some b56)) (fun S61 =>
  (fw_om (fw_r S61 a0 0) ((fw_let (fw_z S61) (fun b64 => (fw_let (fw_nw S61 0) (fun S63 =>
  (Option.bind (F_Wire_init b64 (0 : Int32) S63) (fun S66 =>
  none))))))) (fun b62 =>
  (fw_let (fw_z S61) (fun b69 => (fw_let (fw_nw S61 0) (fun S68 =>
  (Option.bind (F_Wire_init b69 (0 : Int32) S68) (fun S71 =>
  (if (2 : Int32) < 0 ∨ fw_l S71 b62 ≤ (2 : Int32).toNatClampNeg then none else
  (fw_let (fw_wr S71 b62 (2 : Int32).toNatClampNeg (some b69)) (fun S74 =>
  (fw_om (fw_r S74 a0 0) ((fw_let (fw_z S74) (fun b77 => (fw_let (fw_nw S74 0) (fun S76 =>
  (Option.bind (F_Wire_init b77 (0 : Int32) S76) (fun S79 =>
  none))))))) (fun b75 =>
  (fw_let (fw_z S74) (fun b82 => (fw_let (fw_nw S74 0) (fun S81 =>
  (Option.bind (F_Wire_init b82 (0 : Int32) S81) (fun S84 =>
  (if (3 : Int32) < 0 ∨ fw_l S84 b75 ≤ (3 : Int32).toNatClampNeg then none else
  (fw_let (fw_wr S84 b75 (3 : Int32).toNatClampNeg (some b82)) (fun S87 =>
  (fw_om (fw_r S87 a0 0) ((fw_let (fw_z S87) (fun b90 => (fw_let (fw_nw S87 0) (fun S89 =>
  (Option.bind (F_Wire_init b90 (1 : Int32) S89) (fun S92 =>
  none))))))) (fun b88 =>
  (fw_let (fw_z S87) (fun b95 => (fw_let (fw_nw S87 0) (fun S94 =>
  (Option.bind (F_Wire_init b95 (1 : Int32) S94) (fun S97 =>
  (if (4 : Int32) < 0 ∨ fw_l S97 b88 ≤ (4 : Int32).toNatClampNeg then none else
  (fw_let (fw_wr S97 b88 (4 : Int32).toNatClampNeg (some b95)) (fun S100 =>
  (fw_om (fw_r S100 a0 5) none (fun b101 =>
  (if (0 : Int32) < 0 ∨ fw_l S100 b101 ≤ (0 : Int32).toNatClampNeg then none else
  (fw_let (fw_wi S100 b101 (0 : Int32).toNatClampNeg (1000 : Int32)) (fun S103 =>
  (fw_om (fw_r S103 a0 5) none (fun b104 =>
  (if (1 : Int32) < 0 ∨ fw_l S103 b104 ≤ (1 : Int32).toNatClampNeg then none else
  (fw_let (fw_wi S103 b104 (1 : Int32).toNatClampNeg (1000 : Int32)) (fun S106 =>
  (fw_om (fw_r S106 a0 5) none (fun b107 =>
  (if (2 : Int32) < 0 ∨ fw_l S106 b107 ≤ (2 : Int32).toNatClampNeg then none else
  (fw_let (fw_wi S106 b107 (2 : Int32).toNatClampNeg (1000 : Int32)) (fun S109 =>
  (fw_om (fw_r S109 a0 5) none (fun b110 =>
  (if (3 : Int32) < 0 ∨ fw_l S109 b110 ≤ (3 : Int32).toNatClampNeg then none else
  (fw_let (fw_wi S109 b110 (3 : Int32).toNatClampNeg (1000 : Int32)) (fun S112 =>
  (some S112))))))))))))))))))))))))))))))))))))))))))))))))))))))))))))))))))))))))))))))))))))))))))))))))))))))))))))))))))))))))))))))))))
def F_FW_wireAt (a0 : Nat) (p1 : Int32) (S0 : fw_S) : Option (Option Nat) :=
  (if p1 < 0 then
  (some none)
  else
  (fw_om (fw_r S0 a0 0) none (fun b1 =>
  (if (nI (fw_l S0 b1)) ≤ p1 then
  (some none)
  else
  (fw_om (fw_r S0 a0 0) none (fun b2 =>
  (if p1 < 0 ∨ fw_l S0 b2 ≤ p1.toNatClampNeg then none else
  (fw_om (fw_r S0 b2 p1.toNatClampNeg) (some none) (fun b4 =>
  (some (some b4)))))))))))
def F_FW_houseWire (a0 : Nat) (p1 : Int32) (S0 : fw_S) : Option (Option Nat) :=
  (if (4 : Int32) ≤ p1 then
  (some none)
  else
  (Option.bind (F_FW_wireAt a0 p1 S0) (fun o1 =>
  (fw_om o1 (some none) (fun b3 =>
  (some (some b3)))))))
def F_FW_requestAt (a0 : Nat) (p1 : Int32) (S0 : fw_S) : Option (Option Nat) :=
  (if p1 < 0 then
  (some none)
  else
  (if (fw_g S0 a0 2) ≤ p1 then
  (some none)
  else
  (fw_om (fw_r S0 a0 1) none (fun b1 =>
  (if (nI (fw_l S0 b1)) ≤ p1 then
  (some none)
  else
  (fw_om (fw_r S0 a0 1) none (fun b2 =>
  (if p1 < 0 ∨ fw_l S0 b2 ≤ p1.toNatClampNeg then none else
  (fw_om (fw_r S0 b2 p1.toNatClampNeg) (some none) (fun b4 =>
  (some (some b4))))))))))))
def F_FW_send (a0 : Nat) (p1 : Nat) (p2 : Nat) (S0 : fw_S) : Option (Int32 × fw_S) :=
  (fw_b2 (F_Wire_send p2 p1 S0) (fun x2 S1 =>
  (if x2 = 0 then
  (fw_let (fw_wi S1 a0 12 ((fw_g S1 a0 12) + (1 : Int32))) (fun S5 =>
  (if x2 = 0 ∨ x2 = 1 then some (x2, S5) else none)))
  else
  (if x2 = 0 ∨ x2 = 1 then some (x2, S1) else none))))
def F_FW_sendFirst (a0 : Nat) (p1 : Nat) (p2 : Nat) (S0 : fw_S) : Option (Int32 × fw_S) :=
  (fw_let (fw_wi S0 p1 12 (fw_g S0 a0 10)) (fun S1 =>
  (fw_let (fw_wi S1 p1 13 (0 : Int32)) (fun S2 =>
  (fw_om (fw_r S2 p1 9) none (fun b3 =>
  (fw_b2 (F_FW_send a0 b3 p2 S2) (fun x5 S4 =>
  (if x5 = 0 ∨ x5 = 1 then some (x5, S4) else none)))))))))
def F_FW_up_l32 : Nat → Nat → Int32 → Nat → Int32 → Int32 → fw_S → Option (Int32 × fw_S)
  | 0, _, _, _, _, _, _ => none
  | n + 1, v0, v1, v2, v3, v4, S0 =>
    (if (fw_g S0 v0 2) ≤ v4 then
  (some (v3, S0))
  else
  (Option.bind (F_FW_requestAt v0 v4 S0) (fun o5 =>
  (fw_om o5 (F_FW_up_l32 n v0 v1 v2 v3 (v4 + (1 : Int32)) S0) (fun b7 =>
  (if (fw_g S0 b7 0) = v1 then
  (if (fw_g S0 b7 14) = 0 then
  (fw_b2 (F_FW_sendFirst v0 b7 v2 S0) (fun x9 S8 =>
  (if x9 = 0 then
  F_FW_up_l32 n v0 v1 v2 v3 (v4 + (1 : Int32)) S8
  else
  F_FW_up_l32 n v0 v1 v2 (v3 + (1 : Int32)) (v4 + (1 : Int32)) S8)))
  else
  F_FW_up_l32 n v0 v1 v2 v3 (v4 + (1 : Int32)) S0)
  else
  F_FW_up_l32 n v0 v1 v2 v3 (v4 + (1 : Int32)) S0))))))
def F_FW_up (a0 : Nat) (p1 : Int32) (S0 : fw_S) : Option (Int32 × fw_S) :=
  (Option.bind (F_FW_houseWire a0 p1 S0) (fun o1 =>
  (fw_om o1 (some ((-1 : Int32), S0)) (fun b3 =>
  (if (fw_g S0 b3 0) = 0 then
  (fw_let (fw_wi S0 b3 0 (1 : Int32)) (fun S4 =>
  F_FW_up_l32 4096 a0 p1 b3 (0 : Int32) (0 : Int32) S4))
  else
  (some ((-2 : Int32), S0)))))))
def F_FW_down (a0 : Nat) (p1 : Int32) (S0 : fw_S) : Option (Int32 × fw_S) :=
  (Option.bind (F_FW_houseWire a0 p1 S0) (fun o1 =>
  (fw_om o1 (some ((-1 : Int32), S0)) (fun b3 =>
  (if (fw_g S0 b3 0) = 0 then
  (some ((-2 : Int32), S0))
  else
  (Option.bind (F_Wire_end b3 S0) (fun S4 =>
  (some ((1 : Int32), S4)))))))))
def F_FW_setting_j57 (v0 : Nat) (v1 : Int32) (v2 : Int32) (S0 : fw_S) : Option (Int32 × fw_S) :=
    (if v1 = (2 : Int32) then
  (if v2 < 0 then
  (some ((-1 : Int32), S0))
  else
  (if (5 : Int32) < v2 then
  (some ((-1 : Int32), S0))
  else
  (fw_let (fw_g S0 v0 9) (fun x1 =>
  (fw_let (fw_wi S0 v0 9 v2) (fun S2 =>
  (some (x1, S2))))))))
  else
  (some ((-1 : Int32), S0)))
def F_FW_setting_j28 (v0 : Nat) (v1 : Int32) (v2 : Int32) (S0 : fw_S) : Option (Int32 × fw_S) :=
    (if v1 = (1 : Int32) then
  (if v2 < (1 : Int32) then
  F_FW_setting_j57 v0 v1 v2 S0
  else
  (if (100 : Int32) < v2 then
  F_FW_setting_j57 v0 v1 v2 S0
  else
  (fw_let (fw_g S0 v0 8) (fun x3 =>
  (fw_let (fw_wi S0 v0 8 v2) (fun S4 =>
  (some (x3, S4))))))))
  else
  F_FW_setting_j57 v0 v1 v2 S0)
def F_FW_setting (a0 : Nat) (p1 : Int32) (p2 : Int32) (S0 : fw_S) : Option (Int32 × fw_S) :=
  (if p1 = 0 then
  (if p2 < (1 : Int32) then
  F_FW_setting_j28 a0 p1 p2 S0
  else
  (if (8 : Int32) < p2 then
  F_FW_setting_j28 a0 p1 p2 S0
  else
  (fw_let (fw_g S0 a0 7) (fun x5 =>
  (fw_let (fw_wi S0 a0 7 p2) (fun S6 =>
  (some (x5, S6))))))))
  else
  F_FW_setting_j28 a0 p1 p2 S0)
def F_FW_isByte (p0 : Int32) (S0 : fw_S) : Option (Int32) :=
  (if p0 < 0 then
  (some (0 : Int32))
  else
  (if (255 : Int32) < p0 then
  (some (0 : Int32))
  else
  (some (1 : Int32))))
def F_FW_bind (a0 : Nat) (p1 : Int32) (p2 : Int32) (S0 : fw_S) : Option (Int32 × fw_S) :=
  (Option.bind (F_FW_isByte p1 S0) (fun x1 =>
  (if x1 = 0 then
  (some ((-1 : Int32), S0))
  else
  (fw_om (fw_r S0 a0 3) none (fun b3 =>
  (fw_b2 (F_Pairs_add b3 p1 p2 S0) (fun x5 S4 =>
  (if x5 = 0 then
  (some ((-3 : Int32), S4))
  else
  (fw_om (fw_r S4 a0 3) none (fun b7 =>
  (some ((fw_g S4 b7 2), S4))))))))))))
def F_FW_ask (a0 : Nat) (p1 : Int32) (p2 : Int32) (S0 : fw_S) : Option (Int32 × fw_S) :=
  (Option.bind (F_FW_houseWire a0 p1 S0) (fun o1 =>
  (fw_om o1 (some ((-1 : Int32), S0)) (fun b3 =>
  (fw_let (fw_g S0 a0 2) (fun x4 =>
  (if x4 < 0 then
  (some ((-3 : Int32), S0))
  else
  (fw_om (fw_r S0 a0 1) none (fun b5 =>
  (if x4 < (nI (fw_l S0 b5)) then
  (fw_let (fw_z S0) (fun b7 => (fw_let (fw_nw S0 0) (fun S6 =>
  (fw_om (fw_r S6 a0 3) none (fun b9 =>
  (Option.bind (F_Request_init b7 x4 p1 p2 (fw_g S6 a0 7) b9 S6) (fun S10 =>
  (fw_om (fw_r S10 a0 3) none (fun b12 =>
  (Option.bind (F_Pairs_clear b12 S10) (fun S13 =>
  (fw_om (fw_r S13 a0 1) none (fun b15 =>
  (if x4 < 0 ∨ fw_l S13 b15 ≤ x4.toNatClampNeg then none else
  (fw_let (fw_wr S13 b15 x4.toNatClampNeg (some b7)) (fun S17 =>
  (fw_let (fw_wi S17 a0 2 ((fw_g S17 a0 2) + (1 : Int32))) (fun S18 =>
  (Option.bind (F_Request_hasKeysLeft b7 S18) (fun x19 =>
  (if x19 = 0 then
  (fw_let (fw_wi S18 b7 14 (1 : Int32)) (fun S21 =>
  (some (x4, S21))))
  else
  (Option.bind (F_Request_writeAsk b7 S18) (fun S22 =>
  (fw_b2 (F_FW_sendFirst a0 b7 b3 S22) (fun x25 S24 =>
  (some (x4, S24))))))))))))))))))))))))))))
  else
  (some ((-3 : Int32), S0))))))))))))
def F_FW_serve (a0 : Nat) (p1 : Nat) (p2 : Nat) (S0 : fw_S) : Option (Int32 × fw_S) :=
  (if (fw_g S0 p1 0) = (1 : Int32) then
  (fw_om (fw_r S0 a0 4) none (fun b9 =>
  (Option.bind (F_ServingEnd_answerAsk b9 p1 S0) (fun S10 =>
  (fw_om (fw_r S10 a0 4) none (fun b12 =>
  (fw_om (fw_r S10 b12 4) none (fun b13 =>
  (fw_b2 (F_FW_send a0 b13 p2 S10) (fun x15 S14 =>
  (some ((1 : Int32), S14))))))))))))
  else
  (if (fw_g S0 p1 0) = (3 : Int32) then
  (fw_om (fw_r S0 a0 4) none (fun b1 =>
  (Option.bind (F_ServingEnd_answerMore b1 p1 S0) (fun S2 =>
  (fw_om (fw_r S2 a0 4) none (fun b4 =>
  (fw_om (fw_r S2 b4 4) none (fun b5 =>
  (fw_b2 (F_FW_send a0 b5 p2 S2) (fun x7 S6 =>
  (some ((1 : Int32), S6))))))))))))
  else
  (some ((0 : Int32), S0))))
def F_FW_learn (a0 : Nat) (p1 : Nat) (S0 : fw_S) : Option (fw_S) :=
  (fw_let (fw_g S0 p1 0) (fun x1 =>
  (if (fw_g S0 p1 5) ≤ 0 then
  (some S0)
  else
  (if x1 < 0 then
  (some S0)
  else
  (fw_om (fw_r S0 a0 5) none (fun b2 =>
  (if (nI (fw_l S0 b2)) ≤ x1 then
  (some S0)
  else
  (fw_om (fw_r S0 a0 6) none (fun b3 =>
  (if x1 < (nI (fw_l S0 b3)) then
  (fw_om (fw_r S0 p1 7) none (fun b4 =>
  (if (fw_g S0 p1 5) = 0 then none else
  (fw_let (((fw_g S0 b4 2) * (1000 : Int32)) / (fw_g S0 p1 5)) (fun x6 =>
  (fw_om (fw_r S0 a0 5) ((fw_om (fw_r S0 a0 6) none (fun b8 =>
  (if x1 < 0 ∨ fw_l S0 b8 ≤ x1.toNatClampNeg then none else
  (if (fw_g S0 b8 x1.toNatClampNeg) = 0 then
  none
  else
  (fw_om (fw_r S0 a0 5) none (fun b10 =>
  (if x1 < 0 ∨ fw_l S0 b10 ≤ x1.toNatClampNeg then none else
  none)))))))) (fun b7 =>
  (fw_om (fw_r S0 a0 6) none (fun b12 =>
  (if x1 < 0 ∨ fw_l S0 b12 ≤ x1.toNatClampNeg then none else
  (if (fw_g S0 b12 x1.toNatClampNeg) = 0 then
  (if x1 < 0 ∨ fw_l S0 b7 ≤ x1.toNatClampNeg then none else
  (fw_let (fw_wi S0 b7 x1.toNatClampNeg x6) (fun S15 =>
  (fw_om (fw_r S15 a0 6) none (fun b16 =>
  (if x1 < 0 ∨ fw_l S15 b16 ≤ x1.toNatClampNeg then none else
  (fw_let (fw_wi S15 b16 x1.toNatClampNeg (1 : Int32)) (fun S18 =>
  (some S18)))))))))
  else
  (fw_om (fw_r S0 a0 5) none (fun b19 =>
  (if x1 < 0 ∨ fw_l S0 b19 ≤ x1.toNatClampNeg then none else
  (if x1 < 0 ∨ fw_l S0 b7 ≤ x1.toNatClampNeg then none else
  (fw_let (fw_wi S0 b7 x1.toNatClampNeg (((fw_g S0 b19 x1.toNatClampNeg) + x6) / (2 : Int32))) (fun S22 =>
  (fw_om (fw_r S22 a0 6) none (fun b23 =>
  (if x1 < 0 ∨ fw_l S22 b23 ≤ x1.toNatClampNeg then none else
  (fw_let (fw_wi S22 b23 x1.toNatClampNeg (1 : Int32)) (fun S25 =>
  (some S25)))))))))))))))))))))))
  else
  (some S0)))))))))))
def F_FW_hear (a0 : Nat) (p1 : Nat) (p2 : Int32) (p3 : Nat) (S0 : fw_S) : Option (Int32 × fw_S) :=
  (Option.bind (F_FW_requestAt a0 (fw_g S0 p1 1) S0) (fun o1 =>
  (fw_om o1 (some ((0 : Int32), S0)) (fun b3 =>
  (Option.bind (F_Request_waitsFor b3 p1 p2 S0) (fun x4 =>
  (if x4 = 0 then
  (some ((0 : Int32), S0))
  else
  (if (fw_g S0 p1 0) = (4 : Int32) then
  (Option.bind (F_Request_fail b3 (3 : Int32) S0) (fun S25 =>
  (some ((1 : Int32), S25))))
  else
  (Option.bind (F_Request_takeRows b3 p1 S0) (fun S6 =>
  (Option.bind (F_Frame_byteAt p1 (1 : Int32) S6) (fun x8 =>
  (if x8 = (1 : Int32) then
  (Option.bind (F_Request_writeMore b3 S6) (fun S20 =>
  (fw_b2 (F_FW_sendFirst a0 b3 p3 S20) (fun x23 S22 =>
  (some ((1 : Int32), S22))))))
  else
  (Option.bind (F_Request_hasKeysLeft b3 S6) (fun x10 =>
  (if x10 = 0 then
  (fw_let (fw_wi S6 b3 14 (1 : Int32)) (fun S12 =>
  (Option.bind (F_FW_learn a0 b3 S12) (fun S13 =>
  (some ((1 : Int32), S13))))))
  else
  (Option.bind (F_Request_writeAsk b3 S6) (fun S15 =>
  (fw_b2 (F_FW_sendFirst a0 b3 p3 S15) (fun x18 S17 =>
  (some ((1 : Int32), S17))))))))))))))))))))))
def F_FW_take_j69 (v0 : Nat) (v5 : Nat) (s0 : Int32) (S0 : fw_S) : Option (Int32 × fw_S) :=
    (if s0 = 0 then
  (fw_let (fw_wi S0 v0 11 ((fw_g S0 v0 11) + (1 : Int32))) (fun S8 =>
  (some (((fw_g S8 v5 0) + (10 : Int32)), S8))))
  else
  (some ((fw_g S0 v5 0), S0)))
def F_FW_take_j31 (v0 : Nat) (v1 : Int32) (v2 : Nat) (v4 : Int32) (S0 : fw_S) : Option (Int32 × fw_S) :=
    (if v4 = (1 : Int32) then
  (fw_om (fw_r S0 v2 4) ((if v1 = (4 : Int32) then
  none
  else
  none)) (fun b4 =>
  (if v1 = (4 : Int32) then
  (fw_b2 (F_FW_serve v0 b4 v2 S0) (fun x10 S9 =>
  F_FW_take_j69 v0 b4 x10 S9))
  else
  (fw_b2 (F_FW_hear v0 b4 v1 v2 S0) (fun x6 S5 =>
  F_FW_take_j69 v0 b4 x6 S5)))))
  else
  (some (v4, S0)))
def F_FW_take (a0 : Nat) (p1 : Int32) (p2 : Nat) (p3 : Int32) (S0 : fw_S) : Option (Int32 × fw_S) :=
  (fw_b2 (F_Wire_accept p2 p3 S0) (fun x2 S1 =>
  (if x2 = (-10 : Int32) then
  (if p1 = (4 : Int32) then
  (fw_let (fw_wi S1 p2 5 (0 : Int32)) (fun S14 =>
  F_FW_take_j31 a0 p1 p2 x2 S14))
  else
  (Option.bind (F_Wire_end p2 S1) (fun S12 =>
  F_FW_take_j31 a0 p1 p2 x2 S12)))
  else
  F_FW_take_j31 a0 p1 p2 x2 S1)))
def F_FW_octet (a0 : Nat) (p1 : Int32) (p2 : Int32) (S0 : fw_S) : Option (Int32 × fw_S) :=
  (Option.bind (F_FW_wireAt a0 p1 S0) (fun o1 =>
  (fw_om o1 (some ((-1 : Int32), S0)) (fun b3 =>
  (if (fw_g S0 b3 0) = 0 then
  (some ((-2 : Int32), S0))
  else
  (fw_b2 (F_FW_take a0 p1 b3 (p2 &&& (255 : Int32)) S0) (fun x5 S4 =>
  (some (x5, S4)))))))))
def F_FW_out (a0 : Nat) (p1 : Int32) (S0 : fw_S) : Option (Int32 × fw_S) :=
  (Option.bind (F_FW_wireAt a0 p1 S0) (fun o1 =>
  (fw_om o1 (some ((-1 : Int32), S0)) (fun b3 =>
  (fw_b2 (F_Wire_takeFirst b3 S0) (fun x5 S4 =>
  (some (x5, S4))))))))
def F_FW_loop_l86 : Nat → Nat → Int32 → Nat → Nat → Int32 → Int32 → fw_S → Option (Int32 × fw_S)
  | 0, _, _, _, _, _, _, _ => none
  | n + 1, v0, v1, v3, v4, v6, v7, S0 =>
    (if v6 ≤ v7 then
  (Option.bind (F_Wire_clearOut v4 S0) (fun S12 =>
  (some (v7, S12))))
  else
  (if (fw_g S0 v3 0) = 0 then
  (Option.bind (F_Wire_clearOut v4 S0) (fun S14 =>
  (some (v7, S14))))
  else
  (fw_b2 (F_Wire_takeFirst v4 S0) (fun x17 S16 =>
  (fw_b2 (F_FW_take v0 v1 v3 x17 S16) (fun x20 S19 =>
  F_FW_loop_l86 n v0 v1 v3 v4 v6 (v7 + (1 : Int32)) S19))))))
def F_FW_loop_l51 : Nat → Nat → Int32 → Nat → Nat → Int32 → Int32 → fw_S → Option (Int32 × fw_S)
  | 0, _, _, _, _, _, _, _ => none
  | n + 1, v0, v1, v3, v4, v5, v6, S0 =>
    (if v5 ≤ v6 then
  (fw_let (fw_g S0 v4 3) (fun x11 =>
  F_FW_loop_l86 4096 v0 v1 v3 v4 x11 (0 : Int32) S0))
  else
  (fw_b2 (F_Wire_takeFirst v3 S0) (fun x23 S22 =>
  (fw_b2 (F_FW_take v0 (4 : Int32) v4 x23 S22) (fun x26 S25 =>
  F_FW_loop_l51 n v0 v1 v3 v4 v5 (v6 + (1 : Int32)) S25)))))
def F_FW_loop (a0 : Nat) (p1 : Int32) (p2 : Int32) (S0 : fw_S) : Option (Int32 × fw_S) :=
  (Option.bind (F_FW_houseWire a0 p1 S0) (fun o1 =>
  (fw_om o1 ((Option.bind (F_FW_wireAt a0 (4 : Int32) S0) (fun o4 =>
  (fw_om o4 (some ((-1 : Int32), S0)) (fun b6 =>
  (some ((-1 : Int32), S0))))))) (fun b3 =>
  (Option.bind (F_FW_wireAt a0 (4 : Int32) S0) (fun o7 =>
  (fw_om o7 (some ((-1 : Int32), S0)) (fun b9 =>
  (if 0 ≤ p2 then
  (if (fw_g S0 b3 0) = 0 then
  (some ((-2 : Int32), S0))
  else
  (fw_let (if (fw_g S0 b3 3) < p2 then (fw_g S0 b3 3) else p2) (fun x10 =>
  F_FW_loop_l51 4096 a0 p1 b3 b9 x10 (0 : Int32) S0)))
  else
  (some ((-1 : Int32), S0)))))))))))
def F_FW_earliestDue_l5 (S0 : fw_S) : Nat → Nat → Int32 → Int32 → Option (Int32)
  | 0, _, _, _ => none
  | n + 1, v0, v1, v2 =>
    (if (fw_g S0 v0 2) ≤ v2 then
  (some v1)
  else
  (Option.bind (F_FW_requestAt v0 v2 S0) (fun o1 =>
  (fw_om o1 (F_FW_earliestDue_l5 S0 n v0 v1 (v2 + (1 : Int32))) (fun b3 =>
  (if (fw_g S0 b3 14) = 0 then
  (fw_let (if ((fw_g S0 b3 12) + (fw_g S0 v0 8)) < v1 then ((fw_g S0 b3 12) + (fw_g S0 v0 8)) else v1) (fun x4 =>
  F_FW_earliestDue_l5 S0 n v0 x4 (v2 + (1 : Int32))))
  else
  F_FW_earliestDue_l5 S0 n v0 v1 (v2 + (1 : Int32))))))))
def F_FW_earliestDue (a0 : Nat) (S0 : fw_S) : Option (Int32) :=
  F_FW_earliestDue_l5 S0 4096 a0 (2147483647 : Int32) (0 : Int32)
def F_FW_repeat (a0 : Nat) (p1 : Nat) (S0 : fw_S) : Option (fw_S) :=
  (Option.bind (F_FW_houseWire a0 (fw_g S0 p1 0) S0) (fun o1 =>
  (fw_om o1 (some S0) (fun b3 =>
  (fw_let (fw_wi S0 p1 12 (fw_g S0 a0 10)) (fun S4 =>
  (fw_let (fw_wi S4 p1 13 ((fw_g S4 p1 13) + (1 : Int32))) (fun S5 =>
  (fw_om (fw_r S5 p1 9) none (fun b6 =>
  (fw_b2 (F_FW_send a0 b6 b3 S5) (fun x8 S7 =>
  (some S7)))))))))))))
def F_FW_settleDue_l4 : Nat → Nat → Int32 → Int32 → fw_S → Option (Int32 × fw_S)
  | 0, _, _, _, _ => none
  | n + 1, v0, v1, v2, S0 =>
    (if (fw_g S0 v0 2) ≤ v2 then
  (some (v1, S0))
  else
  (Option.bind (F_FW_requestAt v0 v2 S0) (fun o1 =>
  (fw_om o1 (F_FW_settleDue_l4 n v0 v1 (v2 + (1 : Int32)) S0) (fun b3 =>
  (if (fw_g S0 b3 14) = 0 then
  (if (fw_g S0 v0 8) ≤ ((fw_g S0 v0 10) - (fw_g S0 b3 12)) then
  (if (fw_g S0 b3 13) < (fw_g S0 v0 9) then
  (Option.bind (F_FW_repeat v0 b3 S0) (fun S4 =>
  F_FW_settleDue_l4 n v0 v1 (v2 + (1 : Int32)) S4))
  else
  (Option.bind (F_Request_fail b3 (1 : Int32) S0) (fun S6 =>
  F_FW_settleDue_l4 n v0 (v1 + (1 : Int32)) (v2 + (1 : Int32)) S6)))
  else
  F_FW_settleDue_l4 n v0 v1 (v2 + (1 : Int32)) S0)
  else
  F_FW_settleDue_l4 n v0 v1 (v2 + (1 : Int32)) S0))))))
def F_FW_settleDue (a0 : Nat) (S0 : fw_S) : Option (Int32 × fw_S) :=
  F_FW_settleDue_l4 4096 a0 (0 : Int32) (0 : Int32) S0
def F_FW_tick_l23 : Nat → Nat → Int32 → Int32 → Int32 → Int32 → fw_S → Option (Int32 × fw_S)
  | 0, _, _, _, _, _, _ => none
  | n + 1, v0, v1, v2, v3, v4, S0 =>
    (if v1 ≤ v4 then
  (some (v2, S0))
  else
  (fw_let (fw_wi S0 v0 10 ((fw_g S0 v0 10) + (1 : Int32))) (fun S3 =>
  (if (fw_g S3 v0 10) < v3 then
  F_FW_tick_l23 n v0 v1 v2 v3 (v4 + (1 : Int32)) S3
  else
  (fw_b2 (F_FW_settleDue v0 S3) (fun x5 S4 =>
  (fw_let (v2 + x5) (fun x7 =>
  (Option.bind (F_FW_earliestDue v0 S4) (fun x8 =>
  F_FW_tick_l23 n v0 v1 x7 x8 (v4 + (1 : Int32)) S4))))))))))
def F_FW_tick (a0 : Nat) (p1 : Int32) (S0 : fw_S) : Option (Int32 × fw_S) :=
  (if p1 < 0 then
  (some ((-1 : Int32), S0))
  else
  (if p1 ≤ (1000 : Int32) then
  (Option.bind (F_FW_earliestDue a0 S0) (fun x1 =>
  F_FW_tick_l23 4096 a0 p1 (0 : Int32) x1 (0 : Int32) S0))
  else
  (some ((-1 : Int32), S0))))
def F_FW_told (a0 : Nat) (p1 : Int32) (p2 : Int32) (S0 : fw_S) : Option (Int32) :=
  (Option.bind (F_FW_requestAt a0 p1 S0) (fun o1 =>
  (fw_om o1 (some (-1 : Int32)) (fun b3 =>
  (if p2 = (0 : Int32) then
  (some (fw_g S0 b3 0))
  else
  (if p2 = (1 : Int32) then
  (some (fw_g S0 b3 14))
  else
  (if p2 = (2 : Int32) then
  (some (fw_g S0 b3 15))
  else
  (if p2 = (3 : Int32) then
  (fw_om (fw_r S0 b3 7) none (fun b4 =>
  (some (fw_g S0 b4 2))))
  else
  (if p2 = (4 : Int32) then
  (Option.bind (F_Request_joinedSize b3 S0) (fun x5 =>
  (some x5)))
  else
  (if p2 = (5 : Int32) then
  (some (fw_g S0 b3 11))
  else
  (if p2 = (6 : Int32) then
  (some (fw_g S0 b3 13))
  else
  (if p2 = (7 : Int32) then
  (some (fw_g S0 b3 5))
  else
  (some (-1 : Int32))))))))))))))
def F_FW_row (a0 : Nat) (p1 : Int32) (p2 : Int32) (p3 : Int32) (S0 : fw_S) : Option (Int32) :=
  (Option.bind (F_FW_requestAt a0 p1 S0) (fun o1 =>
  (fw_om o1 (some (-1 : Int32)) (fun b3 =>
  (if p3 < 0 then
  (some (-1 : Int32))
  else
  (if p3 ≤ (1 : Int32) then
  (if p2 < 0 then
  (some (-2 : Int32))
  else
  (fw_om (fw_r S0 b3 7) none (fun b4 =>
  (if p2 < (fw_g S0 b4 2) then
  (if p3 = 0 then
  (fw_om (fw_r S0 b3 7) none (fun b8 =>
  (Option.bind (F_Pairs_keyAt b8 p2 S0) (fun x9 =>
  (some x9)))))
  else
  (fw_om (fw_r S0 b3 7) none (fun b5 =>
  (Option.bind (F_Pairs_valueAt b5 p2 S0) (fun x6 =>
  (some x6))))))
  else
  (some (-2 : Int32))))))
  else
  (some (-1 : Int32))))))))
def F_FW_joined (a0 : Nat) (p1 : Int32) (p2 : Int32) (p3 : Int32) (S0 : fw_S) : Option (Int32) :=
  (Option.bind (F_FW_requestAt a0 p1 S0) (fun o1 =>
  (fw_om o1 (some (-1 : Int32)) (fun b3 =>
  (if p3 < 0 then
  (some (-1 : Int32))
  else
  (if p3 ≤ (1 : Int32) then
  (if p2 < 0 then
  (some (-2 : Int32))
  else
  (if (fw_g S0 b3 14) = (1 : Int32) then
  (if p3 = 0 then
  (Option.bind (F_Request_joinedPart b3 p2 (1 : Int32) S0) (fun x6 =>
  (some x6)))
  else
  (Option.bind (F_Request_joinedPart b3 p2 (0 : Int32) S0) (fun x4 =>
  (some x4))))
  else
  (some (-2 : Int32))))
  else
  (some (-1 : Int32))))))))
def F_FW_estimate (a0 : Nat) (p1 : Int32) (S0 : fw_S) : Option (Int32) :=
  (if p1 < 0 then
  (some (-1 : Int32))
  else
  (fw_om (fw_r S0 a0 5) none (fun b1 =>
  (if p1 < (nI (fw_l S0 b1)) then
  (fw_om (fw_r S0 a0 5) none (fun b2 =>
  (if p1 < 0 ∨ fw_l S0 b2 ≤ p1.toNatClampNeg then none else
  (some (fw_g S0 b2 p1.toNatClampNeg)))))
  else
  (some (-1 : Int32))))))
def F_FW_fact (a0 : Nat) (p1 : Int32) (p2 : Int32) (S0 : fw_S) : Option (Int32 × fw_S) :=
  (Option.bind (F_FW_isByte p1 S0) (fun x1 =>
  (if x1 = 0 then
  (some ((-1 : Int32), S0))
  else
  (Option.bind (F_FW_isByte p2 S0) (fun x3 =>
  (if x3 = 0 then
  (some ((-1 : Int32), S0))
  else
  (fw_om (fw_r S0 a0 4) none (fun b5 =>
  (fw_om (fw_r S0 b5 0) none (fun b6 =>
  (fw_b2 (F_Pairs_add b6 p1 p2 S0) (fun x8 S7 =>
  (if x8 = 0 then
  (some ((-3 : Int32), S7))
  else
  (fw_om (fw_r S7 a0 4) none (fun b10 =>
  (fw_om (fw_r S7 b10 0) none (fun b11 =>
  (some ((fw_g S7 b11 2), S7)))))))))))))))))))
def F_FW_count (a0 : Nat) (p1 : Int32) (S0 : fw_S) : Option (Int32) :=
  (if p1 = (0 : Int32) then
  (some (fw_g S0 a0 2))
  else
  (if p1 = (1 : Int32) then
  (fw_om (fw_r S0 a0 4) none (fun b1 =>
  (fw_om (fw_r S0 b1 0) none (fun b2 =>
  (some (fw_g S0 b2 2))))))
  else
  (if p1 = (2 : Int32) then
  (fw_om (fw_r S0 a0 3) none (fun b3 =>
  (some (fw_g S0 b3 2))))
  else
  (if p1 = (3 : Int32) then
  (some (fw_g S0 a0 10))
  else
  (if p1 = (4 : Int32) then
  (some (fw_g S0 a0 11))
  else
  (if p1 = (5 : Int32) then
  (some (fw_g S0 a0 12))
  else
  (if p1 = (6 : Int32) then
  (fw_om (fw_r S0 a0 4) none (fun b4 =>
  (some (fw_g S0 b4 3))))
  else
  (if p1 = (7 : Int32) then
  (fw_om (fw_r S0 a0 4) none (fun b5 =>
  (some (fw_g S0 b5 2))))
  else
  (some (-1 : Int32))))))))))
def F_FW_line (a0 : Nat) (p1 : Int32) (p2 : Int32) (S0 : fw_S) : Option (Int32) :=
  (Option.bind (F_FW_wireAt a0 p1 S0) (fun o1 =>
  (fw_om o1 (some (-1 : Int32)) (fun b3 =>
  (if p2 = (0 : Int32) then
  (if (fw_g S0 b3 0) = 0 then
  (some (0 : Int32))
  else
  (some (1 : Int32)))
  else
  (if p2 = (1 : Int32) then
  (some (fw_g S0 b3 3))
  else
  (if p2 = (2 : Int32) then
  (some (fw_g S0 b3 5))
  else
  (some (-1 : Int32)))))))))
set_option maxRecDepth 100000 in
def F_Mo_init (a0 : Nat) (S0 : fw_S) : Option (fw_S) :=
  (fw_let (fw_z S0) (fun b2 => (fw_let (fw_nw S0 (5 : Int32).toNatClampNeg) (fun S1 =>
  (fw_let (fw_wr S1 a0 0 (some b2)) (fun S4 =>
  (fw_let (fw_z S4) (fun b6 => (fw_let (fw_nw S4 (1500 : Int32).toNatClampNeg) (fun S5 =>
  (fw_let (fw_wr S5 a0 1 (some b6)) (fun S8 =>
  (fw_let (fw_z S8) (fun b10 => (fw_let (fw_nw S8 (5 : Int32).toNatClampNeg) (fun S9 =>
  (fw_let (fw_wr S9 a0 2 (some b10)) (fun S12 =>
  (fw_let (fw_z S12) (fun b14 => (fw_let (fw_nw S12 (150 : Int32).toNatClampNeg) (fun S13 =>
  (fw_let (fw_wr S13 a0 3 (some b14)) (fun S16 =>
  (fw_let (fw_z S16) (fun b18 => (fw_let (fw_nw S16 (5 : Int32).toNatClampNeg) (fun S17 =>
  (fw_let (fw_wr S17 a0 4 (some b18)) (fun S20 =>
  (fw_let (fw_wi S20 a0 5 (4 : Int32)) (fun S21 =>
  (fw_let (fw_wi S21 a0 6 (10 : Int32)) (fun S22 =>
  (fw_let (fw_wi S22 a0 7 (2 : Int32)) (fun S23 =>
  (fw_let (fw_z S23) (fun b25 => (fw_let (fw_nw S23 (20 : Int32).toNatClampNeg) (fun S24 =>
  (fw_let (fw_wr S24 a0 12 (some b25)) (fun S27 =>
  (fw_let (fw_z S27) (fun b29 => (fw_let (fw_nw S27 (20 : Int32).toNatClampNeg) (fun S28 =>
  (fw_let (fw_wr S28 a0 13 (some b29)) (fun S31 =>
  (fw_let (fw_z S31) (fun b33 => (fw_let (fw_nw S31 (24 : Int32).toNatClampNeg) (fun S32 =>
  (fw_let (fw_wr S32 a0 15 (some b33)) (fun S35 =>
  (fw_let (fw_z S35) (fun b37 => (fw_let (fw_nw S35 (24 : Int32).toNatClampNeg) (fun S36 =>
  (fw_let (fw_wr S36 a0 16 (some b37)) (fun S39 =>
  (fw_let (fw_z S39) (fun b41 => (fw_let (fw_nw S39 (24 : Int32).toNatClampNeg) (fun S40 =>
  (fw_let (fw_wr S40 a0 17 (some b41)) (fun S43 =>
  (fw_let (fw_z S43) (fun b45 => (fw_let (fw_nw S43 (24 : Int32).toNatClampNeg) (fun S44 =>
  (fw_let (fw_wr S44 a0 18 (some b45)) (fun S47 =>
  (fw_let (fw_z S47) (fun b49 => (fw_let (fw_nw S47 (24 : Int32).toNatClampNeg) (fun S48 =>
  (fw_let (fw_wr S48 a0 19 (some b49)) (fun S51 =>
  (fw_let (fw_z S51) (fun b53 => (fw_let (fw_nw S51 (480 : Int32).toNatClampNeg) (fun S52 =>
  (fw_let (fw_wr S52 a0 20 (some b53)) (fun S55 =>
  (fw_let (fw_z S55) (fun b57 => (fw_let (fw_nw S55 (480 : Int32).toNatClampNeg) (fun S56 =>
  (fw_let (fw_wr S56 a0 21 (some b57)) (fun S59 =>
  (fw_let (fw_z S59) (fun b61 => (fw_let (fw_nw S59 (24 : Int32).toNatClampNeg) (fun S60 =>
  (fw_let (fw_wr S60 a0 22 (some b61)) (fun S63 =>
  (fw_let (fw_z S63) (fun b65 => (fw_let (fw_nw S63 (480 : Int32).toNatClampNeg) (fun S64 =>
  (fw_let (fw_wr S64 a0 23 (some b65)) (fun S67 =>
  (fw_let (fw_z S67) (fun b69 => (fw_let (fw_nw S67 (24 : Int32).toNatClampNeg) (fun S68 =>
  (fw_let (fw_wr S68 a0 24 (some b69)) (fun S71 =>
  (fw_let (fw_z S71) (fun b73 => (fw_let (fw_nw S71 (24 : Int32).toNatClampNeg) (fun S72 =>
  (fw_let (fw_wr S72 a0 25 (some b73)) (fun S75 =>
  (fw_let (fw_z S75) (fun b77 => (fw_let (fw_nw S75 (24 : Int32).toNatClampNeg) (fun S76 =>
  (fw_let (fw_wr S76 a0 26 (some b77)) (fun S79 =>
  (fw_let (fw_z S79) (fun b81 => (fw_let (fw_nw S79 (1440 : Int32).toNatClampNeg) (fun S80 =>
  (fw_let (fw_wr S80 a0 27 (some b81)) (fun S83 =>
  (fw_let (fw_z S83) (fun b85 => (fw_let (fw_nw S83 (1440 : Int32).toNatClampNeg) (fun S84 =>
  (fw_let (fw_wr S84 a0 28 (some b85)) (fun S87 =>
  (fw_let (fw_z S87) (fun b89 => (fw_let (fw_nw S87 (24 : Int32).toNatClampNeg) (fun S88 =>
  (fw_let (fw_wr S88 a0 29 (some b89)) (fun S91 =>
  (fw_let (fw_z S91) (fun b93 => (fw_let (fw_nw S91 (24 : Int32).toNatClampNeg) (fun S92 =>
  (fw_let (fw_wr S92 a0 30 (some b93)) (fun S95 =>
  (fw_let (fw_z S95) (fun b97 => (fw_let (fw_nw S95 (24 : Int32).toNatClampNeg) (fun S96 =>
  (fw_let (fw_wr S96 a0 31 (some b97)) (fun S99 =>
  (fw_let (fw_z S99) (fun b101 => (fw_let (fw_nw S99 (24 : Int32).toNatClampNeg) (fun S100 =>
  (fw_let (fw_wr S100 a0 32 (some b101)) (fun S103 =>
  (fw_let (fw_z S103) (fun b105 => (fw_let (fw_nw S103 (24 : Int32).toNatClampNeg) (fun S104 =>
  (fw_let (fw_wr S104 a0 33 (some b105)) (fun S107 =>
  (fw_let (fw_z S107) (fun b109 => (fw_let (fw_nw S107 (24 : Int32).toNatClampNeg) (fun S108 =>
  (fw_let (fw_wr S108 a0 34 (some b109)) (fun S111 =>
  (fw_let (fw_z S111) (fun b113 => (fw_let (fw_nw S111 (480 : Int32).toNatClampNeg) (fun S112 =>
  (fw_let (fw_wr S112 a0 35 (some b113)) (fun S115 =>
  (fw_let (fw_z S115) (fun b117 => (fw_let (fw_nw S115 (4 : Int32).toNatClampNeg) (fun S116 =>
  (if (0 : Int32) < 0 ∨ fw_l S116 b117 ≤ (0 : Int32).toNatClampNeg then none else
  (fw_let (fw_wi S116 b117 (0 : Int32).toNatClampNeg (1000 : Int32)) (fun S120 =>
  (if (1 : Int32) < 0 ∨ fw_l S120 b117 ≤ (1 : Int32).toNatClampNeg then none else
  (fw_let (fw_wi S120 b117 (1 : Int32).toNatClampNeg (1000 : Int32)) (fun S122 =>
  (if (2 : Int32) < 0 ∨ fw_l S122 b117 ≤ (2 : Int32).toNatClampNeg then none else
  (fw_let (fw_wi S122 b117 (2 : Int32).toNatClampNeg (1000 : Int32)) (fun S124 =>
  (if (3 : Int32) < 0 ∨ fw_l S124 b117 ≤ (3 : Int32).toNatClampNeg then none else
  (fw_let (fw_wi S124 b117 (3 : Int32).toNatClampNeg (1000 : Int32)) (fun S126 =>
  (fw_let (fw_wr S126 a0 36 (some b117)) (fun S127 =>
  (fw_let (fw_z S127) (fun b129 => (fw_let (fw_nw S127 (4 : Int32).toNatClampNeg) (fun S128 =>
  (fw_let (fw_wr S128 a0 37 (some b129)) (fun S131 =>
  (fw_let (fw_z S131) (fun b133 => (fw_let (fw_nw S131 (60 : Int32).toNatClampNeg) (fun S132 =>
  (fw_let (fw_wr S132 a0 39 (some b133)) (fun S135 =>
  (fw_let (fw_z S135) (fun b137 => (fw_let (fw_nw S135 (60 : Int32).toNatClampNeg) (fun S136 =>
  (fw_let (fw_wr S136 a0 40 (some b137)) (fun S139 =>
  (fw_let (fw_z S139) (fun b141 => (fw_let (fw_nw S139 (9 : Int32).toNatClampNeg) (fun S140 =>
  (fw_let (fw_wr S140 a0 43 (some b141)) (fun S143 =>
  (fw_let (fw_z S143) (fun b145 => (fw_let (fw_nw S143 (9 : Int32).toNatClampNeg) (fun S144 =>
  (fw_let (fw_wr S144 a0 44 (some b145)) (fun S147 =>
  (fw_let (fw_z S147) (fun b149 => (fw_let (fw_nw S147 (9 : Int32).toNatClampNeg) (fun S148 =>
  (fw_let (fw_wr S148 a0 45 (some b149)) (fun S151 =>
  (fw_let (fw_z S151) (fun b153 => (fw_let (fw_nw S151 (9 : Int32).toNatClampNeg) (fun S152 =>
  (fw_let (fw_wr S152 a0 46 (some b153)) (fun S155 =>
  (fw_let (fw_z S155) (fun b157 => (fw_let (fw_nw S155 (540 : Int32).toNatClampNeg) (fun S156 =>
  (fw_let (fw_wr S156 a0 47 (some b157)) (fun S159 =>
  (fw_let (fw_z S159) (fun b161 => (fw_let (fw_nw S159 (540 : Int32).toNatClampNeg) (fun S160 =>
  (fw_let (fw_wr S160 a0 48 (some b161)) (fun S163 =>
  (fw_let (fw_z S163) (fun b165 => (fw_let (fw_nw S163 (24 : Int32).toNatClampNeg) (fun S164 =>
  (fw_let (fw_wr S164 a0 50 (some b165)) (fun S167 =>
  (fw_om (fw_r S167 a0 0) none (fun b168 =>
  (if (4 : Int32) < 0 ∨ fw_l S167 b168 ≤ (4 : Int32).toNatClampNeg then none else
  (fw_let (fw_wi S167 b168 (4 : Int32).toNatClampNeg (1 : Int32)) (fun S170 =>
  (some S170))))))))))))))))))))))))))))))))))))))))))))))))))))))))))))))))))))))))))))))))))))))))))))))))))))))))))))))))))))))))))))))))))))))))))))))))))))))))))))))))))))))))))))))))))))))))))))))))))))))))))))))))))))))))))))))))))))))))))))))))))))))))))))))))))
def F_Mo_isIn (p0 : Int32) (p1 : Int32) (p2 : Int32) (S0 : fw_S) : Option (Int32) :=
  (if p0 < p1 then
  (some (0 : Int32))
  else
  (if p2 < p0 then
  (some (0 : Int32))
  else
  (some (1 : Int32))))
def F_Mo_send_j155 (v0 : Nat) (v1 : Int32) (v4 : Int32) (v5 : Int32) (S0 : fw_S) : Option (Int32 × fw_S) :=
    (fw_om (fw_r S0 v0 1) none (fun b22 =>
  (if ((v4 + (4 : Int32)) + (fw_g S0 v0 49)) < 0 ∨ fw_l S0 b22 ≤ ((v4 + (4 : Int32)) + (fw_g S0 v0 49)).toNatClampNeg then none else
  (fw_let (fw_wi S0 b22 ((v4 + (4 : Int32)) + (fw_g S0 v0 49)).toNatClampNeg v5) (fun S24 =>
  (fw_om (fw_r S24 v0 2) none (fun b25 =>
  (if v1 < 0 ∨ fw_l S24 b25 ≤ v1.toNatClampNeg then none else
  (if v1 < 0 ∨ fw_l S24 b25 ≤ v1.toNatClampNeg then none else
  (fw_let (fw_wi S24 b25 v1.toNatClampNeg ((fw_g S24 b25 v1.toNatClampNeg) + ((fw_g S24 v0 49) + (5 : Int32)))) (fun S28 =>
  (some ((1 : Int32), S28)))))))))))))
def F_Mo_send_l109 : Nat → Nat → Int32 → Int32 → Int32 → Int32 → fw_S → Option (Int32 × fw_S)
  | 0, _, _, _, _, _, _ => none
  | n + 1, v0, v1, v4, v5, v6, S0 =>
    (if (fw_g S0 v0 49) ≤ v6 then
  F_Mo_send_j155 v0 v1 v4 v5 S0
  else
  (fw_om (fw_r S0 v0 1) ((fw_om (fw_r S0 v0 50) none (fun b30 =>
  (if v6 < 0 ∨ fw_l S0 b30 ≤ v6.toNatClampNeg then none else
  none)))) (fun b29 =>
  (fw_om (fw_r S0 v0 50) none (fun b32 =>
  (if v6 < 0 ∨ fw_l S0 b32 ≤ v6.toNatClampNeg then none else
  (if ((v4 + (4 : Int32)) + v6) < 0 ∨ fw_l S0 b29 ≤ ((v4 + (4 : Int32)) + v6).toNatClampNeg then none else
  (fw_let (fw_wi S0 b29 ((v4 + (4 : Int32)) + v6).toNatClampNeg (fw_g S0 b32 v6.toNatClampNeg)) (fun S35 =>
  (fw_om (fw_r S35 v0 50) none (fun b36 =>
  (if v6 < 0 ∨ fw_l S35 b36 ≤ v6.toNatClampNeg then none else
  (fw_let (v5 ^^^ (fw_g S35 b36 v6.toNatClampNeg)) (fun x38 =>
  F_Mo_send_l109 n v0 v1 v4 x38 (v6 + (1 : Int32)) S35))))))))))))))
def F_Mo_send (a0 : Nat) (p1 : Int32) (p2 : Int32) (p3 : Int32) (S0 : fw_S) : Option (Int32 × fw_S) :=
  (fw_om (fw_r S0 a0 0) none (fun b1 =>
  (if p1 < 0 ∨ fw_l S0 b1 ≤ p1.toNatClampNeg then none else
  (if (fw_g S0 b1 p1.toNatClampNeg) = 0 then
  (fw_let (fw_wi S0 a0 10 ((fw_g S0 a0 10) + (1 : Int32))) (fun S3 =>
  (some ((0 : Int32), S3))))
  else
  (fw_om (fw_r S0 a0 2) none (fun b4 =>
  (if p1 < 0 ∨ fw_l S0 b4 ≤ p1.toNatClampNeg then none else
  (if (((fw_g S0 b4 p1.toNatClampNeg) + (fw_g S0 a0 49)) + (5 : Int32)) ≤ (300 : Int32) then
  (fw_om (fw_r S0 a0 2) none (fun b6 =>
  (if p1 < 0 ∨ fw_l S0 b6 ≤ p1.toNatClampNeg then none else
  (fw_let (((300 : Int32) * p1) + (fw_g S0 b6 p1.toNatClampNeg)) (fun x8 =>
  (fw_let ((p2 ^^^ p3) ^^^ (fw_g S0 a0 49)) (fun x9 =>
  (fw_om (fw_r S0 a0 1) none (fun b10 =>
  (if x8 < 0 ∨ fw_l S0 b10 ≤ x8.toNatClampNeg then none else
  (fw_let (fw_wi S0 b10 x8.toNatClampNeg (126 : Int32)) (fun S12 =>
  (fw_om (fw_r S12 a0 1) none (fun b13 =>
  (if (x8 + (1 : Int32)) < 0 ∨ fw_l S12 b13 ≤ (x8 + (1 : Int32)).toNatClampNeg then none else
  (fw_let (fw_wi S12 b13 (x8 + (1 : Int32)).toNatClampNeg p2) (fun S15 =>
  (fw_om (fw_r S15 a0 1) none (fun b16 =>
  (if (x8 + (2 : Int32)) < 0 ∨ fw_l S15 b16 ≤ (x8 + (2 : Int32)).toNatClampNeg then none else
  (fw_let (fw_wi S15 b16 (x8 + (2 : Int32)).toNatClampNeg p3) (fun S18 =>
  (fw_om (fw_r S18 a0 1) none (fun b19 =>
  (if (x8 + (3 : Int32)) < 0 ∨ fw_l S18 b19 ≤ (x8 + (3 : Int32)).toNatClampNeg then none else
  (fw_let (fw_wi S18 b19 (x8 + (3 : Int32)).toNatClampNeg (fw_g S18 a0 49)) (fun S21 =>
  F_Mo_send_l109 4096 a0 p1 x8 x9 (0 : Int32) S21)))))))))))))))))))))))))))
  else
  (fw_let (fw_wi S0 a0 10 ((fw_g S0 a0 10) + (1 : Int32))) (fun S39 =>
  (some ((0 : Int32), S39))))))))))))
def F_Mo_put (a0 : Nat) (p1 : Int32) (S0 : fw_S) : Option (fw_S) :=
  (fw_om (fw_r S0 a0 50) none (fun b1 =>
  (if (fw_g S0 a0 49) < 0 ∨ fw_l S0 b1 ≤ (fw_g S0 a0 49).toNatClampNeg then none else
  (fw_let (fw_wi S0 b1 (fw_g S0 a0 49).toNatClampNeg (p1 &&& (255 : Int32))) (fun S3 =>
  (fw_let (fw_wi S3 a0 49 ((fw_g S3 a0 49) + (1 : Int32))) (fun S4 =>
  (some S4))))))))
def F_Mo_sendLast_j38 (v0 : Nat) (v1 : Int32) (S0 : fw_S) : Option (Int32 × fw_S) :=
    (fw_om (fw_r S0 v0 32) none (fun b4 =>
  (if v1 < 0 ∨ fw_l S0 b4 ≤ v1.toNatClampNeg then none else
  (fw_let (fw_wi S0 b4 v1.toNatClampNeg (fw_g S0 v0 8)) (fun S6 =>
  (fw_om (fw_r S6 v0 15) none (fun b7 =>
  (if v1 < 0 ∨ fw_l S6 b7 ≤ v1.toNatClampNeg then none else
  (fw_om (fw_r S6 v0 33) none (fun b9 =>
  (if v1 < 0 ∨ fw_l S6 b9 ≤ v1.toNatClampNeg then none else
  (fw_b2 (F_Mo_send v0 (fw_g S6 b7 v1.toNatClampNeg) (fw_g S6 b9 v1.toNatClampNeg) v1 S6) (fun x12 S11 =>
  (if x12 = 0 ∨ x12 = 1 then some (x12, S11) else none))))))))))))))
def F_Mo_sendLast_l7 : Nat → Nat → Int32 → Int32 → fw_S → Option (Int32 × fw_S)
  | 0, _, _, _, _ => none
  | n + 1, v0, v1, v2, S0 =>
    (fw_om (fw_r S0 v0 34) none (fun b2 =>
  (if v1 < 0 ∨ fw_l S0 b2 ≤ v1.toNatClampNeg then none else
  (if (fw_g S0 b2 v1.toNatClampNeg) ≤ v2 then
  F_Mo_sendLast_j38 v0 v1 S0
  else
  (fw_om (fw_r S0 v0 35) none (fun b15 =>
  (if (((20 : Int32) * v1) + v2) < 0 ∨ fw_l S0 b15 ≤ (((20 : Int32) * v1) + v2).toNatClampNeg then none else
  (Option.bind (F_Mo_put v0 (fw_g S0 b15 (((20 : Int32) * v1) + v2).toNatClampNeg) S0) (fun S17 =>
  F_Mo_sendLast_l7 n v0 v1 (v2 + (1 : Int32)) S17)))))))))
def F_Mo_sendLast (a0 : Nat) (p1 : Int32) (S0 : fw_S) : Option (Int32 × fw_S) :=
  (fw_let (fw_wi S0 a0 49 (0 : Int32)) (fun S1 =>
  F_Mo_sendLast_l7 4096 a0 p1 (0 : Int32) S1))
def F_Mo_keep_j50 (v0 : Nat) (v1 : Int32) (S0 : fw_S) : Option (fw_S) :=
    (fw_om (fw_r S0 v0 31) none (fun b7 =>
  (if v1 < 0 ∨ fw_l S0 b7 ≤ v1.toNatClampNeg then none else
  (fw_let (fw_wi S0 b7 v1.toNatClampNeg (0 : Int32)) (fun S9 =>
  (fw_b2 (F_Mo_sendLast v0 v1 S9) (fun x11 S10 =>
  (some S10))))))))
def F_Mo_keep_l19 : Nat → Nat → Int32 → Int32 → fw_S → Option (fw_S)
  | 0, _, _, _, _ => none
  | n + 1, v0, v1, v3, S0 =>
    (if (fw_g S0 v0 49) ≤ v3 then
  F_Mo_keep_j50 v0 v1 S0
  else
  (fw_om (fw_r S0 v0 35) ((fw_om (fw_r S0 v0 50) none (fun b14 =>
  (if v3 < 0 ∨ fw_l S0 b14 ≤ v3.toNatClampNeg then none else
  none)))) (fun b13 =>
  (fw_om (fw_r S0 v0 50) none (fun b16 =>
  (if v3 < 0 ∨ fw_l S0 b16 ≤ v3.toNatClampNeg then none else
  (if (((20 : Int32) * v1) + v3) < 0 ∨ fw_l S0 b13 ≤ (((20 : Int32) * v1) + v3).toNatClampNeg then none else
  (fw_let (fw_wi S0 b13 (((20 : Int32) * v1) + v3).toNatClampNeg (fw_g S0 b16 v3.toNatClampNeg)) (fun S19 =>
  F_Mo_keep_l19 n v0 v1 (v3 + (1 : Int32)) S19)))))))))
def F_Mo_keep (a0 : Nat) (p1 : Int32) (p2 : Int32) (S0 : fw_S) : Option (fw_S) :=
  (fw_om (fw_r S0 a0 33) none (fun b1 =>
  (if p1 < 0 ∨ fw_l S0 b1 ≤ p1.toNatClampNeg then none else
  (fw_let (fw_wi S0 b1 p1.toNatClampNeg p2) (fun S3 =>
  (fw_om (fw_r S3 a0 34) none (fun b4 =>
  (if p1 < 0 ∨ fw_l S3 b4 ≤ p1.toNatClampNeg then none else
  (fw_let (fw_wi S3 b4 p1.toNatClampNeg (fw_g S3 a0 49)) (fun S6 =>
  F_Mo_keep_l19 4096 a0 p1 (0 : Int32) S6))))))))))
def F_Mo_askPart_j78 (v0 : Nat) (v1 : Int32) (S0 : fw_S) : Option (fw_S) :=
    (fw_om (fw_r S0 v0 29) none (fun b8 =>
  (if v1 < 0 ∨ fw_l S0 b8 ≤ v1.toNatClampNeg then none else
  (fw_let (fw_wi S0 b8 v1.toNatClampNeg (0 : Int32)) (fun S10 =>
  (Option.bind (F_Mo_keep v0 v1 (1 : Int32) S10) (fun S11 =>
  (some S11))))))))
def F_Mo_askPart_l17 : Nat → Nat → Int32 → Int32 → fw_S → Option (fw_S)
  | 0, _, _, _, _ => none
  | n + 1, v0, v1, v2, S0 =>
    (fw_om (fw_r S0 v0 24) none (fun b6 =>
  (if v1 < 0 ∨ fw_l S0 b6 ≤ v1.toNatClampNeg then none else
  (if (fw_g S0 b6 v1.toNatClampNeg) ≤ v2 then
  F_Mo_askPart_j78 v0 v1 S0
  else
  (fw_om (fw_r S0 v0 25) none (fun b13 =>
  (if v1 < 0 ∨ fw_l S0 b13 ≤ v1.toNatClampNeg then none else
  (fw_om (fw_r S0 v0 22) none (fun b15 =>
  (if v1 < 0 ∨ fw_l S0 b15 ≤ v1.toNatClampNeg then none else
  (if (fw_g S0 b15 v1.toNatClampNeg) ≤ (fw_g S0 b13 v1.toNatClampNeg) then
  F_Mo_askPart_j78 v0 v1 S0
  else
  (fw_om (fw_r S0 v0 23) ((fw_om (fw_r S0 v0 25) none (fun b18 =>
  (if v1 < 0 ∨ fw_l S0 b18 ≤ v1.toNatClampNeg then none else
  none)))) (fun b17 =>
  (fw_om (fw_r S0 v0 25) none (fun b20 =>
  (if v1 < 0 ∨ fw_l S0 b20 ≤ v1.toNatClampNeg then none else
  (if (((20 : Int32) * v1) + (fw_g S0 b20 v1.toNatClampNeg)) < 0 ∨ fw_l S0 b17 ≤ (((20 : Int32) * v1) + (fw_g S0 b20 v1.toNatClampNeg)).toNatClampNeg then none else
  (Option.bind (F_Mo_put v0 (fw_g S0 b17 (((20 : Int32) * v1) + (fw_g S0 b20 v1.toNatClampNeg)).toNatClampNeg) S0) (fun S23 =>
  (fw_om (fw_r S23 v0 25) none (fun b25 =>
  (if v1 < 0 ∨ fw_l S23 b25 ≤ v1.toNatClampNeg then none else
  (if v1 < 0 ∨ fw_l S23 b25 ≤ v1.toNatClampNeg then none else
  (fw_let (fw_wi S23 b25 v1.toNatClampNeg ((fw_g S23 b25 v1.toNatClampNeg) + (1 : Int32))) (fun S28 =>
  F_Mo_askPart_l17 n v0 v1 (v2 + (1 : Int32)) S28)))))))))))))))))))))))))
def F_Mo_askPart (a0 : Nat) (p1 : Int32) (S0 : fw_S) : Option (fw_S) :=
  (fw_let (fw_wi S0 a0 49 (0 : Int32)) (fun S1 =>
  (fw_om (fw_r S1 a0 30) none (fun b2 =>
  (if p1 < 0 ∨ fw_l S1 b2 ≤ p1.toNatClampNeg then none else
  (Option.bind (F_Mo_put a0 (fw_g S1 b2 p1.toNatClampNeg) S1) (fun S4 =>
  F_Mo_askPart_l17 4096 a0 p1 (0 : Int32) S4)))))))
def F_Mo_finish (a0 : Nat) (p1 : Int32) (S0 : fw_S) : Option (fw_S) :=
  (fw_om (fw_r S0 a0 17) none (fun b1 =>
  (if p1 < 0 ∨ fw_l S0 b1 ≤ p1.toNatClampNeg then none else
  (fw_let (fw_wi S0 b1 p1.toNatClampNeg (1 : Int32)) (fun S3 =>
  (fw_om (fw_r S3 a0 15) none (fun b4 =>
  (if p1 < 0 ∨ fw_l S3 b4 ≤ p1.toNatClampNeg then none else
  (fw_let (fw_g S3 b4 p1.toNatClampNeg) (fun x6 =>
  (fw_om (fw_r S3 a0 26) none (fun b7 =>
  (if p1 < 0 ∨ fw_l S3 b7 ≤ p1.toNatClampNeg then none else
  (fw_om (fw_r S3 a0 22) none (fun b9 =>
  (if p1 < 0 ∨ fw_l S3 b9 ≤ p1.toNatClampNeg then none else
  (if (fw_g S3 b9 p1.toNatClampNeg) = 0 then none else
  (fw_let (((fw_g S3 b7 p1.toNatClampNeg) * (1000 : Int32)) / (fw_g S3 b9 p1.toNatClampNeg)) (fun x12 =>
  (fw_om (fw_r S3 a0 36) ((fw_om (fw_r S3 a0 37) none (fun b14 =>
  (if x6 < 0 ∨ fw_l S3 b14 ≤ x6.toNatClampNeg then none else
  (if (fw_g S3 b14 x6.toNatClampNeg) = 0 then
  none
  else
  (fw_om (fw_r S3 a0 36) none (fun b16 =>
  (if x6 < 0 ∨ fw_l S3 b16 ≤ x6.toNatClampNeg then none else
  none)))))))) (fun b13 =>
  (fw_om (fw_r S3 a0 37) none (fun b18 =>
  (if x6 < 0 ∨ fw_l S3 b18 ≤ x6.toNatClampNeg then none else
  (if (fw_g S3 b18 x6.toNatClampNeg) = 0 then
  (if x6 < 0 ∨ fw_l S3 b13 ≤ x6.toNatClampNeg then none else
  (fw_let (fw_wi S3 b13 x6.toNatClampNeg x12) (fun S21 =>
  (fw_om (fw_r S21 a0 37) none (fun b22 =>
  (if x6 < 0 ∨ fw_l S21 b22 ≤ x6.toNatClampNeg then none else
  (fw_let (fw_wi S21 b22 x6.toNatClampNeg (1 : Int32)) (fun S24 =>
  (some S24)))))))))
  else
  (fw_om (fw_r S3 a0 36) none (fun b25 =>
  (if x6 < 0 ∨ fw_l S3 b25 ≤ x6.toNatClampNeg then none else
  (if x6 < 0 ∨ fw_l S3 b13 ≤ x6.toNatClampNeg then none else
  (fw_let (fw_wi S3 b13 x6.toNatClampNeg (((fw_g S3 b25 x6.toNatClampNeg) + x12) / (2 : Int32))) (fun S28 =>
  (fw_om (fw_r S28 a0 37) none (fun b29 =>
  (if x6 < 0 ∨ fw_l S28 b29 ≤ x6.toNatClampNeg then none else
  (fw_let (fw_wi S28 b29 x6.toNatClampNeg (1 : Int32)) (fun S31 =>
  (some S31)))))))))))))))))))))))))))))))))))))
def F_Mo_fail_j26 (v0 : Nat) (v1 : Int32) (s1 : Int32) (s2 : Int32) (S0 : fw_S) : Option (fw_S) :=
    none
def F_Mo_fail_j26x (v0 : Nat) (v1 : Int32) (s0 : Nat) (s1 : Int32) (s2 : Int32) (S0 : fw_S) : Option (fw_S) :=
    (if s1 < 0 ∨ fw_l S0 s0 ≤ s1.toNatClampNeg then none else
  (fw_let (fw_wi S0 s0 s1.toNatClampNeg s2) (fun S10 =>
  (fw_om (fw_r S10 v0 26) ((fw_om (fw_r S10 v0 16) none (fun b12 =>
  (if v1 < 0 ∨ fw_l S10 b12 ≤ v1.toNatClampNeg then none else
  (if (fw_g S10 b12 v1.toNatClampNeg) = 0 then
  (fw_om (fw_r S10 v0 26) none (fun b14 =>
  (if v1 < 0 ∨ fw_l S10 b14 ≤ v1.toNatClampNeg then none else
  none)))
  else
  none))))) (fun b11 =>
  (fw_om (fw_r S10 v0 16) none (fun b16 =>
  (if v1 < 0 ∨ fw_l S10 b16 ≤ v1.toNatClampNeg then none else
  (if (fw_g S10 b16 v1.toNatClampNeg) = 0 then
  (fw_om (fw_r S10 v0 26) none (fun b18 =>
  (if v1 < 0 ∨ fw_l S10 b18 ≤ v1.toNatClampNeg then none else
  (if v1 < 0 ∨ fw_l S10 b11 ≤ v1.toNatClampNeg then none else
  (fw_let (fw_wi S10 b11 v1.toNatClampNeg (fw_g S10 b18 v1.toNatClampNeg)) (fun S21 =>
  (some S21)))))))
  else
  (if v1 < 0 ∨ fw_l S10 b11 ≤ v1.toNatClampNeg then none else
  (fw_let (fw_wi S10 b11 v1.toNatClampNeg (0 : Int32)) (fun S23 =>
  (some S23)))))))))))))
def F_Mo_fail (a0 : Nat) (p1 : Int32) (p2 : Int32) (S0 : fw_S) : Option (fw_S) :=
  (fw_om (fw_r S0 a0 18) none (fun b1 =>
  (if p1 < 0 ∨ fw_l S0 b1 ≤ p1.toNatClampNeg then none else
  (fw_let (fw_wi S0 b1 p1.toNatClampNeg p2) (fun S3 =>
  (fw_om (fw_r S3 a0 17) ((fw_om (fw_r S3 a0 16) none (fun b5 =>
  (if p1 < 0 ∨ fw_l S3 b5 ≤ p1.toNatClampNeg then none else
  (if (fw_g S3 b5 p1.toNatClampNeg) = 0 then
  F_Mo_fail_j26 a0 p1 p1 (2 : Int32) S3
  else
  F_Mo_fail_j26 a0 p1 p1 (1 : Int32) S3))))) (fun b4 =>
  (fw_om (fw_r S3 a0 16) none (fun b7 =>
  (if p1 < 0 ∨ fw_l S3 b7 ≤ p1.toNatClampNeg then none else
  (if (fw_g S3 b7 p1.toNatClampNeg) = 0 then
  F_Mo_fail_j26x a0 p1 b4 p1 (2 : Int32) S3
  else
  F_Mo_fail_j26x a0 p1 b4 p1 (1 : Int32) S3)))))))))))
def F_Mo_isFailedSilently (a0 : Nat) (p1 : Int32) (S0 : fw_S) : Option (Int32) :=
  (fw_om (fw_r S0 a0 17) none (fun b1 =>
  (if p1 < 0 ∨ fw_l S0 b1 ≤ p1.toNatClampNeg then none else
  (if (fw_g S0 b1 p1.toNatClampNeg) = (1 : Int32) then
  (fw_om (fw_r S0 a0 18) none (fun b3 =>
  (if p1 < 0 ∨ fw_l S0 b3 ≤ p1.toNatClampNeg then none else
  (if (fw_g S0 b3 p1.toNatClampNeg) ≤ 0 then
  (some (0 : Int32))
  else
  (some (1 : Int32))))))
  else
  (some (0 : Int32))))))
def F_Mo_setting_j114 (v0 : Nat) (v1 : Int32) (v2 : Int32) (v4 : Int32) (s0 : Nat) (s1 : Int32) (S0 : fw_S) : Option (Int32 × fw_S) :=
    (fw_let (fw_wi S0 s0 6 s1) (fun S2 =>
  (if v1 = (2 : Int32) then
  (fw_let (fw_wi S2 v0 7 v2) (fun S4 =>
  (some (v4, S4))))
  else
  (fw_let (fw_wi S2 v0 7 (fw_g S2 v0 7)) (fun S3 =>
  (some (v4, S3)))))))
def F_Mo_setting_j97 (v0 : Nat) (v1 : Int32) (v2 : Int32) (v4 : Int32) (s0 : Nat) (s1 : Int32) (S0 : fw_S) : Option (Int32 × fw_S) :=
    (fw_let (fw_wi S0 s0 5 s1) (fun S1 =>
  (if v1 = (1 : Int32) then
  F_Mo_setting_j114 v0 v1 v2 v4 v0 v2 S1
  else
  F_Mo_setting_j114 v0 v1 v2 v4 v0 (fw_g S1 v0 6) S1)))
def F_Mo_setting_j82 (v0 : Nat) (v1 : Int32) (v2 : Int32) (s0 : Int32) (S0 : fw_S) : Option (Int32 × fw_S) :=
    (if v1 = 0 then
  F_Mo_setting_j97 v0 v1 v2 s0 v0 v2 S0
  else
  F_Mo_setting_j97 v0 v1 v2 s0 v0 (fw_g S0 v0 5) S0)
def F_Mo_setting_j48 (v0 : Nat) (v1 : Int32) (v2 : Int32) (s0 : Int32) (S0 : fw_S) : Option (Int32 × fw_S) :=
    (if s0 = 0 then
  (some ((-1 : Int32), S0))
  else
  (if v1 = 0 then
  F_Mo_setting_j82 v0 v1 v2 (fw_g S0 v0 5) S0
  else
  (if v1 = (1 : Int32) then
  F_Mo_setting_j82 v0 v1 v2 (fw_g S0 v0 6) S0
  else
  F_Mo_setting_j82 v0 v1 v2 (fw_g S0 v0 7) S0)))
def F_Mo_setting_j47 (v0 : Nat) (v1 : Int32) (v2 : Int32) (S0 : fw_S) : Option (Int32 × fw_S) :=
    F_Mo_setting_j48 v0 v1 v2 (0 : Int32) S0
def F_Mo_setting_j43 (v0 : Nat) (v1 : Int32) (v2 : Int32) (S0 : fw_S) : Option (Int32 × fw_S) :=
    F_Mo_setting_j48 v0 v1 v2 (1 : Int32) S0
def F_Mo_setting_j29 (v0 : Nat) (v1 : Int32) (v2 : Int32) (S0 : fw_S) : Option (Int32 × fw_S) :=
    (if v1 = (2 : Int32) then
  (Option.bind (F_Mo_isIn v2 (0 : Int32) (5 : Int32) S0) (fun x5 =>
  (if x5 = 0 then
  F_Mo_setting_j47 v0 v1 v2 S0
  else
  F_Mo_setting_j43 v0 v1 v2 S0)))
  else
  F_Mo_setting_j47 v0 v1 v2 S0)
def F_Mo_setting_j14 (v0 : Nat) (v1 : Int32) (v2 : Int32) (S0 : fw_S) : Option (Int32 × fw_S) :=
    (if v1 = (1 : Int32) then
  (Option.bind (F_Mo_isIn v2 (1 : Int32) (100 : Int32) S0) (fun x7 =>
  (if x7 = 0 then
  F_Mo_setting_j29 v0 v1 v2 S0
  else
  F_Mo_setting_j43 v0 v1 v2 S0)))
  else
  F_Mo_setting_j29 v0 v1 v2 S0)
def F_Mo_setting (a0 : Nat) (p1 : Int32) (p2 : Int32) (S0 : fw_S) : Option (Int32 × fw_S) :=
  (if p1 = 0 then
  (Option.bind (F_Mo_isIn p2 (1 : Int32) (8 : Int32) S0) (fun x9 =>
  (if x9 = 0 then
  F_Mo_setting_j14 a0 p1 p2 S0
  else
  F_Mo_setting_j43 a0 p1 p2 S0)))
  else
  F_Mo_setting_j14 a0 p1 p2 S0)
def F_Mo_bind (a0 : Nat) (p1 : Int32) (p2 : Int32) (S0 : fw_S) : Option (Int32 × fw_S) :=
  (Option.bind (F_Mo_isIn p1 (0 : Int32) (255 : Int32) S0) (fun x1 =>
  (if x1 = 0 then
  (some ((-1 : Int32), S0))
  else
  (if (fw_g S0 a0 11) = (20 : Int32) then
  (some ((-3 : Int32), S0))
  else
  (fw_om (fw_r S0 a0 12) none (fun b3 =>
  (if (fw_g S0 a0 11) < 0 ∨ fw_l S0 b3 ≤ (fw_g S0 a0 11).toNatClampNeg then none else
  (fw_let (fw_wi S0 b3 (fw_g S0 a0 11).toNatClampNeg p1) (fun S5 =>
  (fw_om (fw_r S5 a0 13) none (fun b6 =>
  (if (fw_g S5 a0 11) < 0 ∨ fw_l S5 b6 ≤ (fw_g S5 a0 11).toNatClampNeg then none else
  (fw_let (fw_wi S5 b6 (fw_g S5 a0 11).toNatClampNeg p2) (fun S8 =>
  (fw_let (fw_wi S8 a0 11 ((fw_g S8 a0 11) + (1 : Int32))) (fun S9 =>
  (some ((fw_g S9 a0 11), S9))))))))))))))))))
def F_Mo_addKey_j34 (v0 : Nat) (v1 : Int32) (v2 : Int32) (S0 : fw_S) : Option (fw_S) :=
    (fw_om (fw_r S0 v0 23) ((fw_om (fw_r S0 v0 22) none (fun b4 =>
  (if v1 < 0 ∨ fw_l S0 b4 ≤ v1.toNatClampNeg then none else
  none)))) (fun b3 =>
  (fw_om (fw_r S0 v0 22) none (fun b6 =>
  (if v1 < 0 ∨ fw_l S0 b6 ≤ v1.toNatClampNeg then none else
  (if (((20 : Int32) * v1) + (fw_g S0 b6 v1.toNatClampNeg)) < 0 ∨ fw_l S0 b3 ≤ (((20 : Int32) * v1) + (fw_g S0 b6 v1.toNatClampNeg)).toNatClampNeg then none else
  (fw_let (fw_wi S0 b3 (((20 : Int32) * v1) + (fw_g S0 b6 v1.toNatClampNeg)).toNatClampNeg v2) (fun S9 =>
  (fw_om (fw_r S9 v0 22) none (fun b10 =>
  (if v1 < 0 ∨ fw_l S9 b10 ≤ v1.toNatClampNeg then none else
  (if v1 < 0 ∨ fw_l S9 b10 ≤ v1.toNatClampNeg then none else
  (fw_let (fw_wi S9 b10 v1.toNatClampNeg ((fw_g S9 b10 v1.toNatClampNeg) + (1 : Int32))) (fun S13 =>
  (some S13)))))))))))))))
def F_Mo_addKey_l2 : Nat → Nat → Int32 → Int32 → Int32 → fw_S → Option (fw_S)
  | 0, _, _, _, _, _ => none
  | n + 1, v0, v1, v2, v3, S0 =>
    (fw_om (fw_r S0 v0 22) none (fun b1 =>
  (if v1 < 0 ∨ fw_l S0 b1 ≤ v1.toNatClampNeg then none else
  (if (fw_g S0 b1 v1.toNatClampNeg) ≤ v3 then
  F_Mo_addKey_j34 v0 v1 v2 S0
  else
  (fw_om (fw_r S0 v0 23) none (fun b14 =>
  (if (((20 : Int32) * v1) + v3) < 0 ∨ fw_l S0 b14 ≤ (((20 : Int32) * v1) + v3).toNatClampNeg then none else
  (if (fw_g S0 b14 (((20 : Int32) * v1) + v3).toNatClampNeg) = v2 then
  (some S0)
  else
  F_Mo_addKey_l2 n v0 v1 v2 (v3 + (1 : Int32)) S0))))))))
def F_Mo_addKey (a0 : Nat) (p1 : Int32) (p2 : Int32) (S0 : fw_S) : Option (fw_S) :=
  F_Mo_addKey_l2 4096 a0 p1 p2 (0 : Int32) S0
def F_Mo_ask_j140 (v0 : Nat) (v3 : Int32) (S0 : fw_S) : Option (Int32 × fw_S) :=
    (fw_let (fw_wi S0 v0 11 (0 : Int32)) (fun S18 =>
  (fw_om (fw_r S18 v0 22) none (fun b19 =>
  (if v3 < 0 ∨ fw_l S18 b19 ≤ v3.toNatClampNeg then none else
  (if (fw_g S18 b19 v3.toNatClampNeg) = 0 then
  (fw_om (fw_r S18 v0 17) none (fun b23 =>
  (if v3 < 0 ∨ fw_l S18 b23 ≤ v3.toNatClampNeg then none else
  (fw_let (fw_wi S18 b23 v3.toNatClampNeg (1 : Int32)) (fun S25 =>
  (fw_om (fw_r S25 v0 30) none (fun b26 =>
  (if v3 < 0 ∨ fw_l S25 b26 ≤ v3.toNatClampNeg then none else
  (fw_let (fw_wi S25 b26 v3.toNatClampNeg (-1 : Int32)) (fun S28 =>
  (some (v3, S28))))))))))))
  else
  (Option.bind (F_Mo_askPart v0 v3 S18) (fun S21 =>
  (some (v3, S21))))))))))
def F_Mo_ask_l75 : Nat → Nat → Int32 → Int32 → fw_S → Option (Int32 × fw_S)
  | 0, _, _, _, _ => none
  | n + 1, v0, v3, v4, S0 =>
    (if (fw_g S0 v0 11) ≤ v4 then
  F_Mo_ask_j140 v0 v3 S0
  else
  (fw_om (fw_r S0 v0 20) ((fw_om (fw_r S0 v0 12) none (fun b30 =>
  (if v4 < 0 ∨ fw_l S0 b30 ≤ v4.toNatClampNeg then none else
  none)))) (fun b29 =>
  (fw_om (fw_r S0 v0 12) none (fun b32 =>
  (if v4 < 0 ∨ fw_l S0 b32 ≤ v4.toNatClampNeg then none else
  (if (((20 : Int32) * v3) + v4) < 0 ∨ fw_l S0 b29 ≤ (((20 : Int32) * v3) + v4).toNatClampNeg then none else
  (fw_let (fw_wi S0 b29 (((20 : Int32) * v3) + v4).toNatClampNeg (fw_g S0 b32 v4.toNatClampNeg)) (fun S35 =>
  (fw_om (fw_r S35 v0 21) ((fw_om (fw_r S35 v0 13) none (fun b37 =>
  (if v4 < 0 ∨ fw_l S35 b37 ≤ v4.toNatClampNeg then none else
  none)))) (fun b36 =>
  (fw_om (fw_r S35 v0 13) none (fun b39 =>
  (if v4 < 0 ∨ fw_l S35 b39 ≤ v4.toNatClampNeg then none else
  (if (((20 : Int32) * v3) + v4) < 0 ∨ fw_l S35 b36 ≤ (((20 : Int32) * v3) + v4).toNatClampNeg then none else
  (fw_let (fw_wi S35 b36 (((20 : Int32) * v3) + v4).toNatClampNeg (fw_g S35 b39 v4.toNatClampNeg)) (fun S42 =>
  (fw_om (fw_r S42 v0 12) none (fun b43 =>
  (if v4 < 0 ∨ fw_l S42 b43 ≤ v4.toNatClampNeg then none else
  (Option.bind (F_Mo_addKey v0 v3 (fw_g S42 b43 v4.toNatClampNeg) S42) (fun S45 =>
  F_Mo_ask_l75 n v0 v3 (v4 + (1 : Int32)) S45))))))))))))))))))))))
def F_Mo_ask (a0 : Nat) (p1 : Int32) (p2 : Int32) (S0 : fw_S) : Option (Int32 × fw_S) :=
  (Option.bind (F_Mo_isIn p1 (0 : Int32) (3 : Int32) S0) (fun x1 =>
  (if x1 = 0 then
  (some ((-1 : Int32), S0))
  else
  (if (fw_g S0 a0 14) = (24 : Int32) then
  (some ((-3 : Int32), S0))
  else
  (fw_let (fw_g S0 a0 14) (fun x3 =>
  (fw_let (fw_wi S0 a0 14 ((fw_g S0 a0 14) + (1 : Int32))) (fun S4 =>
  (fw_om (fw_r S4 a0 15) none (fun b5 =>
  (if x3 < 0 ∨ fw_l S4 b5 ≤ x3.toNatClampNeg then none else
  (fw_let (fw_wi S4 b5 x3.toNatClampNeg p1) (fun S7 =>
  (fw_om (fw_r S7 a0 16) none (fun b8 =>
  (if p2 = 0 ∨ p2 = 1 then
  (if x3 < 0 ∨ fw_l S7 b8 ≤ x3.toNatClampNeg then none else
  (fw_let (fw_wi S7 b8 x3.toNatClampNeg p2) (fun S11 =>
  (fw_om (fw_r S11 a0 24) none (fun b12 =>
  (if x3 < 0 ∨ fw_l S11 b12 ≤ x3.toNatClampNeg then none else
  (fw_let (fw_wi S11 b12 x3.toNatClampNeg (fw_g S11 a0 5)) (fun S14 =>
  (fw_om (fw_r S14 a0 19) none (fun b15 =>
  (if x3 < 0 ∨ fw_l S14 b15 ≤ x3.toNatClampNeg then none else
  (fw_let (fw_wi S14 b15 x3.toNatClampNeg (fw_g S14 a0 11)) (fun S17 =>
  F_Mo_ask_l75 4096 a0 x3 (0 : Int32) S17)))))))))))))
  else none))))))))))))))))
def F_Mo_isDropped_j242 (v0 : Nat) (v3 : Int32) (v6 : Int32) (S0 : fw_S) : Option (Int32 × fw_S) :=
    (fw_om (fw_r S0 v0 30) ((fw_om (fw_r S0 v0 30) none (fun b19 =>
  (if v3 < 0 ∨ fw_l S0 b19 ≤ v3.toNatClampNeg then none else
  none)))) (fun b18 =>
  (fw_om (fw_r S0 v0 30) none (fun b21 =>
  (if v3 < 0 ∨ fw_l S0 b21 ≤ v3.toNatClampNeg then none else
  (if v3 < 0 ∨ fw_l S0 b18 ≤ v3.toNatClampNeg then none else
  (fw_let (fw_wi S0 b18 v3.toNatClampNeg (((fw_g S0 b21 v3.toNatClampNeg) + (1 : Int32)) &&& (255 : Int32))) (fun S24 =>
  (if v6 = 0 then
  (Option.bind (F_Mo_askPart v0 v3 S24) (fun S25 =>
  (some ((0 : Int32), S25))))
  else
  (fw_let (fw_wi S24 v0 49 (0 : Int32)) (fun S27 =>
  (fw_om (fw_r S27 v0 30) none (fun b28 =>
  (if v3 < 0 ∨ fw_l S27 b28 ≤ v3.toNatClampNeg then none else
  (Option.bind (F_Mo_put v0 (fw_g S27 b28 v3.toNatClampNeg) S27) (fun S30 =>
  (fw_om (fw_r S30 v0 29) none (fun b32 =>
  (if v3 < 0 ∨ fw_l S30 b32 ≤ v3.toNatClampNeg then none else
  (Option.bind (F_Mo_put v0 (fw_g S30 b32 v3.toNatClampNeg) S30) (fun S34 =>
  (Option.bind (F_Mo_keep v0 v3 (3 : Int32) S34) (fun S36 =>
  (some ((0 : Int32), S36)))))))))))))))))))))))))
def F_Mo_isDropped_j213 (v0 : Nat) (v3 : Int32) (s0 : Int32) (S0 : fw_S) : Option (Int32 × fw_S) :=
    (if s0 = 0 then
  (fw_om (fw_r S0 v0 25) none (fun b38 =>
  (if v3 < 0 ∨ fw_l S0 b38 ≤ v3.toNatClampNeg then none else
  (fw_om (fw_r S0 v0 22) none (fun b40 =>
  (if v3 < 0 ∨ fw_l S0 b40 ≤ v3.toNatClampNeg then none else
  (if (fw_g S0 b38 v3.toNatClampNeg) = (fw_g S0 b40 v3.toNatClampNeg) then
  (Option.bind (F_Mo_finish v0 v3 S0) (fun S42 =>
  (some ((0 : Int32), S42))))
  else
  F_Mo_isDropped_j242 v0 v3 s0 S0)))))))
  else
  F_Mo_isDropped_j242 v0 v3 s0 S0)
def F_Mo_isDropped_j184 (v0 : Nat) (v3 : Int32) (v4 : Int32) (v5 : Int32) (S0 : fw_S) : Option (Int32 × fw_S) :=
    (fw_om (fw_r S0 v0 29) none (fun b12 =>
  (if v3 < 0 ∨ fw_l S0 b12 ≤ v3.toNatClampNeg then none else
  (if v3 < 0 ∨ fw_l S0 b12 ≤ v3.toNatClampNeg then none else
  (fw_let (fw_wi S0 b12 v3.toNatClampNeg ((fw_g S0 b12 v3.toNatClampNeg) + v5)) (fun S15 =>
  (fw_om (fw_r S15 v0 3) none (fun b16 =>
  (if (v4 + (5 : Int32)) < 0 ∨ fw_l S15 b16 ≤ (v4 + (5 : Int32)).toNatClampNeg then none else
  (if (fw_g S15 b16 (v4 + (5 : Int32)).toNatClampNeg) = (1 : Int32) then
  F_Mo_isDropped_j213 v0 v3 (1 : Int32) S15
  else
  F_Mo_isDropped_j213 v0 v3 (0 : Int32) S15))))))))))
def F_Mo_isDropped_l88 : Nat → Nat → Int32 → Int32 → Int32 → Int32 → fw_S → Option (Int32 × fw_S)
  | 0, _, _, _, _, _, _ => none
  | n + 1, v0, v3, v4, v5, v6, S0 =>
    (if v5 ≤ v6 then
  F_Mo_isDropped_j184 v0 v3 v4 v5 S0
  else
  (fw_om (fw_r S0 v0 26) none (fun b44 =>
  (if v3 < 0 ∨ fw_l S0 b44 ≤ v3.toNatClampNeg then none else
  (if (60 : Int32) ≤ (fw_g S0 b44 v3.toNatClampNeg) then
  F_Mo_isDropped_l88 n v0 v3 v4 v5 (v6 + (1 : Int32)) S0
  else
  (fw_om (fw_r S0 v0 27) ((fw_om (fw_r S0 v0 26) none (fun b47 =>
  (if v3 < 0 ∨ fw_l S0 b47 ≤ v3.toNatClampNeg then none else
  (fw_om (fw_r S0 v0 3) none (fun b49 =>
  (if ((v4 + (6 : Int32)) + ((2 : Int32) * v6)) < 0 ∨ fw_l S0 b49 ≤ ((v4 + (6 : Int32)) + ((2 : Int32) * v6)).toNatClampNeg then none else
  none))))))) (fun b46 =>
  (fw_om (fw_r S0 v0 26) none (fun b51 =>
  (if v3 < 0 ∨ fw_l S0 b51 ≤ v3.toNatClampNeg then none else
  (fw_om (fw_r S0 v0 3) none (fun b53 =>
  (if ((v4 + (6 : Int32)) + ((2 : Int32) * v6)) < 0 ∨ fw_l S0 b53 ≤ ((v4 + (6 : Int32)) + ((2 : Int32) * v6)).toNatClampNeg then none else
  (if (((60 : Int32) * v3) + (fw_g S0 b51 v3.toNatClampNeg)) < 0 ∨ fw_l S0 b46 ≤ (((60 : Int32) * v3) + (fw_g S0 b51 v3.toNatClampNeg)).toNatClampNeg then none else
  (fw_let (fw_wi S0 b46 (((60 : Int32) * v3) + (fw_g S0 b51 v3.toNatClampNeg)).toNatClampNeg (fw_g S0 b53 ((v4 + (6 : Int32)) + ((2 : Int32) * v6)).toNatClampNeg)) (fun S56 =>
  (fw_om (fw_r S56 v0 28) ((fw_om (fw_r S56 v0 26) none (fun b58 =>
  (if v3 < 0 ∨ fw_l S56 b58 ≤ v3.toNatClampNeg then none else
  (fw_om (fw_r S56 v0 3) none (fun b60 =>
  (if ((v4 + (7 : Int32)) + ((2 : Int32) * v6)) < 0 ∨ fw_l S56 b60 ≤ ((v4 + (7 : Int32)) + ((2 : Int32) * v6)).toNatClampNeg then none else
  none))))))) (fun b57 =>
  (fw_om (fw_r S56 v0 26) none (fun b62 =>
  (if v3 < 0 ∨ fw_l S56 b62 ≤ v3.toNatClampNeg then none else
  (fw_om (fw_r S56 v0 3) none (fun b64 =>
  (if ((v4 + (7 : Int32)) + ((2 : Int32) * v6)) < 0 ∨ fw_l S56 b64 ≤ ((v4 + (7 : Int32)) + ((2 : Int32) * v6)).toNatClampNeg then none else
  (if (((60 : Int32) * v3) + (fw_g S56 b62 v3.toNatClampNeg)) < 0 ∨ fw_l S56 b57 ≤ (((60 : Int32) * v3) + (fw_g S56 b62 v3.toNatClampNeg)).toNatClampNeg then none else
  (fw_let (fw_wi S56 b57 (((60 : Int32) * v3) + (fw_g S56 b62 v3.toNatClampNeg)).toNatClampNeg (fw_g S56 b64 ((v4 + (7 : Int32)) + ((2 : Int32) * v6)).toNatClampNeg)) (fun S67 =>
  (fw_om (fw_r S67 v0 26) none (fun b68 =>
  (if v3 < 0 ∨ fw_l S67 b68 ≤ v3.toNatClampNeg then none else
  (if v3 < 0 ∨ fw_l S67 b68 ≤ v3.toNatClampNeg then none else
  (fw_let (fw_wi S67 b68 v3.toNatClampNeg ((fw_g S67 b68 v3.toNatClampNeg) + (1 : Int32))) (fun S71 =>
  F_Mo_isDropped_l88 n v0 v3 v4 v5 (v6 + (1 : Int32)) S71)))))))))))))))))))))))))))))))))
def F_Mo_isDropped_j10 (v0 : Nat) (v1 : Int32) (v2 : Int32) (v3 : Int32) (v4 : Int32) (S0 : fw_S) : Option (Int32 × fw_S) :=
    (if (fw_g S0 v0 14) ≤ v3 then
  (some ((1 : Int32), S0))
  else
  (fw_om (fw_r S0 v0 17) none (fun b1 =>
  (if v3 < 0 ∨ fw_l S0 b1 ≤ v3.toNatClampNeg then none else
  (if (fw_g S0 b1 v3.toNatClampNeg) = 0 then
  (fw_om (fw_r S0 v0 15) none (fun b3 =>
  (if v3 < 0 ∨ fw_l S0 b3 ≤ v3.toNatClampNeg then none else
  (if (fw_g S0 b3 v3.toNatClampNeg) = v1 then
  (fw_om (fw_r S0 v0 30) none (fun b5 =>
  (if v3 < 0 ∨ fw_l S0 b5 ≤ v3.toNatClampNeg then none else
  (fw_om (fw_r S0 v0 3) none (fun b7 =>
  (if (v4 + (4 : Int32)) < 0 ∨ fw_l S0 b7 ≤ (v4 + (4 : Int32)).toNatClampNeg then none else
  (if (fw_g S0 b5 v3.toNatClampNeg) = (fw_g S0 b7 (v4 + (4 : Int32)).toNatClampNeg) then
  (if v2 = (4 : Int32) then
  (Option.bind (F_Mo_fail v0 v3 (3 : Int32) S0) (fun S72 =>
  (some ((0 : Int32), S72))))
  else
  (fw_om (fw_r S0 v0 3) none (fun b9 =>
  (if (v4 + (3 : Int32)) < 0 ∨ fw_l S0 b9 ≤ (v4 + (3 : Int32)).toNatClampNeg then none else
  (fw_let (((fw_g S0 b9 (v4 + (3 : Int32)).toNatClampNeg) / (2 : Int32)) - (1 : Int32)) (fun x11 =>
  F_Mo_isDropped_l88 4096 v0 v3 v4 x11 (0 : Int32) S0))))))
  else
  (some ((1 : Int32), S0)))))))))
  else
  (some ((1 : Int32), S0))))))
  else
  (some ((1 : Int32), S0)))))))
def F_Mo_isDropped (a0 : Nat) (p1 : Int32) (p2 : Int32) (p3 : Int32) (p4 : Int32) (S0 : fw_S) : Option (Int32 × fw_S) :=
  (if p2 = (2 : Int32) then
  F_Mo_isDropped_j10 a0 p1 p2 p3 p4 S0
  else
  (if p2 = (4 : Int32) then
  F_Mo_isDropped_j10 a0 p1 p2 p3 p4 S0
  else
  (some ((1 : Int32), S0))))
def F_Mo_fact (a0 : Nat) (p1 : Int32) (p2 : Int32) (S0 : fw_S) : Option (Int32 × fw_S) :=
  (Option.bind (F_Mo_isIn p1 (0 : Int32) (255 : Int32) S0) (fun x1 =>
  (if x1 = 0 then
  (some ((-1 : Int32), S0))
  else
  (Option.bind (F_Mo_isIn p2 (0 : Int32) (255 : Int32) S0) (fun x3 =>
  (if x3 = 0 then
  (some ((-1 : Int32), S0))
  else
  (if (fw_g S0 a0 38) = (60 : Int32) then
  (some ((-3 : Int32), S0))
  else
  (fw_om (fw_r S0 a0 39) none (fun b5 =>
  (if (fw_g S0 a0 38) < 0 ∨ fw_l S0 b5 ≤ (fw_g S0 a0 38).toNatClampNeg then none else
  (fw_let (fw_wi S0 b5 (fw_g S0 a0 38).toNatClampNeg p1) (fun S7 =>
  (fw_om (fw_r S7 a0 40) none (fun b8 =>
  (if (fw_g S7 a0 38) < 0 ∨ fw_l S7 b8 ≤ (fw_g S7 a0 38).toNatClampNeg then none else
  (fw_let (fw_wi S7 b8 (fw_g S7 a0 38).toNatClampNeg p2) (fun S10 =>
  (fw_let (fw_wi S10 a0 38 ((fw_g S10 a0 38) + (1 : Int32))) (fun S11 =>
  (some ((fw_g S11 a0 38), S11)))))))))))))))))))))
def F_Mo_placeOf_l4 (S0 : fw_S) : Nat → Nat → Int32 → Int32 → Int32 → Option (Int32)
  | 0, _, _, _, _ => none
  | n + 1, v0, v1, v2, v3 =>
    (if (fw_g S0 v0 41) ≤ v3 then
  (some v2)
  else
  (fw_om (fw_r S0 v0 43) none (fun b1 =>
  (if v3 < 0 ∨ fw_l S0 b1 ≤ v3.toNatClampNeg then none else
  (if (fw_g S0 b1 v3.toNatClampNeg) = v1 then
  F_Mo_placeOf_l4 S0 n v0 v1 v3 (v3 + (1 : Int32))
  else
  F_Mo_placeOf_l4 S0 n v0 v1 v2 (v3 + (1 : Int32)))))))
def F_Mo_placeOf (a0 : Nat) (p1 : Int32) (S0 : fw_S) : Option (Int32) :=
  F_Mo_placeOf_l4 S0 4096 a0 p1 (-1 : Int32) (0 : Int32)
def F_Mo_copy_l50 : Nat → Nat → Int32 → Int32 → Int32 → fw_S → Option (fw_S)
  | 0, _, _, _, _, _ => none
  | n + 1, v0, v1, v2, v3, S0 =>
    (if (60 : Int32) ≤ v3 then
  (some S0)
  else
  (fw_om (fw_r S0 v0 47) ((fw_om (fw_r S0 v0 47) none (fun b30 =>
  (if (((60 : Int32) * v2) + v3) < 0 ∨ fw_l S0 b30 ≤ (((60 : Int32) * v2) + v3).toNatClampNeg then none else
  none)))) (fun b29 =>
  (fw_om (fw_r S0 v0 47) none (fun b32 =>
  (if (((60 : Int32) * v2) + v3) < 0 ∨ fw_l S0 b32 ≤ (((60 : Int32) * v2) + v3).toNatClampNeg then none else
  (if (((60 : Int32) * v1) + v3) < 0 ∨ fw_l S0 b29 ≤ (((60 : Int32) * v1) + v3).toNatClampNeg then none else
  (fw_let (fw_wi S0 b29 (((60 : Int32) * v1) + v3).toNatClampNeg (fw_g S0 b32 (((60 : Int32) * v2) + v3).toNatClampNeg)) (fun S35 =>
  (fw_om (fw_r S35 v0 48) ((fw_om (fw_r S35 v0 48) none (fun b37 =>
  (if (((60 : Int32) * v2) + v3) < 0 ∨ fw_l S35 b37 ≤ (((60 : Int32) * v2) + v3).toNatClampNeg then none else
  none)))) (fun b36 =>
  (fw_om (fw_r S35 v0 48) none (fun b39 =>
  (if (((60 : Int32) * v2) + v3) < 0 ∨ fw_l S35 b39 ≤ (((60 : Int32) * v2) + v3).toNatClampNeg then none else
  (if (((60 : Int32) * v1) + v3) < 0 ∨ fw_l S35 b36 ≤ (((60 : Int32) * v1) + v3).toNatClampNeg then none else
  (fw_let (fw_wi S35 b36 (((60 : Int32) * v1) + v3).toNatClampNeg (fw_g S35 b39 (((60 : Int32) * v2) + v3).toNatClampNeg)) (fun S42 =>
  F_Mo_copy_l50 n v0 v1 v2 (v3 + (1 : Int32)) S42)))))))))))))))))
def F_Mo_copy (a0 : Nat) (p1 : Int32) (p2 : Int32) (S0 : fw_S) : Option (fw_S) :=
  (fw_om (fw_r S0 a0 43) ((fw_om (fw_r S0 a0 43) none (fun b2 =>
  (if p2 < 0 ∨ fw_l S0 b2 ≤ p2.toNatClampNeg then none else
  none)))) (fun b1 =>
  (fw_om (fw_r S0 a0 43) none (fun b4 =>
  (if p2 < 0 ∨ fw_l S0 b4 ≤ p2.toNatClampNeg then none else
  (if p1 < 0 ∨ fw_l S0 b1 ≤ p1.toNatClampNeg then none else
  (fw_let (fw_wi S0 b1 p1.toNatClampNeg (fw_g S0 b4 p2.toNatClampNeg)) (fun S7 =>
  (fw_om (fw_r S7 a0 44) ((fw_om (fw_r S7 a0 44) none (fun b9 =>
  (if p2 < 0 ∨ fw_l S7 b9 ≤ p2.toNatClampNeg then none else
  none)))) (fun b8 =>
  (fw_om (fw_r S7 a0 44) none (fun b11 =>
  (if p2 < 0 ∨ fw_l S7 b11 ≤ p2.toNatClampNeg then none else
  (if p1 < 0 ∨ fw_l S7 b8 ≤ p1.toNatClampNeg then none else
  (fw_let (fw_wi S7 b8 p1.toNatClampNeg (fw_g S7 b11 p2.toNatClampNeg)) (fun S14 =>
  (fw_om (fw_r S14 a0 45) ((fw_om (fw_r S14 a0 45) none (fun b16 =>
  (if p2 < 0 ∨ fw_l S14 b16 ≤ p2.toNatClampNeg then none else
  none)))) (fun b15 =>
  (fw_om (fw_r S14 a0 45) none (fun b18 =>
  (if p2 < 0 ∨ fw_l S14 b18 ≤ p2.toNatClampNeg then none else
  (if p1 < 0 ∨ fw_l S14 b15 ≤ p1.toNatClampNeg then none else
  (fw_let (fw_wi S14 b15 p1.toNatClampNeg (fw_g S14 b18 p2.toNatClampNeg)) (fun S21 =>
  (fw_om (fw_r S21 a0 46) ((fw_om (fw_r S21 a0 46) none (fun b23 =>
  (if p2 < 0 ∨ fw_l S21 b23 ≤ p2.toNatClampNeg then none else
  none)))) (fun b22 =>
  (fw_om (fw_r S21 a0 46) none (fun b25 =>
  (if p2 < 0 ∨ fw_l S21 b25 ≤ p2.toNatClampNeg then none else
  (if p1 < 0 ∨ fw_l S21 b22 ≤ p1.toNatClampNeg then none else
  (fw_let (fw_wi S21 b22 p1.toNatClampNeg (fw_g S21 b25 p2.toNatClampNeg)) (fun S28 =>
  F_Mo_copy_l50 4096 a0 p1 p2 (0 : Int32) S28))))))))))))))))))))))))))))))))
def F_Mo_forget_l12 : Nat → Nat → Int32 → fw_S → Option (fw_S)
  | 0, _, _, _ => none
  | n + 1, v0, v2, S0 =>
    (if (fw_g S0 v0 41) ≤ v2 then
  (some S0)
  else
  (Option.bind (F_Mo_copy v0 v2 (v2 + (1 : Int32)) S0) (fun S2 =>
  F_Mo_forget_l12 n v0 (v2 + (1 : Int32)) S2)))
def F_Mo_forget (a0 : Nat) (p1 : Int32) (S0 : fw_S) : Option (fw_S) :=
  (fw_let (fw_wi S0 a0 41 ((fw_g S0 a0 41) - (1 : Int32))) (fun S1 =>
  F_Mo_forget_l12 4096 a0 p1 S1))
def F_Mo_answer_j100 (v0 : Nat) (v2 : Int32) (S0 : fw_S) : Option (fw_S) :=
    (fw_b2 (F_Mo_send v0 (4 : Int32) (2 : Int32) v2 S0) (fun x12 S11 =>
  (some S11)))
def F_Mo_answer_l41 : Nat → Nat → Int32 → Int32 → Int32 → Int32 → fw_S → Option (fw_S)
  | 0, _, _, _, _, _, _ => none
  | n + 1, v0, v1, v2, v4, v6, S0 =>
    (fw_om (fw_r S0 v0 46) none (fun b9 =>
  (if v1 < 0 ∨ fw_l S0 b9 ≤ v1.toNatClampNeg then none else
  (if (fw_g S0 b9 v1.toNatClampNeg) ≤ v6 then
  F_Mo_answer_j100 v0 v2 S0
  else
  (if (v4 + (8 : Int32)) ≤ v6 then
  F_Mo_answer_j100 v0 v2 S0
  else
  (fw_om (fw_r S0 v0 47) none (fun b14 =>
  (if (((60 : Int32) * v1) + v6) < 0 ∨ fw_l S0 b14 ≤ (((60 : Int32) * v1) + v6).toNatClampNeg then none else
  (Option.bind (F_Mo_put v0 (fw_g S0 b14 (((60 : Int32) * v1) + v6).toNatClampNeg) S0) (fun S16 =>
  (fw_om (fw_r S16 v0 48) none (fun b18 =>
  (if (((60 : Int32) * v1) + v6) < 0 ∨ fw_l S16 b18 ≤ (((60 : Int32) * v1) + v6).toNatClampNeg then none else
  (Option.bind (F_Mo_put v0 (fw_g S16 b18 (((60 : Int32) * v1) + v6).toNatClampNeg) S16) (fun S20 =>
  F_Mo_answer_l41 n v0 v1 v2 v4 (v6 + (1 : Int32)) S20)))))))))))))))
def F_Mo_answer (a0 : Nat) (p1 : Int32) (p2 : Int32) (p3 : Int32) (p4 : Int32) (S0 : fw_S) : Option (fw_S) :=
  (fw_om (fw_r S0 a0 46) none (fun b1 =>
  (if p1 < 0 ∨ fw_l S0 b1 ≤ p1.toNatClampNeg then none else
  (fw_let ((fw_g S0 b1 p1.toNatClampNeg) - p4) (fun x3 =>
  (fw_let (fw_wi S0 a0 49 (0 : Int32)) (fun S4 =>
  (Option.bind (F_Mo_put a0 p3 S4) (fun S5 =>
  (if x3 ≤ (8 : Int32) then
  (Option.bind (F_Mo_put a0 (0 : Int32) S5) (fun S7 =>
  F_Mo_answer_l41 4096 a0 p1 p2 p4 p4 S7))
  else
  (Option.bind (F_Mo_put a0 (1 : Int32) S5) (fun S22 =>
  F_Mo_answer_l41 4096 a0 p1 p2 p4 p4 S22))))))))))))
def F_Mo_remember_l113 (k97 : Nat → Int32 → Int32 → Int32 → fw_S → Option (fw_S)) : Nat → Nat → Int32 → Int32 → Int32 → Int32 → fw_S → Option (fw_S)
  | 0, _, _, _, _, _, _ => none
  | n + 1, v0, v2, v4, v5, v6, S0 =>
    (if (fw_g S0 v0 38) ≤ v6 then
  k97 v0 v2 v4 (v5 + (1 : Int32)) S0
  else
  (fw_om (fw_r S0 v0 39) none (fun b27 =>
  (if v6 < 0 ∨ fw_l S0 b27 ≤ v6.toNatClampNeg then none else
  (fw_om (fw_r S0 v0 3) none (fun b29 =>
  (if ((v2 + (4 : Int32)) + v5) < 0 ∨ fw_l S0 b29 ≤ ((v2 + (4 : Int32)) + v5).toNatClampNeg then none else
  (if (fw_g S0 b27 v6.toNatClampNeg) = (fw_g S0 b29 ((v2 + (4 : Int32)) + v5).toNatClampNeg) then
  (fw_om (fw_r S0 v0 46) none (fun b31 =>
  (if v4 < 0 ∨ fw_l S0 b31 ≤ v4.toNatClampNeg then none else
  (if (60 : Int32) ≤ (fw_g S0 b31 v4.toNatClampNeg) then
  F_Mo_remember_l113 k97 n v0 v2 v4 v5 (v6 + (1 : Int32)) S0
  else
  (fw_om (fw_r S0 v0 47) ((fw_om (fw_r S0 v0 46) none (fun b34 =>
  (if v4 < 0 ∨ fw_l S0 b34 ≤ v4.toNatClampNeg then none else
  (fw_om (fw_r S0 v0 39) none (fun b36 =>
  (if v6 < 0 ∨ fw_l S0 b36 ≤ v6.toNatClampNeg then none else
  none))))))) (fun b33 =>
  (fw_om (fw_r S0 v0 46) none (fun b38 =>
  (if v4 < 0 ∨ fw_l S0 b38 ≤ v4.toNatClampNeg then none else
  (fw_om (fw_r S0 v0 39) none (fun b40 =>
  (if v6 < 0 ∨ fw_l S0 b40 ≤ v6.toNatClampNeg then none else
  (if (((60 : Int32) * v4) + (fw_g S0 b38 v4.toNatClampNeg)) < 0 ∨ fw_l S0 b33 ≤ (((60 : Int32) * v4) + (fw_g S0 b38 v4.toNatClampNeg)).toNatClampNeg then none else
  (fw_let (fw_wi S0 b33 (((60 : Int32) * v4) + (fw_g S0 b38 v4.toNatClampNeg)).toNatClampNeg (fw_g S0 b40 v6.toNatClampNeg)) (fun S43 =>
  (fw_om (fw_r S43 v0 48) ((fw_om (fw_r S43 v0 46) none (fun b45 =>
  (if v4 < 0 ∨ fw_l S43 b45 ≤ v4.toNatClampNeg then none else
  (fw_om (fw_r S43 v0 40) none (fun b47 =>
  (if v6 < 0 ∨ fw_l S43 b47 ≤ v6.toNatClampNeg then none else
  none))))))) (fun b44 =>
  (fw_om (fw_r S43 v0 46) none (fun b49 =>
  (if v4 < 0 ∨ fw_l S43 b49 ≤ v4.toNatClampNeg then none else
  (fw_om (fw_r S43 v0 40) none (fun b51 =>
  (if v6 < 0 ∨ fw_l S43 b51 ≤ v6.toNatClampNeg then none else
  (if (((60 : Int32) * v4) + (fw_g S43 b49 v4.toNatClampNeg)) < 0 ∨ fw_l S43 b44 ≤ (((60 : Int32) * v4) + (fw_g S43 b49 v4.toNatClampNeg)).toNatClampNeg then none else
  (fw_let (fw_wi S43 b44 (((60 : Int32) * v4) + (fw_g S43 b49 v4.toNatClampNeg)).toNatClampNeg (fw_g S43 b51 v6.toNatClampNeg)) (fun S54 =>
  (fw_om (fw_r S54 v0 46) none (fun b55 =>
  (if v4 < 0 ∨ fw_l S54 b55 ≤ v4.toNatClampNeg then none else
  (if v4 < 0 ∨ fw_l S54 b55 ≤ v4.toNatClampNeg then none else
  (fw_let (fw_wi S54 b55 v4.toNatClampNeg ((fw_g S54 b55 v4.toNatClampNeg) + (1 : Int32))) (fun S58 =>
  F_Mo_remember_l113 k97 n v0 v2 v4 v5 (v6 + (1 : Int32)) S58))))))))))))))))))))))))))))))))
  else
  F_Mo_remember_l113 k97 n v0 v2 v4 v5 (v6 + (1 : Int32)) S0))))))))
def F_Mo_remember_l97 : Nat → Nat → Int32 → Int32 → Int32 → fw_S → Option (fw_S)
  | 0, _, _, _, _, _ => none
  | n + 1, v0, v2, v4, v5, S0 =>
    (fw_om (fw_r S0 v0 3) none (fun b25 =>
  (if (v2 + (3 : Int32)) < 0 ∨ fw_l S0 b25 ≤ (v2 + (3 : Int32)).toNatClampNeg then none else
  (if (fw_g S0 b25 (v2 + (3 : Int32)).toNatClampNeg) ≤ v5 then
  (some S0)
  else
  F_Mo_remember_l113 (F_Mo_remember_l97 n) 4096 v0 v2 v4 v5 (0 : Int32) S0))))
def F_Mo_remember_j32 (v0 : Nat) (v1 : Int32) (v2 : Int32) (S0 : fw_S) : Option (fw_S) :=
    (fw_let (fw_g S0 v0 41) (fun x3 =>
  (fw_let (fw_wi S0 v0 41 ((fw_g S0 v0 41) + (1 : Int32))) (fun S4 =>
  (fw_om (fw_r S4 v0 43) none (fun b5 =>
  (if x3 < 0 ∨ fw_l S4 b5 ≤ x3.toNatClampNeg then none else
  (fw_let (fw_wi S4 b5 x3.toNatClampNeg v1) (fun S7 =>
  (fw_om (fw_r S7 v0 44) ((fw_om (fw_r S7 v0 3) none (fun b9 =>
  (if (v2 + (4 : Int32)) < 0 ∨ fw_l S7 b9 ≤ (v2 + (4 : Int32)).toNatClampNeg then none else
  none)))) (fun b8 =>
  (fw_om (fw_r S7 v0 3) none (fun b11 =>
  (if (v2 + (4 : Int32)) < 0 ∨ fw_l S7 b11 ≤ (v2 + (4 : Int32)).toNatClampNeg then none else
  (if x3 < 0 ∨ fw_l S7 b8 ≤ x3.toNatClampNeg then none else
  (fw_let (fw_wi S7 b8 x3.toNatClampNeg (fw_g S7 b11 (v2 + (4 : Int32)).toNatClampNeg)) (fun S14 =>
  (fw_om (fw_r S14 v0 45) ((fw_om (fw_r S14 v0 3) none (fun b16 =>
  (if (v2 + (4 : Int32)) < 0 ∨ fw_l S14 b16 ≤ (v2 + (4 : Int32)).toNatClampNeg then none else
  none)))) (fun b15 =>
  (fw_om (fw_r S14 v0 3) none (fun b18 =>
  (if (v2 + (4 : Int32)) < 0 ∨ fw_l S14 b18 ≤ (v2 + (4 : Int32)).toNatClampNeg then none else
  (if x3 < 0 ∨ fw_l S14 b15 ≤ x3.toNatClampNeg then none else
  (fw_let (fw_wi S14 b15 x3.toNatClampNeg (fw_g S14 b18 (v2 + (4 : Int32)).toNatClampNeg)) (fun S21 =>
  (fw_om (fw_r S21 v0 46) none (fun b22 =>
  (if x3 < 0 ∨ fw_l S21 b22 ≤ x3.toNatClampNeg then none else
  (fw_let (fw_wi S21 b22 x3.toNatClampNeg (0 : Int32)) (fun S24 =>
  F_Mo_remember_l97 4096 v0 v2 x3 (1 : Int32) S24))))))))))))))))))))))))))))))
def F_Mo_remember (a0 : Nat) (p1 : Int32) (p2 : Int32) (S0 : fw_S) : Option (fw_S) :=
  (Option.bind (F_Mo_placeOf a0 p1 S0) (fun x1 =>
  (if x1 < 0 then
  (if (fw_g S0 a0 41) = (8 : Int32) then
  (Option.bind (F_Mo_forget a0 (0 : Int32) S0) (fun S59 =>
  F_Mo_remember_j32 a0 p1 p2 S59))
  else
  F_Mo_remember_j32 a0 p1 p2 S0)
  else
  (Option.bind (F_Mo_forget a0 x1 S0) (fun S61 =>
  F_Mo_remember_j32 a0 p1 p2 S61)))))
def F_Mo_isServed_j138 (v0 : Nat) (v2 : Int32) (v3 : Int32) (v4 : Int32) (v5 : Int32) (s0 : Int32) (S0 : fw_S) : Option (Int32 × fw_S) :=
    (if s0 = 0 then
  (fw_let (fw_wi S0 v0 49 (0 : Int32)) (fun S6 =>
  (Option.bind (F_Mo_put v0 v4 S6) (fun S7 =>
  (fw_b2 (F_Mo_send v0 (4 : Int32) (4 : Int32) v2 S7) (fun x10 S9 =>
  (some ((1 : Int32), S9))))))))
  else
  (fw_om (fw_r S0 v0 45) none (fun b12 =>
  (if v5 < 0 ∨ fw_l S0 b12 ≤ v5.toNatClampNeg then none else
  (fw_let (fw_wi S0 b12 v5.toNatClampNeg v4) (fun S14 =>
  (fw_om (fw_r S14 v0 3) none (fun b15 =>
  (if (v3 + (5 : Int32)) < 0 ∨ fw_l S14 b15 ≤ (v3 + (5 : Int32)).toNatClampNeg then none else
  (Option.bind (F_Mo_answer v0 v5 v2 v4 (fw_g S14 b15 (v3 + (5 : Int32)).toNatClampNeg) S14) (fun S17 =>
  (some ((1 : Int32), S17)))))))))))))
def F_Mo_isServed_j137 (v0 : Nat) (v2 : Int32) (v3 : Int32) (v4 : Int32) (v5 : Int32) (S0 : fw_S) : Option (Int32 × fw_S) :=
    F_Mo_isServed_j138 v0 v2 v3 v4 v5 (0 : Int32) S0
def F_Mo_isServed_j133 (v0 : Nat) (v2 : Int32) (v3 : Int32) (v4 : Int32) (v5 : Int32) (S0 : fw_S) : Option (Int32 × fw_S) :=
    F_Mo_isServed_j138 v0 v2 v3 v4 v5 (1 : Int32) S0
def F_Mo_isServed_j52 (v0 : Nat) (v2 : Int32) (v3 : Int32) (v4 : Int32) (S0 : fw_S) : Option (Int32 × fw_S) :=
    (Option.bind (F_Mo_remember v0 v2 v3 S0) (fun S27 =>
  (Option.bind (F_Mo_placeOf v0 v2 S27) (fun x29 =>
  (Option.bind (F_Mo_answer v0 x29 v2 v4 (0 : Int32) S27) (fun S31 =>
  (some ((1 : Int32), S31))))))))
def F_Mo_isServed (a0 : Nat) (p1 : Int32) (p2 : Int32) (p3 : Int32) (S0 : fw_S) : Option (Int32 × fw_S) :=
  (fw_om (fw_r S0 a0 3) none (fun b1 =>
  (if (p3 + (4 : Int32)) < 0 ∨ fw_l S0 b1 ≤ (p3 + (4 : Int32)).toNatClampNeg then none else
  (fw_let (fw_g S0 b1 (p3 + (4 : Int32)).toNatClampNeg) (fun x3 =>
  (Option.bind (F_Mo_placeOf a0 p2 S0) (fun x4 =>
  (if p1 = (1 : Int32) then
  (if x4 < 0 then
  F_Mo_isServed_j52 a0 p2 p3 x3 S0
  else
  (fw_om (fw_r S0 a0 44) none (fun b33 =>
  (if x4 < 0 ∨ fw_l S0 b33 ≤ x4.toNatClampNeg then none else
  (if (fw_g S0 b33 x4.toNatClampNeg) = x3 then
  (fw_let (fw_wi S0 a0 42 ((fw_g S0 a0 42) + (1 : Int32))) (fun S35 =>
  (Option.bind (F_Mo_placeOf a0 p2 S35) (fun x36 =>
  (Option.bind (F_Mo_answer a0 x36 p2 x3 (0 : Int32) S35) (fun S38 =>
  (some ((1 : Int32), S38))))))))
  else
  F_Mo_isServed_j52 a0 p2 p3 x3 S0)))))
  else
  (if p1 = (3 : Int32) then
  (if x4 < 0 then
  F_Mo_isServed_j137 a0 p2 p3 x3 x4 S0
  else
  (fw_om (fw_r S0 a0 3) none (fun b19 =>
  (if (p3 + (5 : Int32)) < 0 ∨ fw_l S0 b19 ≤ (p3 + (5 : Int32)).toNatClampNeg then none else
  (fw_om (fw_r S0 a0 46) none (fun b21 =>
  (if x4 < 0 ∨ fw_l S0 b21 ≤ x4.toNatClampNeg then none else
  (if (fw_g S0 b21 x4.toNatClampNeg) < (fw_g S0 b19 (p3 + (5 : Int32)).toNatClampNeg) then
  F_Mo_isServed_j137 a0 p2 p3 x3 x4 S0
  else
  (fw_om (fw_r S0 a0 45) none (fun b23 =>
  (if x4 < 0 ∨ fw_l S0 b23 ≤ x4.toNatClampNeg then none else
  (if x3 = (fw_g S0 b23 x4.toNatClampNeg) then
  F_Mo_isServed_j133 a0 p2 p3 x3 x4 S0
  else
  (fw_om (fw_r S0 a0 45) none (fun b25 =>
  (if x4 < 0 ∨ fw_l S0 b25 ≤ x4.toNatClampNeg then none else
  (if x3 = (((fw_g S0 b25 x4.toNatClampNeg) + (1 : Int32)) &&& (255 : Int32)) then
  F_Mo_isServed_j133 a0 p2 p3 x3 x4 S0
  else
  F_Mo_isServed_j137 a0 p2 p3 x3 x4 S0))))))))))))))))
  else
  (some ((0 : Int32), S0)))))))))))
def F_Mo_end (a0 : Nat) (p1 : Int32) (S0 : fw_S) : Option (fw_S) :=
  (fw_om (fw_r S0 a0 4) none (fun b1 =>
  (if p1 < 0 ∨ fw_l S0 b1 ≤ p1.toNatClampNeg then none else
  (fw_let (fw_wi S0 b1 p1.toNatClampNeg (0 : Int32)) (fun S3 =>
  (if (4 : Int32) ≤ p1 then
  (some S3)
  else
  (fw_om (fw_r S3 a0 0) none (fun b4 =>
  (if p1 < 0 ∨ fw_l S3 b4 ≤ p1.toNatClampNeg then none else
  (fw_let (fw_wi S3 b4 p1.toNatClampNeg (0 : Int32)) (fun S6 =>
  (fw_om (fw_r S6 a0 2) none (fun b7 =>
  (if p1 < 0 ∨ fw_l S6 b7 ≤ p1.toNatClampNeg then none else
  (fw_let (fw_wi S6 b7 p1.toNatClampNeg (0 : Int32)) (fun S9 =>
  (some S9)))))))))))))))))
def F_Mo_isLength (p0 : Int32) (p1 : Int32) (S0 : fw_S) : Option (Int32) :=
  (if p0 = (1 : Int32) then
  (Option.bind (F_Mo_isIn p1 (2 : Int32) (9 : Int32) S0) (fun x3 =>
  (if x3 = 0 ∨ x3 = 1 then some x3 else none)))
  else
  (if p0 = (2 : Int32) then
  (Option.bind (F_Mo_isIn p1 (2 : Int32) (18 : Int32) S0) (fun x1 =>
  (if x1 = 0 then
  (some (0 : Int32))
  else
  (if (p1 - p1 / (2 : Int32) * (2 : Int32)) = 0 then
  (some (1 : Int32))
  else
  (some (0 : Int32))))))
  else
  (if p0 = (3 : Int32) then
  (if p1 = (2 : Int32) then
  (some (1 : Int32))
  else
  (some (0 : Int32)))
  else
  (if p1 = (1 : Int32) then
  (some (1 : Int32))
  else
  (some (0 : Int32))))))
def F_Mo_fits_j127 (S0 : fw_S) (v3 : Int32) (v4 : Int32) : Option (Int32) :=
    (if v4 = v3 then
  (some (1 : Int32))
  else
  (some (0 : Int32)))
def F_Mo_fits_l101 (S0 : fw_S) : Nat → Nat → Int32 → Int32 → Int32 → Int32 → Int32 → Option (Int32)
  | 0, _, _, _, _, _, _ => none
  | n + 1, v0, v1, v2, v3, v4, v5 =>
    (if v2 ≤ v5 then
  F_Mo_fits_j127 S0 v3 v4
  else
  (fw_om (fw_r S0 v0 3) none (fun b3 =>
  (if (v1 + v5) < 0 ∨ fw_l S0 b3 ≤ (v1 + v5).toNatClampNeg then none else
  (fw_let (v4 ^^^ (fw_g S0 b3 (v1 + v5).toNatClampNeg)) (fun x5 =>
  F_Mo_fits_l101 S0 n v0 v1 v2 v3 x5 (v5 + (1 : Int32))))))))
def F_Mo_fits_j74 (S0 : fw_S) (v0 : Nat) (v1 : Int32) (v2 : Int32) (v3 : Int32) : Option (Int32) :=
    (if v2 < (4 : Int32) then
  (some (1 : Int32))
  else
  (fw_om (fw_r S0 v0 3) none (fun b1 =>
  (if (v1 + (3 : Int32)) < 0 ∨ fw_l S0 b1 ≤ (v1 + (3 : Int32)).toNatClampNeg then none else
  (if ((fw_g S0 b1 (v1 + (3 : Int32)).toNatClampNeg) + (4 : Int32)) ≤ v2 then
  F_Mo_fits_l101 S0 4096 v0 v1 v2 v3 (0 : Int32) (1 : Int32)
  else
  (some (1 : Int32)))))))
def F_Mo_fits (a0 : Nat) (p1 : Int32) (p2 : Int32) (p3 : Int32) (S0 : fw_S) : Option (Int32) :=
  (if p2 = 0 then
  (if p3 = (126 : Int32) then
  (some (1 : Int32))
  else
  (some (0 : Int32)))
  else
  (if p2 = (1 : Int32) then
  (Option.bind (F_Mo_isIn p3 (1 : Int32) (4 : Int32) S0) (fun x13 =>
  (if x13 = 0 ∨ x13 = 1 then some x13 else none)))
  else
  (if p2 = (3 : Int32) then
  (fw_om (fw_r S0 a0 3) none (fun b8 =>
  (if (p1 + (1 : Int32)) < 0 ∨ fw_l S0 b8 ≤ (p1 + (1 : Int32)).toNatClampNeg then none else
  (Option.bind (F_Mo_isLength (fw_g S0 b8 (p1 + (1 : Int32)).toNatClampNeg) p3 S0) (fun x10 =>
  (if x10 = 0 ∨ x10 = 1 then some x10 else none))))))
  else
  (if p2 = (5 : Int32) then
  (fw_om (fw_r S0 a0 3) none (fun b6 =>
  (if (p1 + (1 : Int32)) < 0 ∨ fw_l S0 b6 ≤ (p1 + (1 : Int32)).toNatClampNeg then none else
  (if (fw_g S0 b6 (p1 + (1 : Int32)).toNatClampNeg) = (2 : Int32) then
  (if (2 : Int32) ≤ p3 then
  (some (0 : Int32))
  else
  (some (1 : Int32)))
  else
  F_Mo_fits_j74 S0 a0 p1 p2 p3))))
  else
  F_Mo_fits_j74 S0 a0 p1 p2 p3))))
def F_Mo_come_j137 (v0 : Nat) (v5 : Int32) (s0 : Int32) (S0 : fw_S) : Option (Int32 × fw_S) :=
    (if s0 = 0 then
  (fw_let (fw_wi S0 v0 9 (fw_g S0 v0 9)) (fun S28 =>
  (if s0 = 0 then
  (some (v5, S28))
  else
  (some ((v5 + (10 : Int32)), S28)))))
  else
  (fw_let (fw_wi S0 v0 9 ((fw_g S0 v0 9) + (1 : Int32))) (fun S29 =>
  (if s0 = 0 then
  (some (v5, S29))
  else
  (some ((v5 + (10 : Int32)), S29))))))
def F_Mo_come (a0 : Nat) (p1 : Int32) (p2 : Int32) (S0 : fw_S) : Option (Int32 × fw_S) :=
  (fw_let ((30 : Int32) * p1) (fun x1 =>
  (fw_om (fw_r S0 a0 4) none (fun b2 =>
  (if p1 < 0 ∨ fw_l S0 b2 ≤ p1.toNatClampNeg then none else
  (fw_let (fw_g S0 b2 p1.toNatClampNeg) (fun x4 =>
  (Option.bind (F_Mo_fits a0 x1 x4 p2 S0) (fun x5 =>
  (if x5 = 0 then
  (Option.bind (F_Mo_end a0 p1 S0) (fun S33 =>
  (some ((-10 : Int32), S33))))
  else
  (fw_om (fw_r S0 a0 3) none (fun b7 =>
  (if (x1 + x4) < 0 ∨ fw_l S0 b7 ≤ (x1 + x4).toNatClampNeg then none else
  (fw_let (fw_wi S0 b7 (x1 + x4).toNatClampNeg p2) (fun S9 =>
  (fw_om (fw_r S9 a0 4) none (fun b10 =>
  (if p1 < 0 ∨ fw_l S9 b10 ≤ p1.toNatClampNeg then none else
  (if p1 < 0 ∨ fw_l S9 b10 ≤ p1.toNatClampNeg then none else
  (fw_let (fw_wi S9 b10 p1.toNatClampNeg ((fw_g S9 b10 p1.toNatClampNeg) + (1 : Int32))) (fun S13 =>
  (if x4 < (4 : Int32) then
  (some ((0 : Int32), S13))
  else
  (fw_om (fw_r S13 a0 3) none (fun b14 =>
  (if (x1 + (3 : Int32)) < 0 ∨ fw_l S13 b14 ≤ (x1 + (3 : Int32)).toNatClampNeg then none else
  (if ((fw_g S13 b14 (x1 + (3 : Int32)).toNatClampNeg) + (4 : Int32)) ≤ x4 then
  (fw_om (fw_r S13 a0 4) none (fun b16 =>
  (if p1 < 0 ∨ fw_l S13 b16 ≤ p1.toNatClampNeg then none else
  (fw_let (fw_wi S13 b16 p1.toNatClampNeg (0 : Int32)) (fun S18 =>
  (fw_om (fw_r S18 a0 3) none (fun b19 =>
  (if (x1 + (1 : Int32)) < 0 ∨ fw_l S18 b19 ≤ (x1 + (1 : Int32)).toNatClampNeg then none else
  (fw_let (fw_g S18 b19 (x1 + (1 : Int32)).toNatClampNeg) (fun x21 =>
  (fw_om (fw_r S18 a0 3) none (fun b22 =>
  (if (x1 + (2 : Int32)) < 0 ∨ fw_l S18 b22 ≤ (x1 + (2 : Int32)).toNatClampNeg then none else
  (fw_let (fw_g S18 b22 (x1 + (2 : Int32)).toNatClampNeg) (fun x24 =>
  (if p1 = (4 : Int32) then
  (fw_b2 (F_Mo_isServed a0 x21 x24 x1 S18) (fun x31 S30 =>
  (if x31 = 0 then
  F_Mo_come_j137 a0 x21 (1 : Int32) S30
  else
  F_Mo_come_j137 a0 x21 (0 : Int32) S30)))
  else
  (fw_b2 (F_Mo_isDropped a0 p1 x21 x24 x1 S18) (fun x26 S25 =>
  F_Mo_come_j137 a0 x21 x26 S25))))))))))))))))))
  else
  (some ((0 : Int32), S13))))))))))))))))))))))))))))
def F_Mo_octet (a0 : Nat) (p1 : Int32) (p2 : Int32) (S0 : fw_S) : Option (Int32 × fw_S) :=
  (Option.bind (F_Mo_isIn p1 (0 : Int32) (4 : Int32) S0) (fun x1 =>
  (if x1 = 0 then
  (some ((-1 : Int32), S0))
  else
  (fw_om (fw_r S0 a0 0) none (fun b3 =>
  (if p1 < 0 ∨ fw_l S0 b3 ≤ p1.toNatClampNeg then none else
  (if (fw_g S0 b3 p1.toNatClampNeg) = 0 then
  (some ((-2 : Int32), S0))
  else
  (fw_b2 (F_Mo_come a0 p1 (p2 &&& (255 : Int32)) S0) (fun x6 S5 =>
  (some (x6, S5)))))))))))
def F_Mo_takeOut_l23 : Nat → Nat → Int32 → Int32 → Int32 → fw_S → Option (Int32 × fw_S)
  | 0, _, _, _, _, _ => none
  | n + 1, v0, v1, v2, v3, S0 =>
    (fw_om (fw_r S0 v0 2) none (fun b8 =>
  (if v1 < 0 ∨ fw_l S0 b8 ≤ v1.toNatClampNeg then none else
  (if (fw_g S0 b8 v1.toNatClampNeg) ≤ v3 then
  (some (v2, S0))
  else
  (fw_om (fw_r S0 v0 1) ((fw_om (fw_r S0 v0 1) none (fun b11 =>
  (if ((((300 : Int32) * v1) + v3) + (1 : Int32)) < 0 ∨ fw_l S0 b11 ≤ ((((300 : Int32) * v1) + v3) + (1 : Int32)).toNatClampNeg then none else
  none)))) (fun b10 =>
  (fw_om (fw_r S0 v0 1) none (fun b13 =>
  (if ((((300 : Int32) * v1) + v3) + (1 : Int32)) < 0 ∨ fw_l S0 b13 ≤ ((((300 : Int32) * v1) + v3) + (1 : Int32)).toNatClampNeg then none else
  (if (((300 : Int32) * v1) + v3) < 0 ∨ fw_l S0 b10 ≤ (((300 : Int32) * v1) + v3).toNatClampNeg then none else
  (fw_let (fw_wi S0 b10 (((300 : Int32) * v1) + v3).toNatClampNeg (fw_g S0 b13 ((((300 : Int32) * v1) + v3) + (1 : Int32)).toNatClampNeg)) (fun S16 =>
  F_Mo_takeOut_l23 n v0 v1 v2 (v3 + (1 : Int32)) S16))))))))))))
def F_Mo_takeOut (a0 : Nat) (p1 : Int32) (S0 : fw_S) : Option (Int32 × fw_S) :=
  (fw_om (fw_r S0 a0 1) none (fun b1 =>
  (if ((300 : Int32) * p1) < 0 ∨ fw_l S0 b1 ≤ ((300 : Int32) * p1).toNatClampNeg then none else
  (fw_let (fw_g S0 b1 ((300 : Int32) * p1).toNatClampNeg) (fun x3 =>
  (fw_om (fw_r S0 a0 2) none (fun b4 =>
  (if p1 < 0 ∨ fw_l S0 b4 ≤ p1.toNatClampNeg then none else
  (if p1 < 0 ∨ fw_l S0 b4 ≤ p1.toNatClampNeg then none else
  (fw_let (fw_wi S0 b4 p1.toNatClampNeg ((fw_g S0 b4 p1.toNatClampNeg) - (1 : Int32))) (fun S7 =>
  F_Mo_takeOut_l23 4096 a0 p1 x3 (0 : Int32) S7)))))))))))
def F_Mo_out (a0 : Nat) (p1 : Int32) (S0 : fw_S) : Option (Int32 × fw_S) :=
  (Option.bind (F_Mo_isIn p1 (0 : Int32) (4 : Int32) S0) (fun x1 =>
  (if x1 = 0 then
  (some ((-1 : Int32), S0))
  else
  (fw_om (fw_r S0 a0 2) none (fun b3 =>
  (if p1 < 0 ∨ fw_l S0 b3 ≤ p1.toNatClampNeg then none else
  (if (fw_g S0 b3 p1.toNatClampNeg) = 0 then
  (some ((-2 : Int32), S0))
  else
  (fw_b2 (F_Mo_takeOut a0 p1 S0) (fun x6 S5 =>
  (some (x6, S5)))))))))))
def F_Mo_loop_j97 (v0 : Nat) (v3 : Int32) (S0 : fw_S) : Option (Int32 × fw_S) :=
    (fw_om (fw_r S0 v0 2) none (fun b7 =>
  (if (4 : Int32) < 0 ∨ fw_l S0 b7 ≤ (4 : Int32).toNatClampNeg then none else
  (fw_let (fw_wi S0 b7 (4 : Int32).toNatClampNeg (0 : Int32)) (fun S9 =>
  (some (v3, S9)))))))
def F_Mo_loop_l62 : Nat → Nat → Int32 → Int32 → fw_S → Option (Int32 × fw_S)
  | 0, _, _, _, _ => none
  | n + 1, v0, v1, v3, S0 =>
    (fw_om (fw_r S0 v0 2) none (fun b5 =>
  (if (4 : Int32) < 0 ∨ fw_l S0 b5 ≤ (4 : Int32).toNatClampNeg then none else
  (if (fw_g S0 b5 (4 : Int32).toNatClampNeg) ≤ 0 then
  F_Mo_loop_j97 v0 v3 S0
  else
  (fw_om (fw_r S0 v0 0) none (fun b10 =>
  (if v1 < 0 ∨ fw_l S0 b10 ≤ v1.toNatClampNeg then none else
  (if (fw_g S0 b10 v1.toNatClampNeg) = 0 then
  F_Mo_loop_j97 v0 v3 S0
  else
  (fw_b2 (F_Mo_takeOut v0 (4 : Int32) S0) (fun x13 S12 =>
  (fw_b2 (F_Mo_come v0 v1 x13 S12) (fun x16 S15 =>
  F_Mo_loop_l62 n v0 v1 (v3 + (1 : Int32)) S15))))))))))))
def F_Mo_loop_l29 : Nat → Nat → Int32 → Int32 → Int32 → fw_S → Option (Int32 × fw_S)
  | 0, _, _, _, _, _ => none
  | n + 1, v0, v1, v2, v3, S0 =>
    (if v2 ≤ v3 then
  F_Mo_loop_l62 4096 v0 v1 (0 : Int32) S0
  else
  (fw_om (fw_r S0 v0 2) none (fun b18 =>
  (if v1 < 0 ∨ fw_l S0 b18 ≤ v1.toNatClampNeg then none else
  (if (fw_g S0 b18 v1.toNatClampNeg) ≤ 0 then
  F_Mo_loop_l62 4096 v0 v1 (0 : Int32) S0
  else
  (fw_b2 (F_Mo_takeOut v0 v1 S0) (fun x21 S20 =>
  (fw_b2 (F_Mo_come v0 (4 : Int32) x21 S20) (fun x24 S23 =>
  F_Mo_loop_l29 n v0 v1 v2 (v3 + (1 : Int32)) S23)))))))))
def F_Mo_loop (a0 : Nat) (p1 : Int32) (p2 : Int32) (S0 : fw_S) : Option (Int32 × fw_S) :=
  (Option.bind (F_Mo_isIn p1 (0 : Int32) (3 : Int32) S0) (fun x1 =>
  (if x1 = 0 then
  (some ((-1 : Int32), S0))
  else
  (if 0 ≤ p2 then
  (fw_om (fw_r S0 a0 0) none (fun b3 =>
  (if p1 < 0 ∨ fw_l S0 b3 ≤ p1.toNatClampNeg then none else
  (if (fw_g S0 b3 p1.toNatClampNeg) = 0 then
  (some ((-2 : Int32), S0))
  else
  F_Mo_loop_l29 4096 a0 p1 p2 (0 : Int32) S0))))
  else
  (some ((-1 : Int32), S0))))))
def F_Mo_up_l34 : Nat → Nat → Int32 → Int32 → Int32 → fw_S → Option (Int32 × fw_S)
  | 0, _, _, _, _, _ => none
  | n + 1, v0, v1, v2, v3, S0 =>
    (if (fw_g S0 v0 14) ≤ v3 then
  (some (v2, S0))
  else
  (fw_om (fw_r S0 v0 17) none (fun b8 =>
  (if v3 < 0 ∨ fw_l S0 b8 ≤ v3.toNatClampNeg then none else
  (if (fw_g S0 b8 v3.toNatClampNeg) = 0 then
  (fw_om (fw_r S0 v0 15) none (fun b10 =>
  (if v3 < 0 ∨ fw_l S0 b10 ≤ v3.toNatClampNeg then none else
  (if (fw_g S0 b10 v3.toNatClampNeg) = v1 then
  (fw_om (fw_r S0 v0 31) none (fun b12 =>
  (if v3 < 0 ∨ fw_l S0 b12 ≤ v3.toNatClampNeg then none else
  (fw_let (fw_wi S0 b12 v3.toNatClampNeg (0 : Int32)) (fun S14 =>
  (fw_b2 (F_Mo_sendLast v0 v3 S14) (fun x16 S15 =>
  (if x16 = 0 then
  F_Mo_up_l34 n v0 v1 v2 (v3 + (1 : Int32)) S15
  else
  (fw_let (v2 + (1 : Int32)) (fun x18 =>
  F_Mo_up_l34 n v0 v1 x18 (v3 + (1 : Int32)) S15))))))))))
  else
  F_Mo_up_l34 n v0 v1 v2 (v3 + (1 : Int32)) S0))))
  else
  F_Mo_up_l34 n v0 v1 v2 (v3 + (1 : Int32)) S0)))))
def F_Mo_up (a0 : Nat) (p1 : Int32) (S0 : fw_S) : Option (Int32 × fw_S) :=
  (Option.bind (F_Mo_isIn p1 (0 : Int32) (3 : Int32) S0) (fun x1 =>
  (if x1 = 0 then
  (some ((-1 : Int32), S0))
  else
  (fw_om (fw_r S0 a0 0) none (fun b3 =>
  (if p1 < 0 ∨ fw_l S0 b3 ≤ p1.toNatClampNeg then none else
  (if (fw_g S0 b3 p1.toNatClampNeg) = 0 then
  (fw_om (fw_r S0 a0 0) none (fun b5 =>
  (if p1 < 0 ∨ fw_l S0 b5 ≤ p1.toNatClampNeg then none else
  (fw_let (fw_wi S0 b5 p1.toNatClampNeg (1 : Int32)) (fun S7 =>
  F_Mo_up_l34 4096 a0 p1 (0 : Int32) (0 : Int32) S7)))))
  else
  (some ((-2 : Int32), S0)))))))))
def F_Mo_down (a0 : Nat) (p1 : Int32) (S0 : fw_S) : Option (Int32 × fw_S) :=
  (Option.bind (F_Mo_isIn p1 (0 : Int32) (3 : Int32) S0) (fun x1 =>
  (if x1 = 0 then
  (some ((-1 : Int32), S0))
  else
  (fw_om (fw_r S0 a0 0) none (fun b3 =>
  (if p1 < 0 ∨ fw_l S0 b3 ≤ p1.toNatClampNeg then none else
  (if (fw_g S0 b3 p1.toNatClampNeg) = 0 then
  (some ((-2 : Int32), S0))
  else
  (Option.bind (F_Mo_end a0 p1 S0) (fun S5 =>
  (some ((1 : Int32), S5)))))))))))
def F_Mo_tick_l35 (k17 : Nat → Int32 → Int32 → Int32 → fw_S → Option (Int32 × fw_S)) : Nat → Nat → Int32 → Int32 → Int32 → Int32 → fw_S → Option (Int32 × fw_S)
  | 0, _, _, _, _, _, _ => none
  | n + 1, v0, v1, v2, v3, v4, S0 =>
    (if (fw_g S0 v0 14) ≤ v4 then
  k17 v0 v1 v2 (v3 + (1 : Int32)) S0
  else
  (fw_om (fw_r S0 v0 17) none (fun b4 =>
  (if v4 < 0 ∨ fw_l S0 b4 ≤ v4.toNatClampNeg then none else
  (if (fw_g S0 b4 v4.toNatClampNeg) = 0 then
  (fw_om (fw_r S0 v0 32) none (fun b6 =>
  (if v4 < 0 ∨ fw_l S0 b6 ≤ v4.toNatClampNeg then none else
  (if ((fw_g S0 v0 8) - (fw_g S0 b6 v4.toNatClampNeg)) < (fw_g S0 v0 6) then
  F_Mo_tick_l35 k17 n v0 v1 v2 v3 (v4 + (1 : Int32)) S0
  else
  (fw_om (fw_r S0 v0 31) none (fun b8 =>
  (if v4 < 0 ∨ fw_l S0 b8 ≤ v4.toNatClampNeg then none else
  (if (fw_g S0 b8 v4.toNatClampNeg) < (fw_g S0 v0 7) then
  (fw_om (fw_r S0 v0 31) none (fun b10 =>
  (if v4 < 0 ∨ fw_l S0 b10 ≤ v4.toNatClampNeg then none else
  (if v4 < 0 ∨ fw_l S0 b10 ≤ v4.toNatClampNeg then none else
  (fw_let (fw_wi S0 b10 v4.toNatClampNeg ((fw_g S0 b10 v4.toNatClampNeg) + (1 : Int32))) (fun S13 =>
  (fw_b2 (F_Mo_sendLast v0 v4 S13) (fun x15 S14 =>
  F_Mo_tick_l35 k17 n v0 v1 v2 v3 (v4 + (1 : Int32)) S14))))))))
  else
  (Option.bind (F_Mo_fail v0 v4 (1 : Int32) S0) (fun S17 =>
  F_Mo_tick_l35 k17 n v0 v1 (v2 + (1 : Int32)) v3 (v4 + (1 : Int32)) S17))))))))))
  else
  F_Mo_tick_l35 k17 n v0 v1 v2 v3 (v4 + (1 : Int32)) S0)))))
def F_Mo_tick_l17 : Nat → Nat → Int32 → Int32 → Int32 → fw_S → Option (Int32 × fw_S)
  | 0, _, _, _, _, _ => none
  | n + 1, v0, v1, v2, v3, S0 =>
    (if v1 ≤ v3 then
  (some (v2, S0))
  else
  (fw_let (fw_wi S0 v0 8 ((fw_g S0 v0 8) + (1 : Int32))) (fun S3 =>
  F_Mo_tick_l35 (F_Mo_tick_l17 n) 4096 v0 v1 v2 v3 (0 : Int32) S3)))
def F_Mo_tick (a0 : Nat) (p1 : Int32) (S0 : fw_S) : Option (Int32 × fw_S) :=
  (Option.bind (F_Mo_isIn p1 (0 : Int32) (1000 : Int32) S0) (fun x1 =>
  (if x1 = 0 then
  (some ((-1 : Int32), S0))
  else
  F_Mo_tick_l17 4096 a0 p1 (0 : Int32) (0 : Int32) S0)))
def F_Mo_joinedOnes_j102 (S0 : fw_S) (v0 : Nat) (v1 : Int32) (v3 : Int32) (v5 : Int32) (v6 : Int32) : Option (Int32) :=
    (if v3 = 0 then
  (fw_om (fw_r S0 v0 21) none (fun b13 =>
  (if (((20 : Int32) * v1) + v5) < 0 ∨ fw_l S0 b13 ≤ (((20 : Int32) * v1) + v5).toNatClampNeg then none else
  (some (fw_g S0 b13 (((20 : Int32) * v1) + v5).toNatClampNeg)))))
  else
  (fw_om (fw_r S0 v0 28) none (fun b11 =>
  (if (((60 : Int32) * v1) + v6) < 0 ∨ fw_l S0 b11 ≤ (((60 : Int32) * v1) + v6).toNatClampNeg then none else
  (some (fw_g S0 b11 (((60 : Int32) * v1) + v6).toNatClampNeg))))))
def F_Mo_joinedOnes_l58 (S0 : fw_S) (k6 : Nat → Int32 → Int32 → Int32 → Int32 → Int32 → Option (Int32)) : Nat → Nat → Int32 → Int32 → Int32 → Int32 → Int32 → Int32 → Option (Int32)
  | 0, _, _, _, _, _, _, _ => none
  | n + 1, v0, v1, v2, v3, v4, v5, v6 =>
    (fw_om (fw_r S0 v0 26) none (fun b5 =>
  (if v1 < 0 ∨ fw_l S0 b5 ≤ v1.toNatClampNeg then none else
  (if (fw_g S0 b5 v1.toNatClampNeg) ≤ v6 then
  k6 v0 v1 v2 v3 v4 (v5 + (1 : Int32))
  else
  (fw_om (fw_r S0 v0 27) none (fun b7 =>
  (if (((60 : Int32) * v1) + v6) < 0 ∨ fw_l S0 b7 ≤ (((60 : Int32) * v1) + v6).toNatClampNeg then none else
  (fw_om (fw_r S0 v0 20) none (fun b9 =>
  (if (((20 : Int32) * v1) + v5) < 0 ∨ fw_l S0 b9 ≤ (((20 : Int32) * v1) + v5).toNatClampNeg then none else
  (if (fw_g S0 b7 (((60 : Int32) * v1) + v6).toNatClampNeg) = (fw_g S0 b9 (((20 : Int32) * v1) + v5).toNatClampNeg) then
  (if v4 = v2 then
  F_Mo_joinedOnes_j102 S0 v0 v1 v3 v5 v6
  else
  F_Mo_joinedOnes_l58 S0 k6 n v0 v1 v2 v3 (v4 + (1 : Int32)) v5 (v6 + (1 : Int32)))
  else
  F_Mo_joinedOnes_l58 S0 k6 n v0 v1 v2 v3 v4 v5 (v6 + (1 : Int32)))))))))))))
def F_Mo_joinedOnes_j31 (S0 : fw_S) (v0 : Nat) (v1 : Int32) (v3 : Int32) (v5 : Int32) : Option (Int32) :=
    (if v3 = 0 then
  (fw_om (fw_r S0 v0 21) none (fun b15 =>
  (if (((20 : Int32) * v1) + v5) < 0 ∨ fw_l S0 b15 ≤ (((20 : Int32) * v1) + v5).toNatClampNeg then none else
  (some (fw_g S0 b15 (((20 : Int32) * v1) + v5).toNatClampNeg)))))
  else
  (some (-1 : Int32)))
def F_Mo_joinedOnes_l6 (S0 : fw_S) : Nat → Nat → Int32 → Int32 → Int32 → Int32 → Int32 → Option (Int32)
  | 0, _, _, _, _, _, _ => none
  | n + 1, v0, v1, v2, v3, v4, v5 =>
    (fw_om (fw_r S0 v0 19) none (fun b1 =>
  (if v1 < 0 ∨ fw_l S0 b1 ≤ v1.toNatClampNeg then none else
  (if (fw_g S0 b1 v1.toNatClampNeg) ≤ v5 then
  (some v4)
  else
  (Option.bind (F_Mo_isFailedSilently v0 v1 S0) (fun x3 =>
  (if x3 = 0 then
  F_Mo_joinedOnes_l58 S0 (F_Mo_joinedOnes_l6 S0 n) 4096 v0 v1 v2 v3 v4 v5 (0 : Int32)
  else
  (if v4 = v2 then
  F_Mo_joinedOnes_j31 S0 v0 v1 v3 v5
  else
  F_Mo_joinedOnes_l58 S0 (F_Mo_joinedOnes_l6 S0 n) 4096 v0 v1 v2 v3 (v4 + (1 : Int32)) v5 (0 : Int32)))))))))
def F_Mo_joinedOnes (a0 : Nat) (p1 : Int32) (p2 : Int32) (p3 : Int32) (S0 : fw_S) : Option (Int32) :=
  F_Mo_joinedOnes_l6 S0 4096 a0 p1 p2 p3 (0 : Int32) (0 : Int32)
def F_Mo_told (a0 : Nat) (p1 : Int32) (p2 : Int32) (S0 : fw_S) : Option (Int32) :=
  (Option.bind (F_Mo_isIn p1 (0 : Int32) ((fw_g S0 a0 14) - (1 : Int32)) S0) (fun x1 =>
  (if x1 = 0 then
  (some (-1 : Int32))
  else
  (if p2 = (0 : Int32) then
  (fw_om (fw_r S0 a0 15) none (fun b3 =>
  (if p1 < 0 ∨ fw_l S0 b3 ≤ p1.toNatClampNeg then none else
  (some (fw_g S0 b3 p1.toNatClampNeg)))))
  else
  (if p2 = (1 : Int32) then
  (fw_om (fw_r S0 a0 17) none (fun b5 =>
  (if p1 < 0 ∨ fw_l S0 b5 ≤ p1.toNatClampNeg then none else
  (some (fw_g S0 b5 p1.toNatClampNeg)))))
  else
  (if p2 = (2 : Int32) then
  (fw_om (fw_r S0 a0 18) none (fun b7 =>
  (if p1 < 0 ∨ fw_l S0 b7 ≤ p1.toNatClampNeg then none else
  (some (fw_g S0 b7 p1.toNatClampNeg)))))
  else
  (if p2 = (3 : Int32) then
  (fw_om (fw_r S0 a0 26) none (fun b9 =>
  (if p1 < 0 ∨ fw_l S0 b9 ≤ p1.toNatClampNeg then none else
  (some (fw_g S0 b9 p1.toNatClampNeg)))))
  else
  (if p2 = (4 : Int32) then
  (fw_om (fw_r S0 a0 17) none (fun b11 =>
  (if p1 < 0 ∨ fw_l S0 b11 ≤ p1.toNatClampNeg then none else
  (if (fw_g S0 b11 p1.toNatClampNeg) = (1 : Int32) then
  (Option.bind (F_Mo_joinedOnes a0 p1 (-1 : Int32) (0 : Int32) S0) (fun x13 =>
  (some x13)))
  else
  (some (0 : Int32))))))
  else
  (if p2 = (5 : Int32) then
  (fw_om (fw_r S0 a0 30) none (fun b15 =>
  (if p1 < 0 ∨ fw_l S0 b15 ≤ p1.toNatClampNeg then none else
  (some (fw_g S0 b15 p1.toNatClampNeg)))))
  else
  (if p2 = (6 : Int32) then
  (fw_om (fw_r S0 a0 31) none (fun b17 =>
  (if p1 < 0 ∨ fw_l S0 b17 ≤ p1.toNatClampNeg then none else
  (some (fw_g S0 b17 p1.toNatClampNeg)))))
  else
  (if p2 = (7 : Int32) then
  (fw_om (fw_r S0 a0 22) none (fun b19 =>
  (if p1 < 0 ∨ fw_l S0 b19 ≤ p1.toNatClampNeg then none else
  (some (fw_g S0 b19 p1.toNatClampNeg)))))
  else
  (some (-1 : Int32)))))))))))))
def F_Mo_row (a0 : Nat) (p1 : Int32) (p2 : Int32) (p3 : Int32) (S0 : fw_S) : Option (Int32) :=
  (Option.bind (F_Mo_isIn p1 (0 : Int32) ((fw_g S0 a0 14) - (1 : Int32)) S0) (fun x1 =>
  (if x1 = 0 then
  (some (-1 : Int32))
  else
  (Option.bind (F_Mo_isIn p3 (0 : Int32) (1 : Int32) S0) (fun x3 =>
  (if x3 = 0 then
  (some (-1 : Int32))
  else
  (fw_om (fw_r S0 a0 26) none (fun b5 =>
  (if p1 < 0 ∨ fw_l S0 b5 ≤ p1.toNatClampNeg then none else
  (Option.bind (F_Mo_isIn p2 (0 : Int32) ((fw_g S0 b5 p1.toNatClampNeg) - (1 : Int32)) S0) (fun x7 =>
  (if x7 = 0 then
  (some (-2 : Int32))
  else
  (if p3 = 0 then
  (fw_om (fw_r S0 a0 27) none (fun b11 =>
  (if (((60 : Int32) * p1) + p2) < 0 ∨ fw_l S0 b11 ≤ (((60 : Int32) * p1) + p2).toNatClampNeg then none else
  (some (fw_g S0 b11 (((60 : Int32) * p1) + p2).toNatClampNeg)))))
  else
  (fw_om (fw_r S0 a0 28) none (fun b9 =>
  (if (((60 : Int32) * p1) + p2) < 0 ∨ fw_l S0 b9 ≤ (((60 : Int32) * p1) + p2).toNatClampNeg then none else
  (some (fw_g S0 b9 (((60 : Int32) * p1) + p2).toNatClampNeg))))))))))))))))))
def F_Mo_joined (a0 : Nat) (p1 : Int32) (p2 : Int32) (p3 : Int32) (S0 : fw_S) : Option (Int32) :=
  (Option.bind (F_Mo_isIn p1 (0 : Int32) ((fw_g S0 a0 14) - (1 : Int32)) S0) (fun x1 =>
  (if x1 = 0 then
  (some (-1 : Int32))
  else
  (Option.bind (F_Mo_isIn p3 (0 : Int32) (1 : Int32) S0) (fun x3 =>
  (if x3 = 0 then
  (some (-1 : Int32))
  else
  (fw_om (fw_r S0 a0 17) none (fun b5 =>
  (if p1 < 0 ∨ fw_l S0 b5 ≤ p1.toNatClampNeg then none else
  (if (fw_g S0 b5 p1.toNatClampNeg) = (1 : Int32) then
  (Option.bind (F_Mo_joinedOnes a0 p1 (-1 : Int32) (0 : Int32) S0) (fun x7 =>
  (Option.bind (F_Mo_isIn p2 (0 : Int32) (x7 - (1 : Int32)) S0) (fun x9 =>
  (if x9 = 0 then
  (some (-2 : Int32))
  else
  (Option.bind (F_Mo_joinedOnes a0 p1 p2 p3 S0) (fun x11 =>
  (some x11))))))))
  else
  (some (-2 : Int32))))))))))))
def F_Mo_estimate (a0 : Nat) (p1 : Int32) (S0 : fw_S) : Option (Int32) :=
  (Option.bind (F_Mo_isIn p1 (0 : Int32) (3 : Int32) S0) (fun x1 =>
  (if x1 = 0 then
  (some (-1 : Int32))
  else
  (fw_om (fw_r S0 a0 36) none (fun b3 =>
  (if p1 < 0 ∨ fw_l S0 b3 ≤ p1.toNatClampNeg then none else
  (some (fw_g S0 b3 p1.toNatClampNeg))))))))
def F_Mo_count (a0 : Nat) (p1 : Int32) (S0 : fw_S) : Option (Int32) :=
  (if p1 = (0 : Int32) then
  (some (fw_g S0 a0 14))
  else
  (if p1 = (1 : Int32) then
  (some (fw_g S0 a0 38))
  else
  (if p1 = (2 : Int32) then
  (some (fw_g S0 a0 11))
  else
  (if p1 = (3 : Int32) then
  (some (fw_g S0 a0 8))
  else
  (if p1 = (4 : Int32) then
  (some (fw_g S0 a0 9))
  else
  (if p1 = (5 : Int32) then
  (some (fw_g S0 a0 10))
  else
  (if p1 = (6 : Int32) then
  (some (fw_g S0 a0 42))
  else
  (if p1 = (7 : Int32) then
  (some (fw_g S0 a0 41))
  else
  (some (-1 : Int32))))))))))
def F_Mo_line (a0 : Nat) (p1 : Int32) (p2 : Int32) (S0 : fw_S) : Option (Int32) :=
  (Option.bind (F_Mo_isIn p1 (0 : Int32) (4 : Int32) S0) (fun x1 =>
  (if x1 = 0 then
  (some (-1 : Int32))
  else
  (Option.bind (F_Mo_isIn p2 (0 : Int32) (2 : Int32) S0) (fun x3 =>
  (if x3 = 0 then
  (some (-1 : Int32))
  else
  (if p2 = 0 then
  (fw_om (fw_r S0 a0 0) none (fun b9 =>
  (if p1 < 0 ∨ fw_l S0 b9 ≤ p1.toNatClampNeg then none else
  (if (fw_g S0 b9 p1.toNatClampNeg) = 0 then
  (some (0 : Int32))
  else
  (some (1 : Int32))))))
  else
  (if p2 = (1 : Int32) then
  (fw_om (fw_r S0 a0 2) none (fun b7 =>
  (if p1 < 0 ∨ fw_l S0 b7 ≤ p1.toNatClampNeg then none else
  (some (fw_g S0 b7 p1.toNatClampNeg)))))
  else
  (fw_om (fw_r S0 a0 4) none (fun b5 =>
  (if p1 < 0 ∨ fw_l S0 b5 ≤ p1.toNatClampNeg then none else
  (some (fw_g S0 b5 p1.toNatClampNeg)))))))))))))
