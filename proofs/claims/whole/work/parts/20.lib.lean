/-! Small laws: numbers, literals, bytes; stores that agree. -/
theorem li_0 : (0 : Int32) = nI 0 := rfl
theorem li_1 : (1 : Int32) = nI 1 := rfl
theorem li_2 : (2 : Int32) = nI 2 := rfl
theorem li_3 : (3 : Int32) = nI 3 := rfl
theorem li_4 : (4 : Int32) = nI 4 := rfl
theorem li_5 : (5 : Int32) = nI 5 := rfl
theorem li_300 : (300 : Int32) = nI 300 := rfl
theorem nI_sub {a b : Nat} (h : b ≤ a) : nI a - nI b = nI (a - b) := pk_sub h
theorem nI_mod {a b : Nat} (ha : a < 2 ^ 31) (h0 : 0 < b) (hb : b < 2 ^ 31) : nI a - nI a / nI b * nI b = nI (a % b) := pk_rem ha h0 hb
theorem nI_lt_f {a b : Nat} (h : b ≤ a) (ha : a < 2 ^ 31) : (nI a < nI b) = False := by
  have := nI_nlt h ha
  simp [this]
theorem nI_lt_t {a b : Nat} (h : a < b) (hb : b < 2 ^ 31) : (nI a < nI b) = True := by
  have := nI_lt h hb
  simp [this]
theorem nI_le_f {a b : Nat} (h : b < a) (ha : a < 2 ^ 31) : (nI a ≤ nI b) = False := by
  have := nI_ge h ha
  simp [this]
theorem nI_le_t {a b : Nat} (h : a ≤ b) (hb : b < 2 ^ 31) : (nI a ≤ nI b) = True := by
  have := nI_le h hb
  simp [this]
/-- a byte -/
def b8 (b : Int32) : Prop := b &&& 255 = b
theorem b8_and (x : Int32) : b8 (x &&& 255) := by
  unfold b8
  rw [Int32.and_assoc]; rfl
theorem b8_nI {n : Nat} (h : n < 256) : b8 (nI n) := by
  have := pk_andN (n := n) (by omega) (m := 255) 8 (by decide)
  unfold b8
  rw [this, Nat.mod_eq_of_lt h]
theorem b8_of {b : Int32} (h : b8 b) : ∃ n, n < 256 ∧ b = nI n := by
  obtain ⟨j, h1, h2⟩ := pk_andE b (m := 255) 8 (by decide)
  exact ⟨j, h1, h.symm.trans h2⟩
theorem b8_xor {a b : Int32} (ha : b8 a) (hb : b8 b) : b8 (a ^^^ b) := by
  unfold b8 at *
  have : (a ^^^ b) &&& 255 = (a &&& 255) ^^^ (b &&& 255) := by
    apply Int32.toBitVec_inj.mp
    simp only [Int32.toBitVec_and, Int32.toBitVec_xor]
    ext i hi
    simp only [BitVec.getElem_and, BitVec.getElem_xor]
    cases a.toBitVec[i] <;> cases b.toBitVec[i] <;> cases (Int32.toBitVec 255)[i] <;> rfl
  rw [this, ha, hb]
-- stores that agree on ints at a, and in all but ints
def ag (a : Nat) (S S' : fw_S) : Prop := fw_g S' a = fw_g S a
def sm (S S' : fw_S) : Prop := S'.2 = S.2
theorem sm_r {S S' : fw_S} (h : sm S S') (a : Nat) : fw_r S' a = fw_r S a := by unfold fw_r; rw [h]
theorem sm_l {S S' : fw_S} (h : sm S S') (a : Nat) : fw_l S' a = fw_l S a := by unfold fw_l; rw [h]
theorem sm_z {S S' : fw_S} (h : sm S S') : fw_z S' = fw_z S := by unfold fw_z; rw [h]
theorem sm_rf {S : fw_S} : sm S S := rfl
theorem sm_tr {S S' S'' : fw_S} (h : sm S S') (h' : sm S' S'') : sm S S'' := Eq.trans h' h
theorem sm_wi {S : fw_S} {a k : Nat} {v : Int32} : sm S (fw_wi S a k v) := rfl
theorem g_s {S : fw_S} {a k : Nat} {v : Int32} : fw_g (fw_wi S a k v) a k = v := by rw [fw_g_wi]; simp
theorem g_k {S : fw_S} {a k j : Nat} {v : Int32} (h : j ≠ k) : fw_g (fw_wi S a k v) a j = fw_g S a j := by rw [fw_g_wi]; simp [h]
theorem g_a {S : fw_S} {a b k j : Nat} {v : Int32} (h : b ≠ a) : fw_g (fw_wi S a k v) b j = fw_g S b j := by rw [fw_g_wi]; simp [h]
