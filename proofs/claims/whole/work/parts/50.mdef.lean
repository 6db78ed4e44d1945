/-! The reference at m: its cells for a state. -/
def mF : List (Nat × Nat) := [(0, 1), (1, 2), (2, 3), (3, 4), (4, 5), (12, 6), (13, 7), (15, 8), (16, 9), (17, 10), (18, 11), (19, 12), (20, 13), (21, 14), (22, 15), (23, 16), (24, 17), (25, 18), (26, 19), (27, 20), (28, 21), (29, 22), (30, 23), (31, 24), (32, 25), (33, 26), (34, 27), (35, 28), (36, 29), (37, 30), (39, 31), (40, 32), (43, 33), (44, 34), (45, 35), (46, 36), (47, 37), (48, 38), (50, 39)]
def mL : List (Nat × Nat) := [(1, 5), (2, 1500), (3, 5), (4, 150), (5, 5), (6, 20), (7, 20), (8, 24), (9, 24), (10, 24), (11, 24), (12, 24), (13, 480), (14, 480), (15, 24), (16, 480), (17, 24), (18, 24), (19, 24), (20, 1440), (21, 1440), (22, 24), (23, 24), (24, 24), (25, 24), (26, 24), (27, 24), (28, 480), (29, 4), (30, 4), (31, 60), (32, 60), (33, 9), (34, 9), (35, 9), (36, 9), (37, 540), (38, 540), (39, 24)]
def ShM (S : fw_S) (m : Nat) : Prop := (∀ p ∈ mF, fw_r S m p.1 = some (m + p.2)) ∧ ∀ p ∈ mL, fw_l S (m + p.1) = p.2
theorem ShM.keep {S S' : fw_S} {m : Nat} (h : ShM S m) (hs : sm S S') : ShM S' m := ⟨fun p hp => by rw [sm_r hs]; exact h.1 p hp, fun p hp => by rw [sm_l hs]; exact h.2 p hp⟩
theorem ShM.r0 {S : fw_S} {m : Nat} (h : ShM S m) : fw_r S m 0 = some (m + 1) := h.1 (0, 1) (by decide)
theorem ShM.r1 {S : fw_S} {m : Nat} (h : ShM S m) : fw_r S m 1 = some (m + 2) := h.1 (1, 2) (by decide)
theorem ShM.r2 {S : fw_S} {m : Nat} (h : ShM S m) : fw_r S m 2 = some (m + 3) := h.1 (2, 3) (by decide)
theorem ShM.r3 {S : fw_S} {m : Nat} (h : ShM S m) : fw_r S m 3 = some (m + 4) := h.1 (3, 4) (by decide)
theorem ShM.r4 {S : fw_S} {m : Nat} (h : ShM S m) : fw_r S m 4 = some (m + 5) := h.1 (4, 5) (by decide)
theorem ShM.r12 {S : fw_S} {m : Nat} (h : ShM S m) : fw_r S m 12 = some (m + 6) := h.1 (12, 6) (by decide)
theorem ShM.r13 {S : fw_S} {m : Nat} (h : ShM S m) : fw_r S m 13 = some (m + 7) := h.1 (13, 7) (by decide)
theorem ShM.r15 {S : fw_S} {m : Nat} (h : ShM S m) : fw_r S m 15 = some (m + 8) := h.1 (15, 8) (by decide)
theorem ShM.r16 {S : fw_S} {m : Nat} (h : ShM S m) : fw_r S m 16 = some (m + 9) := h.1 (16, 9) (by decide)
theorem ShM.r17 {S : fw_S} {m : Nat} (h : ShM S m) : fw_r S m 17 = some (m + 10) := h.1 (17, 10) (by decide)
theorem ShM.r18 {S : fw_S} {m : Nat} (h : ShM S m) : fw_r S m 18 = some (m + 11) := h.1 (18, 11) (by decide)
theorem ShM.r19 {S : fw_S} {m : Nat} (h : ShM S m) : fw_r S m 19 = some (m + 12) := h.1 (19, 12) (by decide)
theorem ShM.r20 {S : fw_S} {m : Nat} (h : ShM S m) : fw_r S m 20 = some (m + 13) := h.1 (20, 13) (by decide)
theorem ShM.r21 {S : fw_S} {m : Nat} (h : ShM S m) : fw_r S m 21 = some (m + 14) := h.1 (21, 14) (by decide)
theorem ShM.r22 {S : fw_S} {m : Nat} (h : ShM S m) : fw_r S m 22 = some (m + 15) := h.1 (22, 15) (by decide)
theorem ShM.r23 {S : fw_S} {m : Nat} (h : ShM S m) : fw_r S m 23 = some (m + 16) := h.1 (23, 16) (by decide)
theorem ShM.r24 {S : fw_S} {m : Nat} (h : ShM S m) : fw_r S m 24 = some (m + 17) := h.1 (24, 17) (by decide)
theorem ShM.r25 {S : fw_S} {m : Nat} (h : ShM S m) : fw_r S m 25 = some (m + 18) := h.1 (25, 18) (by decide)
theorem ShM.r26 {S : fw_S} {m : Nat} (h : ShM S m) : fw_r S m 26 = some (m + 19) := h.1 (26, 19) (by decide)
theorem ShM.r27 {S : fw_S} {m : Nat} (h : ShM S m) : fw_r S m 27 = some (m + 20) := h.1 (27, 20) (by decide)
theorem ShM.r28 {S : fw_S} {m : Nat} (h : ShM S m) : fw_r S m 28 = some (m + 21) := h.1 (28, 21) (by decide)
theorem ShM.r29 {S : fw_S} {m : Nat} (h : ShM S m) : fw_r S m 29 = some (m + 22) := h.1 (29, 22) (by decide)
theorem ShM.r30 {S : fw_S} {m : Nat} (h : ShM S m) : fw_r S m 30 = some (m + 23) := h.1 (30, 23) (by decide)
theorem ShM.r31 {S : fw_S} {m : Nat} (h : ShM S m) : fw_r S m 31 = some (m + 24) := h.1 (31, 24) (by decide)
theorem ShM.r32 {S : fw_S} {m : Nat} (h : ShM S m) : fw_r S m 32 = some (m + 25) := h.1 (32, 25) (by decide)
theorem ShM.r33 {S : fw_S} {m : Nat} (h : ShM S m) : fw_r S m 33 = some (m + 26) := h.1 (33, 26) (by decide)
theorem ShM.r34 {S : fw_S} {m : Nat} (h : ShM S m) : fw_r S m 34 = some (m + 27) := h.1 (34, 27) (by decide)
theorem ShM.r35 {S : fw_S} {m : Nat} (h : ShM S m) : fw_r S m 35 = some (m + 28) := h.1 (35, 28) (by decide)
theorem ShM.r36 {S : fw_S} {m : Nat} (h : ShM S m) : fw_r S m 36 = some (m + 29) := h.1 (36, 29) (by decide)
theorem ShM.r37 {S : fw_S} {m : Nat} (h : ShM S m) : fw_r S m 37 = some (m + 30) := h.1 (37, 30) (by decide)
theorem ShM.r39 {S : fw_S} {m : Nat} (h : ShM S m) : fw_r S m 39 = some (m + 31) := h.1 (39, 31) (by decide)
theorem ShM.r40 {S : fw_S} {m : Nat} (h : ShM S m) : fw_r S m 40 = some (m + 32) := h.1 (40, 32) (by decide)
theorem ShM.r43 {S : fw_S} {m : Nat} (h : ShM S m) : fw_r S m 43 = some (m + 33) := h.1 (43, 33) (by decide)
theorem ShM.r44 {S : fw_S} {m : Nat} (h : ShM S m) : fw_r S m 44 = some (m + 34) := h.1 (44, 34) (by decide)
theorem ShM.r45 {S : fw_S} {m : Nat} (h : ShM S m) : fw_r S m 45 = some (m + 35) := h.1 (45, 35) (by decide)
theorem ShM.r46 {S : fw_S} {m : Nat} (h : ShM S m) : fw_r S m 46 = some (m + 36) := h.1 (46, 36) (by decide)
theorem ShM.r47 {S : fw_S} {m : Nat} (h : ShM S m) : fw_r S m 47 = some (m + 37) := h.1 (47, 37) (by decide)
theorem ShM.r48 {S : fw_S} {m : Nat} (h : ShM S m) : fw_r S m 48 = some (m + 38) := h.1 (48, 38) (by decide)
theorem ShM.r50 {S : fw_S} {m : Nat} (h : ShM S m) : fw_r S m 50 = some (m + 39) := h.1 (50, 39) (by decide)
theorem ShM.l1 {S : fw_S} {m : Nat} (h : ShM S m) : fw_l S (m + 1) = 5 := h.2 (1, 5) (by decide)
theorem ShM.l2 {S : fw_S} {m : Nat} (h : ShM S m) : fw_l S (m + 2) = 1500 := h.2 (2, 1500) (by decide)
theorem ShM.l3 {S : fw_S} {m : Nat} (h : ShM S m) : fw_l S (m + 3) = 5 := h.2 (3, 5) (by decide)
theorem ShM.l4 {S : fw_S} {m : Nat} (h : ShM S m) : fw_l S (m + 4) = 150 := h.2 (4, 150) (by decide)
theorem ShM.l5 {S : fw_S} {m : Nat} (h : ShM S m) : fw_l S (m + 5) = 5 := h.2 (5, 5) (by decide)
theorem ShM.l6 {S : fw_S} {m : Nat} (h : ShM S m) : fw_l S (m + 6) = 20 := h.2 (6, 20) (by decide)
theorem ShM.l7 {S : fw_S} {m : Nat} (h : ShM S m) : fw_l S (m + 7) = 20 := h.2 (7, 20) (by decide)
theorem ShM.l8 {S : fw_S} {m : Nat} (h : ShM S m) : fw_l S (m + 8) = 24 := h.2 (8, 24) (by decide)
theorem ShM.l9 {S : fw_S} {m : Nat} (h : ShM S m) : fw_l S (m + 9) = 24 := h.2 (9, 24) (by decide)
theorem ShM.l10 {S : fw_S} {m : Nat} (h : ShM S m) : fw_l S (m + 10) = 24 := h.2 (10, 24) (by decide)
theorem ShM.l11 {S : fw_S} {m : Nat} (h : ShM S m) : fw_l S (m + 11) = 24 := h.2 (11, 24) (by decide)
theorem ShM.l12 {S : fw_S} {m : Nat} (h : ShM S m) : fw_l S (m + 12) = 24 := h.2 (12, 24) (by decide)
theorem ShM.l13 {S : fw_S} {m : Nat} (h : ShM S m) : fw_l S (m + 13) = 480 := h.2 (13, 480) (by decide)
theorem ShM.l14 {S : fw_S} {m : Nat} (h : ShM S m) : fw_l S (m + 14) = 480 := h.2 (14, 480) (by decide)
theorem ShM.l15 {S : fw_S} {m : Nat} (h : ShM S m) : fw_l S (m + 15) = 24 := h.2 (15, 24) (by decide)
theorem ShM.l16 {S : fw_S} {m : Nat} (h : ShM S m) : fw_l S (m + 16) = 480 := h.2 (16, 480) (by decide)
theorem ShM.l17 {S : fw_S} {m : Nat} (h : ShM S m) : fw_l S (m + 17) = 24 := h.2 (17, 24) (by decide)
theorem ShM.l18 {S : fw_S} {m : Nat} (h : ShM S m) : fw_l S (m + 18) = 24 := h.2 (18, 24) (by decide)
theorem ShM.l19 {S : fw_S} {m : Nat} (h : ShM S m) : fw_l S (m + 19) = 24 := h.2 (19, 24) (by decide)
theorem ShM.l20 {S : fw_S} {m : Nat} (h : ShM S m) : fw_l S (m + 20) = 1440 := h.2 (20, 1440) (by decide)
theorem ShM.l21 {S : fw_S} {m : Nat} (h : ShM S m) : fw_l S (m + 21) = 1440 := h.2 (21, 1440) (by decide)
theorem ShM.l22 {S : fw_S} {m : Nat} (h : ShM S m) : fw_l S (m + 22) = 24 := h.2 (22, 24) (by decide)
theorem ShM.l23 {S : fw_S} {m : Nat} (h : ShM S m) : fw_l S (m + 23) = 24 := h.2 (23, 24) (by decide)
theorem ShM.l24 {S : fw_S} {m : Nat} (h : ShM S m) : fw_l S (m + 24) = 24 := h.2 (24, 24) (by decide)
theorem ShM.l25 {S : fw_S} {m : Nat} (h : ShM S m) : fw_l S (m + 25) = 24 := h.2 (25, 24) (by decide)
theorem ShM.l26 {S : fw_S} {m : Nat} (h : ShM S m) : fw_l S (m + 26) = 24 := h.2 (26, 24) (by decide)
theorem ShM.l27 {S : fw_S} {m : Nat} (h : ShM S m) : fw_l S (m + 27) = 24 := h.2 (27, 24) (by decide)
theorem ShM.l28 {S : fw_S} {m : Nat} (h : ShM S m) : fw_l S (m + 28) = 480 := h.2 (28, 480) (by decide)
theorem ShM.l29 {S : fw_S} {m : Nat} (h : ShM S m) : fw_l S (m + 29) = 4 := h.2 (29, 4) (by decide)
theorem ShM.l30 {S : fw_S} {m : Nat} (h : ShM S m) : fw_l S (m + 30) = 4 := h.2 (30, 4) (by decide)
theorem ShM.l31 {S : fw_S} {m : Nat} (h : ShM S m) : fw_l S (m + 31) = 60 := h.2 (31, 60) (by decide)
theorem ShM.l32 {S : fw_S} {m : Nat} (h : ShM S m) : fw_l S (m + 32) = 60 := h.2 (32, 60) (by decide)
theorem ShM.l33 {S : fw_S} {m : Nat} (h : ShM S m) : fw_l S (m + 33) = 9 := h.2 (33, 9) (by decide)
theorem ShM.l34 {S : fw_S} {m : Nat} (h : ShM S m) : fw_l S (m + 34) = 9 := h.2 (34, 9) (by decide)
theorem ShM.l35 {S : fw_S} {m : Nat} (h : ShM S m) : fw_l S (m + 35) = 9 := h.2 (35, 9) (by decide)
theorem ShM.l36 {S : fw_S} {m : Nat} (h : ShM S m) : fw_l S (m + 36) = 9 := h.2 (36, 9) (by decide)
theorem ShM.l37 {S : fw_S} {m : Nat} (h : ShM S m) : fw_l S (m + 37) = 540 := h.2 (37, 540) (by decide)
theorem ShM.l38 {S : fw_S} {m : Nat} (h : ShM S m) : fw_l S (m + 38) = 540 := h.2 (38, 540) (by decide)
theorem ShM.l39 {S : fw_S} {m : Nat} (h : ShM S m) : fw_l S (m + 39) = 24 := h.2 (39, 24) (by decide)
/-- the list l lies in the array a from place o on -/
def Ar (S : fw_S) (a o : Nat) (l : List Int32) : Prop := ∀ (j : Nat) (b : Int32), l[j]? = some b → fw_g S a (o + j) = b
theorem Ar.keep {S S' : fw_S} {a o : Nat} {l : List Int32} (h : Ar S a o l) (hg : ∀ k, o ≤ k → k < o + l.length → fw_g S' a k = fw_g S a k) : Ar S' a o l := fun j b hj => by
  have := (List.getElem?_eq_some_iff.mp hj).1
  rw [hg _ (by omega) (by omega)]; exact h j b hj
theorem Ar.wi {S : fw_S} {a o b k : Nat} {v : Int32} {l : List Int32} (h : Ar S a o l) (hb : a ≠ b ∨ k < o ∨ o + l.length ≤ k) : Ar (fw_wi S b k v) a o l := h.keep (fun j h1 h2 => by
  by_cases hc : a = b
  · subst hc; rw [g_k (by omega)]
  · rw [g_a hc])
theorem Ar.nil {S : fw_S} {a o : Nat} : Ar S a o [] := fun j b h => by simp at h
theorem Ar.push {S : fw_S} {a o : Nat} {l : List Int32} (h : Ar S a o l) (v : Int32) : Ar (fw_wi S a (o + l.length) v) a o (l ++ [v]) := fun j b hj => by
  by_cases hc : j = l.length
  · subst hc
    rw [g_s]
    simp at hj
    exact hj
  · rw [g_k (by omega)]
    rw [List.getElem?_append_left (by
      have := (List.getElem?_eq_some_iff.mp hj).1
      simp at this
      omega)] at hj
    exact h j b hj
theorem Ar.get {S : fw_S} {a o : Nat} {l : List Int32} (h : Ar S a o l) {j : Nat} (hj : j < l.length) : fw_g S a (o + j) = l[j] := h j l[j] (List.getElem?_eq_getElem hj)
-- who owns a cell
def cL (m i a k : Nat) : Prop := ((a = m + 1 ∨ a = m + 3 ∨ a = m + 5) ∧ k = i) ∨ (a = m + 2 ∧ 300 * i ≤ k ∧ k < 300 * i + 300) ∨ (a = m + 4 ∧ 30 * i ≤ k ∧ k < 30 * i + 30)
def cQ (m r a k : Nat) : Prop := ((a = m + 13 ∨ a = m + 14 ∨ a = m + 16 ∨ a = m + 28) ∧ 20 * r ≤ k ∧ k < 20 * r + 20) ∨ ((a = m + 20 ∨ a = m + 21) ∧ 60 * r ≤ k ∧ k < 60 * r + 60) ∨ (m + 8 ≤ a ∧ a ≤ m + 27 ∧ a ≠ m + 13 ∧ a ≠ m + 14 ∧ a ≠ m + 16 ∧ a ≠ m + 20 ∧ a ≠ m + 21 ∧ k = r)
def cS (m a k : Nat) : Prop := a = m ∧ ((5 ≤ k ∧ k ≤ 10) ∨ k = 42)
def cN (m a k : Nat) : Prop := a = m ∧ k = 14
def cB (m a k : Nat) : Prop := (a = m ∧ k = 11) ∨ a = m + 6 ∨ a = m + 7
def cF (m a k : Nat) : Prop := (a = m ∧ k = 38) ∨ a = m + 31 ∨ a = m + 32
def cM (m a k : Nat) : Prop := (a = m ∧ k = 41) ∨ (m + 33 ≤ a ∧ a ≤ m + 38)
def cE (m a k : Nat) : Prop := a = m + 29 ∨ a = m + 30
def cK (m a k : Nat) : Prop := (a = m ∧ k = 49) ∨ a = m + 39
def df (S S' : fw_S) (P : Nat → Nat → Prop) : Prop := sm S S' ∧ ∀ a k, ¬ P a k → fw_g S' a k = fw_g S a k
theorem df.rf {S : fw_S} {P : Nat → Nat → Prop} : df S S P := ⟨rfl, fun _ _ _ => rfl⟩
theorem df.tr {S S' S'' : fw_S} {P : Nat → Nat → Prop} (h : df S S' P) (h' : df S' S'' P) : df S S'' P := ⟨sm_tr h.1 h'.1, fun a k hn => (h'.2 a k hn).trans (h.2 a k hn)⟩
theorem df.up {S S' : fw_S} {P P' : Nat → Nat → Prop} (h : df S S' P) (hp : ∀ a k, P a k → P' a k) : df S S' P' := ⟨h.1, fun a k hn => h.2 a k (fun q => hn (hp a k q))⟩
theorem df.wi {S : fw_S} {a k : Nat} {v : Int32} {P : Nat → Nat → Prop} (h : P a k) : df S (fw_wi S a k v) P := ⟨rfl, fun b j hn => by
  by_cases hb : b = a
  · subst hb
    by_cases hj : j = k
    · subst hj; exact absurd h hn
    · rw [g_k hj]
  · rw [g_a hb]⟩
-- the parts of the state
def ScM (S : fw_S) (m : Nat) (c : Nat → Int32) : Prop := fw_g S m 5 = c 0 ∧ fw_g S m 6 = c 1 ∧ fw_g S m 7 = c 2 ∧ fw_g S m 8 = c 3 ∧ fw_g S m 9 = c 4 ∧ fw_g S m 10 = c 5 ∧ fw_g S m 42 = c 6
def LnM (S : fw_S) (m i : Nat) (l : sL) : Prop := fw_g S (m + 1) i = l.1 ∧ fw_g S (m + 3) i = nI l.2.1.length ∧ fw_g S (m + 5) i = nI l.2.2.length ∧ Ar S (m + 2) (300 * i) l.2.1 ∧ Ar S (m + 4) (30 * i) l.2.2 ∧ l.2.1.length ≤ 300 ∧ l.2.2.length ≤ 30
abbrev mqK : List (Nat × Nat) := [(8, 0), (9, 1), (10, 14), (11, 15), (17, 2), (18, 6), (22, 8), (23, 11), (24, 13), (25, 12), (26, 20)]
def RqM (S : fw_S) (m r : Nat) (d : sR) : Prop :=
  (∀ p ∈ mqK, fw_g S (m + p.1) r = d.1 p.2) ∧ (fw_g S (m + 12) r = nI d.2.1.length ∧ fw_g S (m + 15) r = nI d.2.2.1.length ∧ fw_g S (m + 19) r = nI d.2.2.2.1.length ∧ fw_g S (m + 27) r = nI d.2.2.2.2.length) ∧
  (Ar S (m + 13) (20 * r) (d.2.1.map (fun x => x.1)) ∧ Ar S (m + 14) (20 * r) (d.2.1.map (fun x => x.2)) ∧ Ar S (m + 16) (20 * r) d.2.2.1 ∧ Ar S (m + 20) (60 * r) (d.2.2.2.1.map (fun x => x.1)) ∧ Ar S (m + 21) (60 * r) (d.2.2.2.1.map (fun x => x.2)) ∧ Ar S (m + 28) (20 * r) d.2.2.2.2) ∧
  (d.2.1.length ≤ 20 ∧ d.2.2.1.length ≤ 20 ∧ d.2.2.2.1.length ≤ 60 ∧ d.2.2.2.2.length ≤ 20)
def ZrM (S : fw_S) (m r : Nat) : Prop := ∀ a, 8 ≤ a → a ≤ 27 → a ≠ 13 → a ≠ 14 → a ≠ 16 → a ≠ 20 → a ≠ 21 → fw_g S (m + a) r = 0
def PsM (S : fw_S) (m f a b cap : Nat) (l : sPs) : Prop := fw_g S m f = nI l.length ∧ l.length ≤ cap ∧ Ar S (m + a) 0 (l.map (fun x => x.1)) ∧ Ar S (m + b) 0 (l.map (fun x => x.2))
def MeM (S : fw_S) (m j : Nat) (e : sM) : Prop := fw_g S (m + 33) j = e.1 ∧ fw_g S (m + 34) j = e.2.1 ∧ fw_g S (m + 35) j = e.2.2.1 ∧ fw_g S (m + 36) j = nI e.2.2.2.length ∧ e.2.2.2.length ≤ 60 ∧ Ar S (m + 37) (60 * j) (e.2.2.2.map (fun x => x.1)) ∧ Ar S (m + 38) (60 * j) (e.2.2.2.map (fun x => x.2))
def MsM (S : fw_S) (m : Nat) (ms : List sM) : Prop := fw_g S m 41 = nI ms.length ∧ ms.length ≤ 8 ∧ ∀ (j : Nat) (e : sM), ms[j]? = some e → MeM S m j e
def RsM (S : fw_S) (m n : Nat) (d : Nat → sR) : Prop := fw_g S m 14 = nI n ∧ n ≤ 24 ∧ (∀ r, r < n → RqM S m r (d r)) ∧ ∀ r, n ≤ r → r < 24 → ZrM S m r
/-- nothing but the reference's own cells differs -/
def Fr (S0 S : fw_S) (m : Nat) : Prop := df S0 S (fun a _ => m ≤ a ∧ a < m + 40)
theorem Fr.step {S0 S S' : fw_S} {m : Nat} {P : Nat → Nat → Prop} (h : Fr S0 S m) (hd : df S S' P) (hp : ∀ a k, P a k → m ≤ a ∧ a < m + 40) : Fr S0 S' m := h.tr (hd.up hp)
def RM (S0 S : fw_S) (m : Nat) (g : sG) : Prop :=
  ShM S m ∧ ScM S m (gc g) ∧ (∀ i, i < 5 → LnM S m i (gl g i)) ∧ RsM S m (gn g) (gq g) ∧ PsM S m 11 6 7 20 (gb g) ∧ PsM S m 38 31 32 60 (gf g) ∧ MsM S m (gm g) ∧ (∀ i, i < 4 → fw_g S (m + 29) i = ge g i ∧ fw_g S (m + 30) i = gd g i) ∧ Fr S0 S m
def MkM (S : fw_S) (m : Nat) (bs : List Int32) : Prop := fw_g S m 49 = nI bs.length ∧ bs.length ≤ 24 ∧ Ar S (m + 39) 0 bs
section MD
variable {S0 S S' : fw_S} {m : Nat} {g : sG}
theorem ScM.keep {c : Nat → Int32} (h : ScM S m c) (hg : ∀ a k, cS m a k → fw_g S' a k = fw_g S a k) : ScM S' m c := by
  obtain ⟨a, b, d, e, f, i, j⟩ := h
  have key : ∀ k, ((5 ≤ k ∧ k ≤ 10) ∨ k = 42) → fw_g S' m k = fw_g S m k := fun k hk => hg m k ⟨rfl, hk⟩
  exact ⟨by rw [key 5 (by omega)]; exact a, by rw [key 6 (by omega)]; exact b, by rw [key 7 (by omega)]; exact d, by rw [key 8 (by omega)]; exact e, by rw [key 9 (by omega)]; exact f, by rw [key 10 (by omega)]; exact i, by rw [key 42 (by omega)]; exact j⟩
theorem LnM.keep {i : Nat} {l : sL} (h : LnM S m i l) (hg : ∀ a k, cL m i a k → fw_g S' a k = fw_g S a k) : LnM S' m i l := by
  obtain ⟨a, b, c, d, e, l1, l2⟩ := h
  exact ⟨by rw [hg _ _ (Or.inl ⟨Or.inl rfl, rfl⟩)]; exact a, by rw [hg _ _ (Or.inl ⟨Or.inr (Or.inl rfl), rfl⟩)]; exact b, by rw [hg _ _ (Or.inl ⟨Or.inr (Or.inr rfl), rfl⟩)]; exact c, d.keep (fun k h1 h2 => hg _ _ (Or.inr (Or.inl ⟨rfl, h1, by omega⟩))), e.keep (fun k h1 h2 => hg _ _ (Or.inr (Or.inr ⟨rfl, h1, by omega⟩))), l1, l2⟩
theorem mqK_in : ∀ p ∈ mqK, 8 ≤ p.1 ∧ p.1 ≤ 26 ∧ p.1 ≠ 12 ∧ p.1 ≠ 13 ∧ p.1 ≠ 14 ∧ p.1 ≠ 15 ∧ p.1 ≠ 16 ∧ p.1 ≠ 19 ∧ p.1 ≠ 20 ∧ p.1 ≠ 21 := by decide
theorem mqK_inj : ∀ p ∈ mqK, ∀ q ∈ mqK, (p.1 = q.1 → p.2 = q.2) ∧ (p.2 = q.2 → p.1 = q.1) := by decide
theorem RqM.keep {r : Nat} {d : sR} (h : RqM S m r d) (hg : ∀ a k, cQ m r a k → fw_g S' a k = fw_g S a k) : RqM S' m r d := by
  obtain ⟨h1, ⟨a1, a2, a3, a4⟩, ⟨b1, b2, b3, b4, b5, b6⟩, l1, l2, l3, l4⟩ := h
  have key : ∀ a, 8 ≤ a → a ≤ 27 → a ≠ 13 → a ≠ 14 → a ≠ 16 → a ≠ 20 → a ≠ 21 → fw_g S' (m + a) r = fw_g S (m + a) r := fun a q1 q2 q3 q4 q5 q6 q7 => hg _ _ (Or.inr (Or.inr ⟨by omega, by omega, by omega, by omega, by omega, by omega, by omega, rfl⟩))
  have k20 : ∀ a, (a = 13 ∨ a = 14 ∨ a = 16 ∨ a = 28) → ∀ k, 20 * r ≤ k → k < 20 * r + 20 → fw_g S' (m + a) k = fw_g S (m + a) k := fun a q k h1 h2 => hg _ _ (Or.inl ⟨by omega, h1, h2⟩)
  have k60 : ∀ a, (a = 20 ∨ a = 21) → ∀ k, 60 * r ≤ k → k < 60 * r + 60 → fw_g S' (m + a) k = fw_g S (m + a) k := fun a q k h1 h2 => hg _ _ (Or.inr (Or.inl ⟨by omega, h1, h2⟩))
  refine ⟨fun p hp => ?_, ⟨?_, ?_, ?_, ?_⟩, ⟨b1.keep (fun k h1 h2 => k20 13 (by omega) k h1 (by rw [List.length_map] at h2; omega)), b2.keep (fun k h1 h2 => k20 14 (by omega) k h1 (by rw [List.length_map] at h2; omega)), b3.keep (fun k h1 h2 => k20 16 (by omega) k h1 (by omega)), b4.keep (fun k h1 h2 => k60 20 (by omega) k h1 (by rw [List.length_map] at h2; omega)), b5.keep (fun k h1 h2 => k60 21 (by omega) k h1 (by rw [List.length_map] at h2; omega)), b6.keep (fun k h1 h2 => k20 28 (by omega) k h1 (by omega))⟩, l1, l2, l3, l4⟩
  · obtain ⟨q1, q2, q3, q4, q5, q6, q7, q8, q9, q10⟩ := mqK_in p hp
    rw [key p.1 q1 (by omega) q4 q5 q7 q9 q10]; exact h1 p hp
  · rw [key 12 (by omega) (by omega) (by omega) (by omega) (by omega) (by omega) (by omega)]; exact a1
  · rw [key 15 (by omega) (by omega) (by omega) (by omega) (by omega) (by omega) (by omega)]; exact a2
  · rw [key 19 (by omega) (by omega) (by omega) (by omega) (by omega) (by omega) (by omega)]; exact a3
  · rw [key 27 (by omega) (by omega) (by omega) (by omega) (by omega) (by omega) (by omega)]; exact a4
theorem ZrM.keep {r : Nat} (h : ZrM S m r) (hg : ∀ a k, cQ m r a k → fw_g S' a k = fw_g S a k) : ZrM S' m r := fun a q1 q2 q3 q4 q5 q6 q7 => by
  rw [hg _ _ (Or.inr (Or.inr ⟨by omega, by omega, by omega, by omega, by omega, by omega, by omega, rfl⟩))]; exact h a q1 q2 q3 q4 q5 q6 q7
theorem PsM.keep {f a b cap : Nat} {l : sPs} (h : PsM S m f a b cap l) (h1 : fw_g S' m f = fw_g S m f) (h2 : ∀ k, fw_g S' (m + a) k = fw_g S (m + a) k) (h3 : ∀ k, fw_g S' (m + b) k = fw_g S (m + b) k) : PsM S' m f a b cap l := by
  obtain ⟨c, d, e, i⟩ := h
  exact ⟨by rw [h1]; exact c, d, e.keep (fun k _ _ => h2 k), i.keep (fun k _ _ => h3 k)⟩
theorem MsM.keep {ms : List sM} (h : MsM S m ms) (hg : ∀ a k, cM m a k → fw_g S' a k = fw_g S a k) : MsM S' m ms := by
  obtain ⟨a, b, c⟩ := h
  have key : ∀ a, 33 ≤ a → a ≤ 38 → ∀ k, fw_g S' (m + a) k = fw_g S (m + a) k := fun a q1 q2 k => hg _ _ (Or.inr ⟨by omega, by omega⟩)
  refine ⟨by rw [hg m 41 (Or.inl ⟨rfl, rfl⟩)]; exact a, b, fun j e he => ?_⟩
  obtain ⟨c1, c2, c3, c4, c5, c6, c7⟩ := c j e he
  exact ⟨by rw [key 33 (by omega) (by omega)]; exact c1, by rw [key 34 (by omega) (by omega)]; exact c2, by rw [key 35 (by omega) (by omega)]; exact c3, by rw [key 36 (by omega) (by omega)]; exact c4, c5, c6.keep (fun k _ _ => key 37 (by omega) (by omega) k), c7.keep (fun k _ _ => key 38 (by omega) (by omega) k)⟩
theorem RsM.keep {n : Nat} {d : Nat → sR} (h : RsM S m n d) (h1 : fw_g S' m 14 = fw_g S m 14) (h2 : ∀ r, r < 24 → ∀ a k, cQ m r a k → fw_g S' a k = fw_g S a k) : RsM S' m n d := by
  obtain ⟨a, b, c, e⟩ := h
  exact ⟨by rw [h1]; exact a, b, fun r hr => (c r hr).keep (h2 r (by omega)), fun r q1 q2 => (e r q1 q2).keep (h2 r q2)⟩
theorem MkM.keep {bs : List Int32} (h : MkM S m bs) (hg : ∀ a k, cK m a k → fw_g S' a k = fw_g S a k) : MkM S' m bs := by
  obtain ⟨a, b, c⟩ := h
  exact ⟨by rw [hg m 49 (Or.inl ⟨rfl, rfl⟩)]; exact a, b, c.keep (fun k _ _ => hg _ _ (Or.inr rfl))⟩
end MD
