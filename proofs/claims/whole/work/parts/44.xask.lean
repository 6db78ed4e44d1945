/-! The class: a new request. -/
def sKey (K : List Int32) (k : Int32) : List Int32 := if k ∈ K then K else K ++ [k]
def sKeys (B : sPs) : List Int32 := B.foldl (fun K b => sKey K b.1) []
theorem sKeys_app (B : sPs) (b : Int32 × Int32) : sKeys (B ++ [b]) = sKey (sKeys B) b.1 := by simp [sKeys]
theorem sKey_le (K : List Int32) (k : Int32) : (sKey K k).length ≤ K.length + 1 := by
  unfold sKey
  split <;> simp
theorem sKeys_take {B : sPs} {i : Nat} (h : i < B.length) : sKeys (B.take (i + 1)) = sKey (sKeys (B.take i)) B[i].1 := by
  rw [List.take_succ_eq_append_getElem h, sKeys_app]
theorem sKeys_le (B : sPs) : ∀ i, (sKeys (B.take i)).length ≤ i := by
  intro i
  induction i with
  | zero => simp [sKeys]
  | succ i ih =>
    by_cases h : i < B.length
    · rw [sKeys_take h]
      have := sKey_le (sKeys (B.take i)) B[i].1
      omega
    · rw [List.take_of_length_le (by omega)] at ih ⊢
      omega
theorem sKey_mem {K : List Int32} {k x : Int32} (h : x ∈ sKey K k) : x ∈ K ∨ x = k := by
  unfold sKey at h
  split at h
  · exact Or.inl h
  · rcases List.mem_append.mp h with q | q
    · exact Or.inl q
    · exact Or.inr (List.mem_singleton.mp q)
theorem sKeys_b8 {B : sPs} (h : ∀ y ∈ B, b8 y.1) : ∀ x ∈ sKeys B, b8 x := by
  have key : ∀ (L : sPs) (K : List Int32), (∀ y ∈ L, b8 y.1) → (∀ x ∈ K, b8 x) → ∀ x ∈ L.foldl (fun K b => sKey K b.1) K, b8 x := by
    intro L
    induction L with
    | nil => exact fun K _ h => h
    | cons y L ih =>
      intro K hL hK
      refine ih _ (fun z hz => hL z (List.mem_cons_of_mem _ hz)) (fun x hx => ?_)
      rcases sKey_mem hx with q | q
      · exact hK x q
      · rw [q]; exact hL y List.mem_cons_self
  exact key B [] h (fun x hx => by simp at hx)
def KyX (S : fw_S) (q n : Nat) (K : List Int32) : Prop := fw_r S q 4 = some (q + 9) ∧ fw_l S (q + 9) = n ∧ fw_g S q 5 = nI K.length ∧ K.length ≤ n ∧ n ≤ 20 ∧ ∀ (i : Nat) (k : Int32), K[i]? = some k → fw_g S (q + 9) i = k
section AK
variable {S S' : fw_S} {q n : Nat} {K : List Int32}
theorem KyX.addL (h : KyX S q n K) {key : Int32} (hc : K.length < n ∨ key ∈ K) : ∀ (m i : Nat), i ≤ K.length → K.length < i + m → (∀ j, j < i → K[j]? ≠ some key) →
    ∃ S', F_Request_addKey_l2 m q key (nI i) S = some S' ∧ KyX S' q n (sKey K key) ∧ sm S S' ∧ (∀ a, a ≠ q → a ≠ q + 9 → fw_g S' a = fw_g S a) ∧ ∀ k, k ≠ 5 → fw_g S' q k = fw_g S q k := by
  have h' := h
  obtain ⟨r4, l9, g5, hn, h20, hk⟩ := h
  intro m
  induction m with
  | zero => intro i h1 h2; omega
  | succ m ih =>
    intro i h1 h2 h3
    rw [F_Request_addKey_l2, g5]
    by_cases hi : i < K.length
    · have e1 : ¬ nI K.length ≤ nI i := nI_ge hi (by omega)
      have e2 : ¬ nI n ≤ nI i := nI_ge (by omega) (by omega)
      have e3 : ¬ nI i < 0 := nI_pos (by omega)
      have e4 : (nI i).toNatClampNeg = i := nI_clamp (by omega)
      have e5 : ¬ n ≤ i := by omega
      have e6 := hk i K[i] (List.getElem?_eq_getElem hi)
      simp only [fw_om, r4, l9, e1, e2, e3, e4, e5, e6, if_false, or_self]
      by_cases hkey : K[i] = key
      · rw [if_pos hkey]
        have hm : key ∈ K := by rw [← hkey]; exact List.getElem_mem hi
        refine ⟨S, rfl, ?_, rfl, fun _ _ _ => rfl, fun _ _ => rfl⟩
        unfold sKey
        rw [if_pos hm]; exact h'
      · rw [if_neg hkey, nI_1]
        refine ih (i + 1) (by omega) (by omega) (fun j hj hq => ?_)
        by_cases hji : j = i
        · subst hji
          rw [List.getElem?_eq_getElem hi] at hq
          cases hq
          exact hkey rfl
        · exact h3 j (by omega) hq
    · have hno : key ∉ K := by
        intro hm
        obtain ⟨j, hj⟩ := List.mem_iff_getElem?.mp hm
        exact h3 j (by have := (List.getElem?_eq_some_iff.mp hj).1; omega) hj
      have hlt : K.length < n := hc.resolve_right hno
      rw [if_pos (nI_le (by omega) (by omega))]
      unfold F_Request_addKey_j36
      have e1 : ¬ nI n ≤ nI K.length := nI_ge hlt (by omega)
      have e3 : ¬ nI K.length < 0 := nI_pos (by omega)
      have e4 : (nI K.length).toNatClampNeg = K.length := nI_clamp (by omega)
      have e5 : ¬ n ≤ K.length := by omega
      have e6 : fw_g (fw_wi S (q + 9) K.length key) q 5 = nI K.length := by rw [g_a (by omega), g5]
      simp only [fw_om, fw_let, r4, l9, g5, e1, e3, e4, e5, e6, if_false, or_self, nI_1]
      refine ⟨_, rfl, ?_, rfl, fun a ha hb => by rw [fw_g_wi_ne ha, fw_g_wi_ne hb], fun k hk => by rw [g_k hk, g_a (by omega)]⟩
      unfold sKey
      rw [if_neg hno]
      refine ⟨r4, l9, by rw [g_s]; simp, by simp; omega, h20, fun j x hx => ?_⟩
      rw [g_a (by omega)]
      by_cases hj : j = K.length
      · subst hj
        rw [g_s]
        simp at hx
        exact hx
      · rw [g_k hj]
        rw [List.getElem?_append_left (by
          have := (List.getElem?_eq_some_iff.mp hx).1
          simp at this
          omega)] at hx
        exact hk j x hx
theorem KyX.add (h : KyX S q n K) {key : Int32} (hc : K.length < n ∨ key ∈ K) : ∃ S', F_Request_addKey q key S = some S' ∧ KyX S' q n (sKey K key) ∧ sm S S' ∧ (∀ a, a ≠ q → a ≠ q + 9 → fw_g S' a = fw_g S a) ∧ ∀ k, k ≠ 5 → fw_g S' q k = fw_g S q k := by
  have := h.addL hc 4096 0 (Nat.zero_le _) (by have := h.2.2.2.1; have := h.2.2.2.2.1; omega) (fun j hj => by omega)
  unfold F_Request_addKey
  rw [show (0 : Int32) = nI 0 from rfl]
  exact this
theorem reqL {b : Nat} {B : sPs} (hB : B.length ≤ 20) (hb : b + 3 ≤ q) : ∀ (m i : Nat) (S : fw_S), i ≤ B.length → B.length < i + m → PrX S b 20 B → fw_r S q 3 = some (q + 6) → PrX S (q + 6) B.length (B.take i) → KyX S q B.length (sKeys (B.take i)) →
    ∃ S', F_Request_init_l123 m q b (nI i) S = some S' ∧ PrX S' (q + 6) B.length B ∧ KyX S' q B.length (sKeys B) ∧ sm S S' ∧ (∀ a, (a < q ∨ (q < a ∧ a < q + 6)) → fw_g S' a = fw_g S a) ∧ ∀ k, k ≠ 5 → fw_g S' q k = fw_g S q k := by
  intro m
  induction m with
  | zero => intro i S h1 h2; omega
  | succ m ih =>
    intro i S h1 h2 hP r3 hPn hK
    rw [F_Request_init_l123, hP.2.2.2.2.2.1]
    by_cases hi : i < B.length
    · have hg := List.getElem?_eq_getElem hi
      rw [if_neg (nI_ge hi (by omega)), r3]
      simp only [fw_om]
      rw [hP.key hg, hP.val hg]
      simp only [Option.bind_some]
      obtain ⟨S1, p1, q1, s1, g1⟩ := hPn.add (by rw [List.length_take]; omega) B[i].1 B[i].2
      have hP1 : PrX S1 b 20 B := hP.keep s1 (fun a _ _ => g1 a (by omega))
      have hK1 : KyX S1 q B.length (sKeys (B.take i)) := by
        obtain ⟨a1, a2, a3, a4, a5, a6⟩ := hK
        exact ⟨by rw [sm_r s1]; exact a1, by rw [sm_l s1]; exact a2, by rw [g1 q (by omega)]; exact a3, a4, a5, fun j k hj => by rw [g1 _ (by omega)]; exact a6 j k hj⟩
      rw [p1]
      simp only [fw_b2]
      rw [hP1.key hg, Option.bind_some]
      obtain ⟨S2, p2, q2, s2, g2, k2⟩ := hK1.add (key := B[i].1) (Or.inl (by have := sKeys_le B i; omega))
      rw [p2, Option.bind_some, nI_1]
      have hq1 : PrX S2 (q + 6) B.length (B.take (i + 1)) := by
        rw [List.take_succ_eq_append_getElem hi]
        exact q1.keep s2 (fun a _ _ => g2 a (by omega) (by omega))
      obtain ⟨S3, p3, q3, v3, s3, g3, k3⟩ := ih (i + 1) S2 (by omega) (by omega) (hP1.keep s2 (fun a _ _ => g2 a (by omega) (by omega))) (by rw [sm_r s2, sm_r s1]; exact r3) hq1 (by rw [sKeys_take hi]; exact q2)
      exact ⟨S3, p3, q3, v3, sm_tr s1 (sm_tr s2 s3), fun a ha => by rw [g3 a ha, g2 a (by omega) (by omega), g1 a (by omega)], fun k hk => by rw [k3 k hk, k2 k hk, g1 q (by omega)]⟩
    · rw [if_pos (nI_le (by omega) (by omega))]
      rw [List.take_of_length_le (by omega)] at hPn hK
      exact ⟨S, rfl, hPn, hK, rfl, fun _ _ => rfl, fun _ _ => rfl⟩
def sF0 (v s bulk : Int32) : Nat → Int32 := fun k => if k = 0 then v else if k = 1 then s else if k = 2 then bulk else if k = 11 then -1 else 0
theorem Req_new {b r : Nat} {B : sPs} {v s bulk : Int32} (hz : fw_z S = q + 1) (hB : B.length ≤ 20) (hb : b + 3 ≤ q) (hP : PrX S b 20 B) (hs : s = 0 ∨ s = 1) :
    ∃ S', F_Request_init q (nI r) v s bulk b S = some S' ∧ RqX S' q r (sF0 v s bulk) B (sKeys B) [] [] ∧ fw_z S' = q + 10 ∧ sam S S' 0 q := by
  obtain ⟨T1, hT1⟩ : ∃ T, T = fw_wi (fw_wi S q 5 0) q 6 0 := ⟨_, rfl⟩
  have z1 : fw_z T1 = q + 1 := by rw [hT1]; exact hz
  have s1 : sam S T1 0 q := by rw [hT1]; exact (sam_wi (by omega)).tr (sam_wi (by omega))
  obtain ⟨S6, e6, p6, z6, s6⟩ := Pairs_new (S := fw_nw T1 0) (p := q + 1) (cap := 60) (by rw [fw_z_nw, z1]) (by decide)
  obtain ⟨T2, hT2⟩ : ∃ T, T = fw_wi (fw_wr S6 q 7 (some (q + 1))) q 8 0 := ⟨_, rfl⟩
  have z2 : fw_z T2 = q + 4 := by rw [hT2]; exact z6
  have s2 : ∀ lo n, (q < lo ∨ lo + n ≤ q) → sam S6 T2 lo n := fun lo n h => by rw [hT2]; exact (sam_wr (by omega)).tr (sam_wi (by omega))
  obtain ⟨S13, e13, p13, z13, s13⟩ := Frame_new (S := fw_nw T2 0) (f := q + 4) (by rw [fw_z_nw, z2])
  obtain ⟨T3, hT3⟩ : ∃ T, T = fw_wi (fw_wi (fw_wi (fw_wi (fw_wi (fw_wi (fw_wi (fw_wi (fw_wi (fw_wr S13 q 9 (some (q + 4))) q 11 (-1)) q 12 0) q 13 0) q 14 0) q 15 0) q 10 (nI r)) q 0 v) q 1 s) q 2 bulk := ⟨_, rfl⟩
  have z3 : fw_z T3 = q + 6 := by rw [hT3]; exact z13
  have s3 : ∀ lo n, (q < lo ∨ lo + n ≤ q) → sam S13 T3 lo n := fun lo n h => by
    rw [hT3]
    exact (sam_wr (by omega)).tr ((sam_wi (by omega)).tr ((sam_wi (by omega)).tr ((sam_wi (by omega)).tr ((sam_wi (by omega)).tr ((sam_wi (by omega)).tr ((sam_wi (by omega)).tr ((sam_wi (by omega)).tr ((sam_wi (by omega)).tr (sam_wi (by omega))))))))))
  have a01 : sam S T3 0 q := s1.tr ((sam_nw (by omega)).tr ((s6.sub (by omega) (by omega)).tr ((s2 0 q (by omega)).tr ((sam_nw (by omega)).tr ((s13.sub (by omega) (by omega)).tr (s3 0 q (by omega)))))))
  have hP3 : PrX (fw_nw T3 0) b 20 B := (hP.blk (a01.sub (by omega) (by omega))).blk (sam_nw (by omega))
  obtain ⟨S29, e29, p29, z29, s29⟩ := Pairs_new (S := fw_nw T3 0) (p := q + 6) (cap := B.length) (by rw [fw_z_nw, z3]) (by omega)
  have hP29 : PrX (fw_wr S29 q 3 (some (q + 6))) b 20 B := (hP3.blk (s29.sub (by omega) (by omega))).blk (sam_wr (by omega))
  have z31 : fw_z (fw_wr S29 q 3 (some (q + 6))) = q + 9 := by rw [fw_z_wr, z29]
  obtain ⟨T4, hT4⟩ : ∃ T, T = fw_wr (fw_nw (fw_wr S29 q 3 (some (q + 6))) B.length) q 4 (some (q + 9)) := ⟨_, rfl⟩
  have z4 : fw_z T4 = q + 10 := by rw [hT4, fw_z_wr, fw_z_nw, z31]
  have s4 : ∀ lo n, (q < lo ∨ lo + n ≤ q) → lo + n ≤ q + 9 → sam S29 T4 lo n := fun lo n h h' => by
    rw [hT4]
    exact (sam_wr (by omega)).tr ((sam_nw (by omega)).tr (sam_wr (by omega)))
  have s34 : ∀ lo n, (q < lo ∨ lo + n ≤ q) → lo + n ≤ q + 6 → sam T3 T4 lo n := fun lo n h h' => (sam_nw (by omega)).tr ((s29.sub (by omega) (by omega)).tr (s4 lo n h (by omega)))
  -- the request's own cell
  have gq4 : ∀ k, fw_g T4 q k = fw_g T3 q k := fun k => by
    rw [hT4, fw_g_wr, g_n z31 (by omega), fw_g_wr, (s29 q (by omega) (by omega)).1, g_n z3 (by omega)]
  have rq4 : ∀ k, k ≠ 3 → k ≠ 4 → fw_r T4 q k = fw_r T3 q k := fun k h1 h2 => by
    rw [hT4, r_k h2, r_n z31 (by omega), r_k h1, (s29 q (by omega) (by omega)).2.1, r_n z3 (by omega)]
  have r3 : fw_r T4 q 3 = some (q + 6) := by rw [hT4, r_k (by decide), r_n z31 (by omega), r_s]
  have r4 : fw_r T4 q 4 = some (q + 9) := by rw [hT4, r_s]
  have l9 : fw_l T4 (q + 9) = B.length := by rw [hT4, fw_l_wr, l_ns z31]
  have g2o : ∀ k, k ≠ 11 → k ≠ 12 → k ≠ 13 → k ≠ 14 → k ≠ 15 → k ≠ 10 → k ≠ 0 → k ≠ 1 → k ≠ 2 → fw_g T3 q k = fw_g T2 q k := fun k h1 h2 h3 h4 h5 h6 h7 h8 h9 => by
    rw [hT3, g_k h9, g_k h8, g_k h7, g_k h6, g_k h5, g_k h4, g_k h3, g_k h2, g_k h1, fw_g_wr, (s13 q (by omega) (by omega)).1, g_n z2 (by omega)]
  have g1o : ∀ k, k ≠ 8 → fw_g T2 q k = fw_g T1 q k := fun k h1 => by
    rw [hT2, g_k h1, fw_g_wr, (s6 q (by omega) (by omega)).1, g_n z1 (by omega)]
  have r9 : fw_r T4 q 9 = some (q + 4) := by
    rw [rq4 9 (by decide) (by decide), hT3]
    show fw_r (fw_wr S13 q 9 (some (q + 4))) q 9 = _
    rw [r_s]
  have r7 : fw_r T4 q 7 = some (q + 1) := by
    rw [rq4 7 (by decide) (by decide), hT3]
    show fw_r (fw_wr S13 q 9 (some (q + 4))) q 7 = _
    rw [r_k (by decide), (s13 q (by omega) (by omega)).2.1, r_n z2 (by omega), hT2]
    show fw_r (fw_wr S6 q 7 (some (q + 1))) q 7 = _
    rw [r_s]
  have g5 : fw_g T4 q 5 = nI 0 := by
    rw [gq4, g2o 5 (by decide) (by decide) (by decide) (by decide) (by decide) (by decide) (by decide) (by decide) (by decide), g1o 5 (by decide), hT1, g_k (by decide), g_s]; rfl
  have hKy : KyX T4 q B.length (sKeys (B.take 0)) := ⟨r4, l9, g5, Nat.zero_le _, hB, fun i k hk => by simp [sKeys] at hk⟩
  have hPn : PrX T4 (q + 6) B.length (B.take 0) := p29.blk (s4 _ _ (by omega) (by omega))
  have hPb : PrX T4 b 20 B := by
    rw [hT4]
    exact (hP29.blk (sam_nw (by omega))).blk (sam_wr (by omega))
  obtain ⟨S', e', P', K', m', gg', kk'⟩ := reqL hB hb 4096 0 T4 (Nat.zero_le _) (by omega) hPb r3 hPn hKy
  refine ⟨S', ?_, ?_, by rw [sm_z m', z4], ?_⟩
  · have goal : Wp (F_Request_init q (nI r) v s bulk b S) (fun R => R = S') := by
      unfold F_Request_init
      refine Wp_let rfl ?_
      refine Wp_let (y := T1) hT1.symm ?_
      refine Wp_let z1 ?_
      refine Wp_let rfl ?_
      refine Wp_bind e6 ?_
      refine Wp_let rfl ?_
      refine Wp_let (y := T2) hT2.symm ?_
      refine Wp_let z2 ?_
      refine Wp_let rfl ?_
      refine Wp_bind e13 ?_
      refine Wp_let rfl ?_
      refine Wp_let rfl ?_
      refine Wp_let rfl ?_
      refine Wp_let rfl ?_
      refine Wp_let rfl ?_
      refine Wp_let rfl ?_
      refine Wp_let rfl ?_
      refine Wp_let rfl ?_
      rw [if_pos hs]
      refine Wp_let rfl ?_
      refine Wp_let (y := T3) hT3.symm ?_
      refine Wp_let z3 ?_
      refine Wp_let rfl ?_
      rw [hP3.2.2.2.2.2.1]
      refine Wp_bind e29 ?_
      refine Wp_let rfl ?_
      rw [hP29.2.2.2.2.2.1]
      have e0 : (if nI B.length < 0 then (0 : Int32) else nI B.length) = nI B.length := if_neg (nI_pos (by omega))
      have e1 : ¬ (nI B.length < 0 ∨ 64 < (nI B.length).toNatClampNeg) := by
        rw [nI_clamp (by omega)]
        exact fun z => z.elim (fun z => nI_pos (by omega) z) (fun z => by omega)
      rw [e0, if_neg e1, nI_clamp (by omega)]
      refine Wp_let z31 ?_
      refine Wp_let rfl ?_
      refine Wp_let (y := T4) hT4.symm ?_
      rw [show (0 : Int32) = nI 0 from rfl]
      exact ⟨S', e', rfl⟩
    obtain ⟨R, h1, rfl⟩ := goal
    exact h1
  · refine ⟨⟨by rw [sm_r m']; exact r3, by rw [sm_r m']; exact r4, by rw [sm_r m']; exact r7, by rw [sm_r m']; exact r9, by rw [sm_l m']; exact l9⟩, fun k hk => ?_, ?_, K'.2.2.1, hB, K'.2.2.2.1, K'.2.2.2.2.2, P', ?_, ?_⟩
    · have hk5 : k ≠ 5 := by rintro rfl; exact absurd hk (by decide)
      rw [kk' k hk5, gq4]
      simp only [rqK, List.mem_cons, List.not_mem_nil, or_false] at hk
      have g3 : fw_g T3 q 0 = v ∧ fw_g T3 q 1 = s ∧ fw_g T3 q 2 = bulk ∧ fw_g T3 q 11 = -1 ∧ fw_g T3 q 12 = 0 ∧ fw_g T3 q 13 = 0 ∧ fw_g T3 q 14 = 0 ∧ fw_g T3 q 15 = 0 := by
        rw [hT3]
        simp (disch := decide) only [g_k, g_s, and_self]
      have g6 : fw_g T3 q 6 = 0 := by
        rw [g2o 6 (by decide) (by decide) (by decide) (by decide) (by decide) (by decide) (by decide) (by decide) (by decide), g1o 6 (by decide), hT1, g_s]
      have g8 : fw_g T3 q 8 = 0 := by
        rw [g2o 8 (by decide) (by decide) (by decide) (by decide) (by decide) (by decide) (by decide) (by decide) (by decide), hT2, g_s]
      obtain ⟨h0, h1, h2, h11, h12, h13, h14, h15⟩ := g3
      rcases hk with rfl | rfl | rfl | rfl | rfl | rfl | rfl | rfl | rfl | rfl
      · exact h0
      · exact h1
      · exact h2
      · exact g6
      · exact g8
      · exact h11
      · exact h12
      · exact h13
      · exact h14
      · exact h15
    · rw [kk' 10 (by decide), gq4, hT3]
      simp (disch := decide) only [g_k, g_s]
    · refine PrX.keep ?_ m' (fun a h1 h2 => gg' a (by omega))
      exact ((p6.blk (s2 _ _ (by omega))).blk ((sam_nw (by omega)).tr ((s13.sub (by omega) (by omega)).tr (s3 _ _ (by omega))))).blk (s34 _ _ (by omega) (by omega))
    · have hF : FrX T4 (q + 4) 0 0 [] := (p13.blk (s3 _ _ (by omega))).blk (s34 _ _ (by omega) (by omega))
      exact hF.keep m' (gg' _ (by omega)) (gg' _ (by omega))
  · refine (a01.tr (s34 0 q (by omega) (by omega))).tr (fun a h1 h2 => ⟨gg' a (by omega), sm_r m' a, sm_l m' a⟩)
end AK
