/-! The reference: a byte comes. -/
section MO
variable {S0 S S' : fw_S} {m i : Nat} {g : sG} {o : List Int32} {B : Nat}
theorem pc_id (g : sG) (k : Nat) {v : Int32} (h : v = gc g k) : pc g k v = g := by
  show (va_up (gc g) k v, g.2) = g
  rw [h, up_id]
  rfl
theorem RM.serve {n : Nat} (h : RM S0 S m g) (hok : okG g) (hA : Ar S (m + 4) (30 * 4) o) (ho : o.length = 4 + n) (hn3 : o.getD 3 0 = nI n) (h1 : 1 ≤ n) (h18 : n ≤ 18) (hb : ∀ b ∈ o, b8 b) {kind num : Int32} (hnum : b8 num) (hk3 : kind = 3 → n = 2) :
    ∃ S', F_Mo_isServed m kind num (nI (30 * 4)) S = some ((sServe g kind num (o.drop 4)).1, S') ∧ RM S0 S' m (sServe g kind num (o.drop 4)).2 := by
  have hS := h.1
  have hM := h.2.2.2.2.2.2.1
  have h8 := hM.2.1
  have hokM : okM (gm g) := hok.2.2.2.2.2.2.2.2
  have hF := hok.2.2.2.2.2.2.2.1
  have hbs : ∀ k, b8 ((o.drop 4).getD k 0) := b8_getD (fun b hb' => hb b (List.mem_of_mem_drop hb'))
  have e4 : fw_g S (m + 4) (30 * 4 + 4) = (o.drop 4).getD 0 0 := by
    rw [hA.get (j := 4) (by omega)]
    simp [show 4 < o.length by omega]
  have e3 : fw_g S (m + 4) (30 * 4 + 3) = nI n := by
    rw [hA.get (j := 3) (by omega), ← hn3]
    simp [show 3 < o.length by omega]
  obtain ⟨st, hst⟩ : ∃ st, (o.drop 4).getD 0 0 = st := ⟨_, rfl⟩
  have hst8 : b8 st := by rw [← hst]; exact hbs 0
  have hpl := hM.place hS hokM.2.2 num
  -- asked anew
  have new : sAskHit (gm g) num st = none → ∃ S', F_Mo_isServed_j52 m num (nI (30 * 4)) st S = some (1, S') ∧ RM S0 S' m (sServe g 1 num (o.drop 4)).2 := by
    intro hno
    obtain ⟨S1, p1, q1⟩ := h.remember (i := 4) (num := num) hokM (by omega) h1 h18 ho hA e3
    have hM1 := q1.2.2.2.2.2.2.1
    have hS1 := q1.1
    have hlast : (sBase (gm g) num ++ [sNewM (gf g) num (o.drop 4)])[(sBase (gm g) num).length]? = some (sNewM (gf g) num (o.drop 4)) := by simp
    have hms : sAskMs (gf g) (gm g) num (o.drop 4) = sBase (gm g) num ++ [sNewM (gf g) num (o.drop 4)] := by
      unfold sAskMs
      rw [hst, hno]
    have hokA := hokM.ask hF.2 hnum (o.drop 4)
    rw [hms] at hokA
    have hp2 : F_Mo_placeOf m num S1 = some (nI (sBase (gm g) num).length) := by
      unfold F_Mo_placeOf
      rw [show (0 : Int32) = nI 0 from rfl]
      have hl8 := hokA.1
      exact MsM.placeAt hM1 hS1 num hlast rfl (fun k e hk hx => nodup_at hokA.2.2 hk hx hlast rfl) 4096 0 _ (Nat.zero_le _) (by
        show (sBase (gm g) num ++ [sNewM (gf g) num (o.drop 4)]).length < 0 + 4096
        omega)
    obtain ⟨S2, p2, q2⟩ := q1.answer (num := num) (step := st) (t := 0) (j := (sBase (gm g) num).length) (e := sNewM (gf g) num (o.drop 4)) hlast (hF.2.find _ (fun _ q => by simp at q)) (Nat.zero_le _) hst8
    unfold F_Mo_isServed_j52
    rw [show nI 0 = (0 : Int32) from rfl] at p2
    rw [p1, Option.bind_some, hp2, Option.bind_some, p2, Option.bind_some]
    refine ⟨S2, rfl, ?_⟩
    unfold sServe
    rw [if_pos rfl, hms]
    have hrep : sAskRep (gm g) num (o.drop 4) = 0 := by
      unfold sAskRep
      rw [hst, hno]
    have hrows : sAskRows (gf g) (gm g) num (o.drop 4) = sFind (gf g) ((o.drop 4).drop 1) [] := by
      unfold sAskRows
      rw [hst, hno]
    rw [hrep, hrows, hst, pc_id (pm g _) 6 (by rw [Int32.add_zero]; rfl)]
    exact q2
  unfold F_Mo_isServed
  rw [hS.o3, a4, hS.l4, if_neg (nI_in (by omega) (by omega)), nI_clamp (by omega), e4, let_i, hpl, Option.bind_some, hst]
  by_cases k1 : kind = 1
  · subst k1
    rw [if_pos rfl]
    have hs1 : (sServe g 1 num (o.drop 4)).1 = 1 := by unfold sServe; rw [if_pos rfl]
    rw [hs1]
    cases hp : sPlace (gm g) num with
    | none =>
      have hno : sAskHit (gm g) num st = none := by unfold sAskHit; rw [hp]
      simp only
      rw [if_pos (by decide)]
      exact new hno
    | some p =>
      obtain ⟨hpl2, e, he, hx⟩ := sPlace_lt hp
      have hMe := hM.2.2 p e he
      simp only
      rw [if_neg (nI_pos (by omega)), hS.o44, hS.l34, if_neg (nI_in (by omega) (by omega)), nI_clamp (by omega), hMe.2.1]
      by_cases hc : e.2.1 = st
      · rw [if_pos hc, let_i]
        have hhit : sAskHit (gm g) num st = some e := by
          unfold sAskHit
          rw [hp]
          simp only
          rw [he, Option.bind_some, if_pos hc]
        have hdb : fw_g S m 42 = gc g 6 := h.2.1.2.2.2.2.2.2
        rw [hdb]
        have q1 := h.num (f := 42) (k := 6) (by decide) (gc g 6 + 1)
        have hp2 := MsM.place (ms := gm g) q1.2.2.2.2.2.2.1 q1.1 hokM.2.2 num
        rw [hp2, hp, Option.bind_some]
        simp only
        obtain ⟨S2, p2, q2⟩ := q1.answer (num := num) (step := st) (t := 0) (j := p) (e := e) he (hokM.2.1 e (List.mem_of_getElem? he)).1 (Nat.zero_le _) hst8
        rw [show nI 0 = (0 : Int32) from rfl] at p2
        rw [p2, Option.bind_some]
        refine ⟨S2, rfl, ?_⟩
        unfold sServe
        rw [if_pos rfl]
        have hms : sAskMs (gf g) (gm g) num (o.drop 4) = gm g := by unfold sAskMs; rw [hst, hhit]
        have hrep : sAskRep (gm g) num (o.drop 4) = 1 := by unfold sAskRep; rw [hst, hhit]
        have hrows : sAskRows (gf g) (gm g) num (o.drop 4) = e.2.2.2 := by unfold sAskRows; rw [hst, hhit]
        rw [hms, hrep, hrows, hst]
        exact q2
      · rw [if_neg hc]
        have hno : sAskHit (gm g) num st = none := by
          unfold sAskHit
          rw [hp]
          simp only
          rw [he, Option.bind_some, if_neg hc]
        exact new hno
  · rw [if_neg k1]
    by_cases k3 : kind = 3
    · subst k3
      have hn2 := hk3 rfl
      have e5 : fw_g S (m + 4) (30 * 4 + 5) = (o.drop 4).getD 1 0 := by
        rw [hA.get (j := 5) (by omega)]
        simp [show 5 < o.length by omega]
      have hs3 : (sServe g 3 num (o.drop 4)).1 = 1 := by unfold sServe; rw [if_neg (by decide), if_pos rfl]
      have cant : sMoreHit (gm g) num st ((o.drop 4).getD 1 0) = none → ∀ v5, ∃ S', F_Mo_isServed_j137 m num (nI (30 * 4)) st v5 S = some (1, S') ∧ RM S0 S' m (sServe g 3 num (o.drop 4)).2 := by
        intro hno v5
        unfold F_Mo_isServed_j137 F_Mo_isServed_j138
        rw [if_pos rfl, let_i]
        have h0 := h.mk (cK_zero (S := S) (m := m))
        obtain ⟨S1, p1, q1, d1⟩ := (MkM.zero (S := S) (m := m)).put h0.1 (by simp) st
        have x1 : st &&& 255 = st := hst8
        rw [x1] at q1
        obtain ⟨S2, p2, q2⟩ := (h0.mk d1).send q1 (i := 4) (by omega) (by simp) 4 num
        rw [show nI 4 = (4 : Int32) from rfl] at p2
        rw [p1, Option.bind_some, p2]
        refine ⟨S2, rfl, ?_⟩
        unfold sServe
        rw [if_neg (by decide), if_pos rfl]
        have a1 : sMoreMs (gm g) num (o.drop 4) = gm g := by unfold sMoreMs; rw [hst, hno]
        have a2 : sMoreK (gm g) num (o.drop 4) = 4 := by unfold sMoreK; rw [hst, hno]
        have a3 : sMoreB (gm g) num (o.drop 4) = [st] := by unfold sMoreB; rw [hst, hno]
        rw [a1, a2, a3]
        exact q2
      rw [if_pos rfl, hs3]
      cases hp : sPlace (gm g) num with
      | none =>
        have hno : sMoreHit (gm g) num st ((o.drop 4).getD 1 0) = none := by unfold sMoreHit; rw [hp]
        simp only
        rw [if_pos (by decide)]
        exact cant hno _
      | some p =>
        obtain ⟨hpl2, e, he, hx⟩ := sPlace_lt hp
        obtain ⟨m1, m2, m3, m4, m5, m6, m7⟩ := hM.2.2 p e he
        simp only
        rw [if_neg (nI_pos (by omega)), hS.o3, a5, hS.l4, if_neg (nI_in (by omega) (by omega)), hS.o46, hS.l36, if_neg (nI_in (by omega) (by omega)), nI_clamp (n := p) (by omega), nI_clamp (n := 30 * 4 + 5) (by omega), m4, e5]
        by_cases c1 : nI e.2.2.2.length < (o.drop 4).getD 1 0
        · rw [if_pos c1]
          have hno : sMoreHit (gm g) num st ((o.drop 4).getD 1 0) = none := by
            unfold sMoreHit
            rw [hp]
            simp only
            rw [he, Option.bind_some, if_pos c1]
          exact cant hno _
        · rw [if_neg c1]
          have hno1 : ¬ (nI p < 0 ∨ 9 ≤ p) := fun z => z.elim (fun z => nI_pos (by omega) z) (fun z => by omega)
          rw [hS.o45, hS.l35, if_neg hno1, m3]
          obtain ⟨t, ht, htb⟩ := b8_of (hbs 1)
          have htl : t ≤ e.2.2.2.length := Nat.not_lt.mp (fun q => c1 (by rw [htb]; exact nI_lt q (by omega)))
          have good : (st = e.2.2.1 ∨ st = ((e.2.2.1 + 1) &&& 255)) → ∃ S', F_Mo_isServed_j133 m num (nI (30 * 4)) st (nI p) S = some (1, S') ∧ RM S0 S' m (sServe g 3 num (o.drop 4)).2 := by
            intro hgd
            have hhit : sMoreHit (gm g) num st ((o.drop 4).getD 1 0) = some p := by
              unfold sMoreHit
              rw [hp]
              simp only
              rw [he, Option.bind_some, if_neg c1, if_pos hgd]
            have hgD : (gm g).getD p (0, 0, 0, []) = e := by simp [he]
            have hMs : MsM (fw_wi S (m + 35) p st) m ((gm g).set p (e.1, e.2.1, st, e.2.2.2)) := by
              refine ⟨by rw [g_a (by omega), List.length_set]; exact hM.1, by rw [List.length_set]; exact h8, fun j e' he' => ?_⟩
              by_cases hj : j = p
              · subst hj
                rw [List.getElem?_set_self hpl2] at he'
                cases he'
                exact ⟨by rw [g_a (by omega)]; exact m1, by rw [g_a (by omega)]; exact m2, g_s, by rw [g_a (by omega)]; exact m4, m5, m6.wi (Or.inl (by omega)), m7.wi (Or.inl (by omega))⟩
              · rw [List.getElem?_set_ne (Ne.symm hj)] at he'
                exact (hM.2.2 j e' he').keep (fun a k q => by
                  simp only [cMe] at q
                  by_cases ha : a = m + 35
                  · subst ha; rw [g_k (by omega)]
                  · rw [g_a ha])
            have q1 := h.mem (df.wi (Or.inr ⟨by omega, by omega⟩)) hMs
            unfold F_Mo_isServed_j133 F_Mo_isServed_j138
            rw [if_neg (show ¬ (1 : Int32) = 0 by decide), hS.o45, hS.l35, if_neg (nI_in (by omega) (by omega)), nI_clamp (by omega), let_i, om_wi, hS.o3, a5, fw_l_wi, hS.l4, if_neg (nI_in (by omega) (by omega)), nI_clamp (by omega), g_a (by omega), e5, htb]
            obtain ⟨S2, p2, q2⟩ := q1.answer (num := num) (step := st) (t := t) (j := p) (e := (e.1, e.2.1, st, e.2.2.2)) (by
              show ((gm g).set p (e.1, e.2.1, st, e.2.2.2))[p]? = _
              rw [List.getElem?_set_self hpl2]) (hokM.2.1 e (List.mem_of_getElem? he)).1 htl hst8
            rw [p2, Option.bind_some]
            refine ⟨S2, rfl, ?_⟩
            unfold sServe
            rw [if_neg (by decide), if_pos rfl]
            have a1 : sMoreMs (gm g) num (o.drop 4) = (gm g).set p (e.1, e.2.1, st, e.2.2.2) := by unfold sMoreMs; rw [hst, hhit]; simp only; rw [hgD]
            have a2 : sMoreK (gm g) num (o.drop 4) = 2 := by unfold sMoreK; rw [hst, hhit]
            have a3 : sMoreB (gm g) num (o.drop 4) = sRowsB e.2.2.2 st t := by unfold sMoreB; rw [hst, hhit]; simp only; rw [hgD, htb, nI_clamp (by omega)]
            rw [a1, a2, a3]
            exact q2
          by_cases c2 : st = e.2.2.1
          · rw [if_pos c2]
            exact good (Or.inl c2)
          · rw [if_neg c2, hS.o45, hS.l35, if_neg hno1, m3]
            by_cases c3 : st = ((e.2.2.1 + 1) &&& 255)
            · rw [if_pos c3]
              exact good (Or.inr c3)
            · rw [if_neg c3]
              have hno : sMoreHit (gm g) num st ((o.drop 4).getD 1 0) = none := by
                unfold sMoreHit
                rw [hp]
                simp only
                rw [he, Option.bind_some, if_neg c1, if_neg (fun z => z.elim c2 c3)]
              exact cant hno _
    · rw [if_neg k3]
      unfold sServe
      rw [if_neg k1, if_neg k3]
      exact ⟨S, rfl, h⟩
end MO
