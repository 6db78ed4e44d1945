/-! The serving end of the class: answers to ASK and MORE. -/
def ot (lo n : Nat) (S S' : fw_S) : Prop := (∀ a, (a < lo ∨ lo + n ≤ a) → fw_g S' a = fw_g S a ∧ fw_r S' a = fw_r S a ∧ fw_l S' a = fw_l S a) ∧ fw_z S' = fw_z S
theorem ot.of {lo n : Nat} {S S' : fw_S} (hs : sm S S') (h : ∀ a, (a < lo ∨ lo + n ≤ a) → fw_g S' a = fw_g S a) : ot lo n S S' := ⟨fun a ha => ⟨h a ha, sm_r hs a, sm_l hs a⟩, sm_z hs⟩
theorem ot.tr {lo n : Nat} {S S' S'' : fw_S} (h : ot lo n S S') (h' : ot lo n S' S'') : ot lo n S S'' := ⟨fun a ha => ⟨(h'.1 a ha).1.trans (h.1 a ha).1, (h'.1 a ha).2.1.trans (h.1 a ha).2.1, (h'.1 a ha).2.2.trans (h.1 a ha).2.2⟩, h'.2.trans h.2⟩
theorem ot.sam {lo n lo' n' : Nat} {S S' : fw_S} (h : ot lo n S S') (hd : lo' + n' ≤ lo ∨ lo + n ≤ lo') : sam S S' lo' n' := fun a h1 h2 => h.1 a (by omega)
theorem ot.wide {lo n lo' n' : Nat} {S S' : fw_S} (h : ot lo n S S') (h1 : lo' ≤ lo) (h2 : lo + n ≤ lo' + n') : ot lo' n' S S' := ⟨fun a ha => h.1 a (by omega), h.2⟩
def okPs (R : sPs) : Prop := ∀ x ∈ R, b8 x.1 ∧ b8 x.2
theorem okPs.add {R : sPs} {x : Int32 × Int32} (h : okPs R) (hx : b8 x.1 ∧ b8 x.2) : okPs (sAdd R x) := by
  unfold sAdd
  split
  · intro y hy
    rcases List.mem_append.mp hy with q | q
    · exact h y q
    · rw [List.mem_singleton.mp q]; exact hx
  · exact h
theorem okPs.adds {L : sPs} (hL : okPs L) : ∀ {R : sPs}, okPs R → okPs (L.foldl sAdd R) := by
  induction L with
  | nil => exact fun h => h
  | cons x L ih =>
    intro R h
    exact ih (fun y hy => hL y (List.mem_cons_of_mem _ hy)) (h.add (hL x List.mem_cons_self))
theorem okPs.hit {fa : sPs} (h : okPs fa) (k : Int32) : okPs (sHit k fa) := fun x hx => h x (List.mem_filter.mp hx).1
theorem okPs.find {fa : sPs} (h : okPs fa) : ∀ (ks : List Int32) {R : sPs}, okPs R → okPs (sFind fa ks R) := by
  intro ks
  induction ks with
  | nil => exact fun h => h
  | cons k ks ih => exact fun hR => ih ((h.hit k).adds hR)
section SV4
variable {S S' : fw_S} {e : Nat} {p : Nat → Nat} {fa : sPs} {ms : List sM}
theorem SvX.setMem (h : SvX S e p fa ms) {i : Nat} (hi : i < ms.length) {m : sM} (hs : sm S S') (hm : MmX S' (e + 7 + 4 * p i) m) (hg : ∀ b, (b < e + 7 + 4 * p i ∨ e + 7 + 4 * p i + 4 ≤ b) → fw_g S' b = fw_g S b) : SvX S' e p fa (ms.set i m) := by
  obtain ⟨⟨r0, r1, r4, l4⟩, hf, hp, hj, hme, hn, hl, hms, k, n, bs, hF⟩ := h
  refine ⟨⟨by rw [sm_r hs]; exact r0, by rw [sm_r hs]; exact r1, by rw [sm_r hs]; exact r4, by rw [sm_l hs]; exact l4⟩, hf.keep hs (fun b _ _ => hg b (by omega)), fun j hj8 => by rw [sm_r hs]; exact hp j hj8, hj, fun j hj8 => ?_, by rw [hg e (by omega), hn, List.length_set], by rw [List.length_set]; exact hl, fun j m' hjm => ?_, k, n, bs, hF.keep hs (hg _ (by omega)) (hg _ (by omega))⟩
  · by_cases hc : j = p i
    · subst hc; exact ⟨m, hm⟩
    · obtain ⟨m', hm'⟩ := hme j hj8
      exact ⟨m', hm'.blk (sam.of hs (fun b _ _ => hg b (by omega)))⟩
  · by_cases hc : j = i
    · subst hc
      rw [List.getElem?_set_self hi] at hjm
      cases hjm
      exact hm
    · rw [List.getElem?_set_ne (Ne.symm hc)] at hjm
      have hjl := (List.getElem?_eq_some_iff.mp hjm).1
      have hne : p j ≠ p i := fun q => hc (hj j i (by omega) (by omega) q)
      exact (hms j m' hjm).blk (sam.of hs (fun b _ _ => hg b (by omega)))
theorem SvX.setAns (h : SvX S e p fa ms) (hs : sm S S') (hg : ∀ b, b ≠ e + 5 → b ≠ e + 6 → fw_g S' b = fw_g S b) {k n : Int32} {bs : List Int32} (hF : FrX S' (e + 5) k n bs) : SvX S' e p fa ms := by
  obtain ⟨⟨r0, r1, r4, l4⟩, hf, hp, hj, hme, hn, hl, hms, -⟩ := h
  refine ⟨⟨by rw [sm_r hs]; exact r0, by rw [sm_r hs]; exact r1, by rw [sm_r hs]; exact r4, by rw [sm_l hs]; exact l4⟩, hf.keep hs (fun b _ _ => hg b (by omega) (by omega)), fun j hj8 => by rw [sm_r hs]; exact hp j hj8, hj, fun j hj8 => ?_, by rw [hg e (by omega) (by omega)]; exact hn, hl, fun j m' hjm => ?_, k, n, bs, hF⟩
  · obtain ⟨m', hm'⟩ := hme j hj8
    exact ⟨m', hm'.blk (sam.of hs (fun b _ _ => hg b (by omega) (by omega)))⟩
  · exact (hms j m' hjm).blk (sam.of hs (fun b _ _ => hg b (by omega) (by omega)))
theorem SvX.setRep (h : SvX S e p fa ms) (v : Int32) : SvX (fw_wi S e 3 v) e p fa ms := by
  obtain ⟨⟨r0, r1, r4, l4⟩, hf, hp, hj, hme, hn, hl, hms, k, n, bs, hF⟩ := h
  have hg : ∀ b, b ≠ e → fw_g (fw_wi S e 3 v) b = fw_g S b := fun b hb => fw_g_wi_ne hb
  refine ⟨⟨r0, r1, r4, l4⟩, hf.keep rfl (fun b _ _ => hg b (by omega)), hp, hj, fun j hj8 => ?_, by rw [g_k (by decide)]; exact hn, hl, fun j m' hjm => ?_, k, n, bs, hF.keep rfl (hg _ (by omega)) (hg _ (by omega))⟩
  · obtain ⟨m', hm'⟩ := hme j hj8
    exact ⟨m', hm'.blk (sam.of sm_wi (fun b _ _ => hg b (by omega)))⟩
  · exact (hms j m' hjm).blk (sam.of sm_wi (fun b _ _ => hg b (by omega)))
def sAskHit (ms : List sM) (num step : Int32) : Option sM := match sPlace ms num with
  | some i => (ms[i]?).bind (fun m => if m.2.1 = step then some m else none)
  | none => none
def sNewM (fa : sPs) (num : Int32) (bs : List Int32) : sM := (num, bs.getD 0 0, bs.getD 0 0, sFind fa (bs.drop 1) [])
def sAskMs (fa : sPs) (ms : List sM) (num : Int32) (bs : List Int32) : List sM := match sAskHit ms num (bs.getD 0 0) with
  | some _ => ms
  | none => sBase ms num ++ [sNewM fa num bs]
def sAskRows (fa : sPs) (ms : List sM) (num : Int32) (bs : List Int32) : sPs := match sAskHit ms num (bs.getD 0 0) with
  | some m => m.2.2.2
  | none => sFind fa (bs.drop 1) []
def sAskRep (ms : List sM) (num : Int32) (bs : List Int32) : Int32 := match sAskHit ms num (bs.getD 0 0) with
  | some _ => 1
  | none => 0
theorem SvX.askNew (h : SvX S e p fa ms) (hfa : okPs fa) {fr : Nat} {kind num : Int32} {bs : List Int32} (hF : FrX S fr kind num bs) (hfr : fr + 1 < e ∨ e + 39 ≤ fr) (hbs : 1 ≤ bs.length) (hb0 : b8 (bs.getD 0 0)) :
    ∃ S' p', F_ServingEnd_answerAsk_j42 e fr S = some S' ∧ SvX S' e p' fa (sBase ms num ++ [sNewM fa num bs]) ∧ FrX S' (e + 5) 2 num (sRowsB (sFind fa (bs.drop 1) []) (bs.getD 0 0) 0) ∧ fw_g S' e 3 = fw_g S e 3 ∧ ot e 39 S S' := by
  obtain ⟨S1, p', m, p1, h1, t1⟩ := h.memFor num
  have hF1 : FrX S1 fr kind num bs := hF.blk (t1.sam (by omega) (by omega))
  have hlt : (sBase ms num).length < (sBase ms num ++ [m]).length := by simp
  have hp8 : p' (sBase ms num).length < 8 := (h1.2.2.1 _ (by have := h1.2.2.2.2.2.2.1; simp at this; omega)).2
  have hm1 : MmX S1 (e + 7 + 4 * p' (sBase ms num).length) m := h1.2.2.2.2.2.2.2.1 _ m (by simp)
  obtain ⟨S2, p2, q2, s2, g2⟩ := memR (e := e) (fr := fr) (by omega) (by omega) h1.1.1 h1.2.1 hF1 hm1 hbs
  have hF2 : FrX S2 fr kind num bs := hF1.keep s2 (g2 _ (by omega)) (g2 _ (by omega))
  have h2 := h1.setMem hlt s2 q2 g2
  have hset : (sBase ms num ++ [m]).set (sBase ms num).length (num, bs.getD 0 0, bs.getD 0 0, sFind fa (bs.drop 1) []) = sBase ms num ++ [sNewM fa num bs] := by
    rw [List.set_append_right _ _ (Nat.le_refl _)]
    simp [sNewM]
  rw [hset] at h2
  obtain ⟨k3, n3, bs3, hF3⟩ := h2.2.2.2.2.2.2.2.2
  obtain ⟨S3, p3, q3, s3, g3⟩ := wrR (e := e) q2 (hfa.find _ (fun _ q => by simp at q)) (by omega) h2.1.2.2.1 hF3 hb0 (t := 0) (Nat.zero_le _)
  refine ⟨S3, p', ?_, h2.setAns s3 g3 q3, q3, ?_, ?_⟩
  · unfold F_ServingEnd_answerAsk_j42
    rw [hF.2.2.2.1, p1]
    simp only [fw_b2, fw_om]
    have e0 : F_Frame_byteAt fr 0 S2 = some (bs.getD 0 0) := hF2.at 0 (by decide)
    rw [p2, Option.bind_some, e0, Option.bind_some, show (0 : Int32) = nI 0 from rfl]
    have p3' : F_ServingEnd_writeRows e (e + 7 + 4 * p' (sBase ms num).length) (bs.getD 0 (nI 0)) (nI 0) S2 = some S3 := p3
    rw [p3']
    rfl
  · rw [g3 e (by omega) (by omega), g2 e (by omega), t1.2.1 3 (by decide)]
  · refine ⟨fun a ha => ⟨?_, ?_, ?_⟩, ?_⟩
    · rw [g3 a (by omega) (by omega), g2 a (by omega), t1.1 a (by omega)]
    · rw [sm_r s3, sm_r s2, t1.2.2.1 a (by omega)]
    · rw [sm_l s3, sm_l s2, t1.2.2.2.1 a]
    · rw [sm_z s3, sm_z s2, t1.2.2.2.2]
theorem SvX.ask (h : SvX S e p fa ms) (hfa : okPs fa) (hok : ∀ m ∈ ms, okPs m.2.2.2) {fr : Nat} {kind num : Int32} {bs : List Int32} (hF : FrX S fr kind num bs) (hfr : fr + 1 < e ∨ e + 39 ≤ fr) (hbs : 1 ≤ bs.length) (hb0 : b8 (bs.getD 0 0)) :
    ∃ S' p', F_ServingEnd_answerAsk e fr S = some S' ∧ SvX S' e p' fa (sAskMs fa ms num bs) ∧ FrX S' (e + 5) 2 num (sRowsB (sAskRows fa ms num bs) (bs.getD 0 0) 0) ∧ fw_g S' e 3 = fw_g S e 3 + sAskRep ms num bs ∧ ot e 39 S S' := by
  have hl := h.2.2.2.2.2.2.1
  obtain ⟨Sn, pn, n1, n2, n3, n4, n5⟩ := h.askNew hfa hF hfr hbs hb0
  have e0 : F_Frame_byteAt fr 0 S = some (bs.getD 0 0) := hF.at 0 (by decide)
  unfold F_ServingEnd_answerAsk sAskMs sAskRows sAskRep sAskHit
  rw [hF.2.2.2.1, h.place, Option.bind_some]
  cases hpl : sPlace ms num with
  | none =>
    simp only
    rw [h.memNo, Option.bind_some]
    simp only [fw_om]
    exact ⟨Sn, pn, n1, n2, n3, by rw [n4]; simp, n5⟩
  | some i =>
    obtain ⟨hi, m, hm, hmn⟩ := sPlace_lt hpl
    have hp8 : p i < 8 := (h.2.2.1 i (by omega)).2
    have hm1 : MmX S (e + 7 + 4 * p i) m := h.2.2.2.2.2.2.2.1 i m hm
    simp only
    rw [h.memAt hi, Option.bind_some, hm]
    simp only [fw_om, Option.bind_some]
    rw [e0, Option.bind_some, hm1.2.2.1]
    by_cases hc : m.2.1 = bs.getD 0 0
    · rw [if_pos hc, if_pos hc]
      simp only [fw_let]
      have h1 := h.setRep (fw_g S e 3 + 1)
      obtain ⟨k3, n3', bs3, hF3⟩ := h1.2.2.2.2.2.2.2.2
      have hm2 : MmX (fw_wi S e 3 (fw_g S e 3 + 1)) (e + 7 + 4 * p i) m := h1.2.2.2.2.2.2.2.1 i m hm
      obtain ⟨S3, p3, q3, s3, g3⟩ := wrR (e := e) hm2 (hok m (List.mem_of_getElem? hm)) (by omega) h1.1.2.2.1 hF3 hb0 (t := 0) (Nat.zero_le _)
      have hF2 : FrX (fw_wi S e 3 (fw_g S e 3 + 1)) fr kind num bs := hF.keep rfl (fw_g_wi_ne (by omega)) (fw_g_wi_ne (by omega))
      have e0' : F_Frame_byteAt fr 0 (fw_wi S e 3 (fw_g S e 3 + 1)) = some (bs.getD 0 0) := hF2.at 0 (by decide)
      refine ⟨S3, p, ?_, h1.setAns s3 g3 q3, ?_, ?_, ot.of (sm_tr sm_wi s3) (fun a ha => by rw [g3 a (by omega) (by omega), fw_g_wi_ne (by omega)])⟩
      · rw [e0', Option.bind_some]
        have p3' : F_ServingEnd_writeRows e (e + 7 + 4 * p i) (bs.getD 0 0) 0 (fw_wi S e 3 (fw_g S e 3 + 1)) = some S3 := p3
        rw [p3']
        rfl
      · rw [hmn] at q3; exact q3
      · rw [g3 e (by omega) (by omega), g_s]
    · rw [if_neg hc, if_neg hc]
      exact ⟨Sn, pn, n1, n2, n3, by rw [n4]; simp, n5⟩
def sMoreHit (ms : List sM) (num step first : Int32) : Option Nat := match sPlace ms num with
  | some i => (ms[i]?).bind (fun m => if nI m.2.2.2.length < first then none else if step = m.2.2.1 ∨ step = ((m.2.2.1 + 1) &&& 255) then some i else none)
  | none => none
def sMoreMs (ms : List sM) (num : Int32) (bs : List Int32) : List sM := match sMoreHit ms num (bs.getD 0 0) (bs.getD 1 0) with
  | some i => ms.set i ((ms.getD i (0, 0, 0, [])).1, (ms.getD i (0, 0, 0, [])).2.1, bs.getD 0 0, (ms.getD i (0, 0, 0, [])).2.2.2)
  | none => ms
def sMoreK (ms : List sM) (num : Int32) (bs : List Int32) : Int32 := match sMoreHit ms num (bs.getD 0 0) (bs.getD 1 0) with
  | some _ => 2
  | none => 4
def sMoreB (ms : List sM) (num : Int32) (bs : List Int32) : List Int32 := match sMoreHit ms num (bs.getD 0 0) (bs.getD 1 0) with
  | some i => sRowsB (ms.getD i (0, 0, 0, [])).2.2.2 (bs.getD 0 0) (bs.getD 1 0).toNatClampNeg
  | none => [bs.getD 0 0]
theorem SvX.cant (h : SvX S e p fa ms) {fr : Nat} {kind num : Int32} {bs : List Int32} (hF : FrX S fr kind num bs) (hfr : fr + 1 < e ∨ e + 39 ≤ fr) (hb0 : b8 (bs.getD 0 0)) :
    ∃ S', F_ServingEnd_answerMore_j64 e fr (bs.getD 0 0) S = some S' ∧ SvX S' e p fa ms ∧ FrX S' (e + 5) 4 num [bs.getD 0 0] ∧ fw_g S' e 3 = fw_g S e 3 ∧ ot e 39 S S' := by
  obtain ⟨k3, n3, bs3, hF3⟩ := h.2.2.2.2.2.2.2.2
  obtain ⟨S1, p1, q1, s1, g1⟩ := FrX.begin hF3.1 hF3.2.1 4 num
  obtain ⟨S2, p2, q2, s2, g2⟩ := q1.put (by simp) (bs.getD 0 0)
  rw [hb0] at q2
  have hk : ∀ b, b ≠ e + 5 → b ≠ e + 6 → fw_g S2 b = fw_g S b := fun b hb hb' => by rw [g2 b hb hb', g1 b hb]
  refine ⟨S2, ?_, h.setAns (sm_tr s1 s2) hk q2, q2, by rw [hk e (by omega) (by omega)], ot.of (sm_tr s1 s2) (fun a ha => hk a (by omega) (by omega))⟩
  unfold F_ServingEnd_answerMore_j64
  rw [h.1.2.2.1]
  simp only [fw_om]
  rw [hF.2.2.2.1, p1, Option.bind_some, sm_r s1, h.1.2.2.1]
  simp only
  rw [p2]
  rfl
theorem SvX.more (h : SvX S e p fa ms) (hok : ∀ m ∈ ms, okPs m.2.2.2) {fr : Nat} {kind num : Int32} {bs : List Int32} (hF : FrX S fr kind num bs) (hfr : fr + 1 < e ∨ e + 39 ≤ fr) (hb0 : b8 (bs.getD 0 0)) (hb1 : b8 (bs.getD 1 0)) :
    ∃ S', F_ServingEnd_answerMore e fr S = some S' ∧ SvX S' e p fa (sMoreMs ms num bs) ∧ FrX S' (e + 5) (sMoreK ms num bs) num (sMoreB ms num bs) ∧ fw_g S' e 3 = fw_g S e 3 ∧ ot e 39 S S' := by
  have hl := h.2.2.2.2.2.2.1
  obtain ⟨Sn, n1, n2, n3, n4, n5⟩ := h.cant hF hfr hb0
  have e0 : F_Frame_byteAt fr 0 S = some (bs.getD 0 0) := hF.at 0 (by decide)
  have e1 : F_Frame_byteAt fr 1 S = some (bs.getD 1 0) := hF.at 1 (by decide)
  unfold F_ServingEnd_answerMore sMoreMs sMoreK sMoreB sMoreHit
  rw [hF.2.2.2.1, h.place, Option.bind_some]
  cases hpl : sPlace ms num with
  | none =>
    simp only
    rw [h.memNo, Option.bind_some]
    simp only [fw_om]
    rw [e0, Option.bind_some, e1, Option.bind_some]
    exact ⟨Sn, n1, n2, n3, n4, n5⟩
  | some i =>
    obtain ⟨hi, m, hm, hmn⟩ := sPlace_lt hpl
    have hp8 : p i < 8 := (h.2.2.1 i (by omega)).2
    have hm1 : MmX S (e + 7 + 4 * p i) m := h.2.2.2.2.2.2.2.1 i m hm
    have hgd : ms.getD i (0, 0, 0, []) = m := by simp [hm]
    simp only
    rw [h.memAt hi, Option.bind_some, hm]
    simp only [fw_om, Option.bind_some]
    rw [e0, Option.bind_some, e1, Option.bind_some, hm1.1]
    simp only
    rw [hm1.2.2.2.2.2.2.2.2.2.1, hm1.2.2.2.1]
    by_cases hc : nI m.2.2.2.length < bs.getD 1 0
    · rw [if_pos hc, if_pos hc]
      exact ⟨Sn, n1, n2, n3, n4, n5⟩
    · rw [if_neg hc, if_neg hc]
      obtain ⟨t, ht, htb⟩ := b8_of hb1
      have hml := hm1.2.2.2.2.2.2.2.2.2.2.1
      have htl : t ≤ m.2.2.2.length := Nat.not_lt.mp (fun q => hc (by rw [htb]; exact nI_lt q (by omega)))
      -- the good case
      have good : ∃ S', (Option.bind (F_ServingEnd_writeRows e (e + 7 + 4 * p i) (bs.getD 0 0) (bs.getD 1 0) (fw_wi S (e + 7 + 4 * p i) 2 (bs.getD 0 0))) (fun S22 => some S22)) = some S' ∧ SvX S' e p fa (ms.set i (m.1, m.2.1, bs.getD 0 0, m.2.2.2)) ∧ FrX S' (e + 5) 2 num (sRowsB m.2.2.2 (bs.getD 0 0) (bs.getD 1 0).toNatClampNeg) ∧ fw_g S' e 3 = fw_g S e 3 ∧ ot e 39 S S' := by
        have hm2 : MmX (fw_wi S (e + 7 + 4 * p i) 2 (bs.getD 0 0)) (e + 7 + 4 * p i) (m.1, m.2.1, bs.getD 0 0, m.2.2.2) := by
          obtain ⟨a1, a2, a3, a4, a5⟩ := hm1
          exact ⟨a1, by rw [g_k (by decide)]; exact a2, by rw [g_k (by decide)]; exact a3, g_s, a5.keep rfl (fun b _ _ => fw_g_wi_ne (by omega))⟩
        have h1 := h.setMem hi sm_wi hm2 (fun b hb => fw_g_wi_ne (by omega))
        obtain ⟨k3, n3', bs3, hF3⟩ := h1.2.2.2.2.2.2.2.2
        obtain ⟨S3, p3, q3, s3, g3⟩ := wrR (e := e) hm2 (hok m (List.mem_of_getElem? hm)) (by omega) h1.1.2.2.1 hF3 hb0 (t := t) htl
        refine ⟨S3, ?_, h1.setAns s3 g3 q3, ?_, ?_, ot.of (sm_tr sm_wi s3) (fun a ha => by rw [g3 a (by omega) (by omega), fw_g_wi_ne (by omega)])⟩
        · rw [htb, p3]; rfl
        · rw [htb, nI_clamp (by omega), ← hmn]; exact q3
        · rw [g3 e (by omega) (by omega), g_a (by omega)]
      by_cases hc1 : bs.getD 0 0 = m.2.2.1
      · rw [if_pos hc1, if_pos (Or.inl hc1)]
        simp only [fw_let, hgd]
        exact good
      · rw [if_neg hc1]
        by_cases hc2 : bs.getD 0 0 = (m.2.2.1 + 1) &&& 255
        · rw [if_pos hc2, if_pos (Or.inr hc2)]
          simp only [fw_let, hgd]
          exact good
        · rw [if_neg hc2, if_neg (fun q => q.elim hc1 hc2)]
          exact ⟨Sn, n1, n2, n3, n4, n5⟩
end SV4
