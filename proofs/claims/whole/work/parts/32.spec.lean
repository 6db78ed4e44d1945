/-! The state of the system as a mathematical value, and what each call does to it: class and reference are both held against this. -/
abbrev sL : Type := Int32 × List Int32 × List Int32
abbrev sR : Type := (Nat → Int32) × sPs × List Int32 × sPs × List Int32
abbrev sG : Type := (Nat → Int32) × (Nat → sL) × (Nat × (Nat → sR)) × sPs × sPs × List sM × (Nat → Int32) × (Nat → Int32)
/-- 0 bulk, 1 patience, 2 retries, 3 clock, 4 dropped, 5 lost, 6 repeats of the serving end -/
def gc (x : sG) : Nat → Int32 := x.1
def gl (x : sG) : Nat → sL := x.2.1
def gn (x : sG) : Nat := x.2.2.1.1
def gq (x : sG) : Nat → sR := x.2.2.1.2
def gb (x : sG) : sPs := x.2.2.2.1
def gf (x : sG) : sPs := x.2.2.2.2.1
def gm (x : sG) : List sM := x.2.2.2.2.2.1
def ge (x : sG) : Nat → Int32 := x.2.2.2.2.2.2.1
def gd (x : sG) : Nat → Int32 := x.2.2.2.2.2.2.2
def pc (x : sG) (k : Nat) (v : Int32) : sG := (va_up x.1 k v, x.2)
def pl (x : sG) (i : Nat) (l : sL) : sG := (x.1, va_up x.2.1 i l, x.2.2)
def pq (x : sG) (r : Nat) (d : sR) : sG := (x.1, x.2.1, (x.2.2.1.1, va_up x.2.2.1.2 r d), x.2.2.2)
def pm (x : sG) (ms : List sM) : sG := (x.1, x.2.1, x.2.2.1, x.2.2.2.1, x.2.2.2.2.1, ms, x.2.2.2.2.2.2)
def pe (x : sG) (h : Nat) (v : Int32) : sG := (x.1, x.2.1, x.2.2.1, x.2.2.2.1, x.2.2.2.2.1, x.2.2.2.2.2.1, va_up x.2.2.2.2.2.2.1 h v, va_up x.2.2.2.2.2.2.2 h 1)
def hN (x : Int32) : Nat := x.toNatClampNeg
def sSendTo (x : sG) (i : Nat) (kind num : Int32) (bs : List Int32) : Int32 × sG :=
  if (gl x i).1 = 0 ∨ 300 < (gl x i).2.1.length + bs.length + 5 then (0, pc x 5 (gc x 5 + 1))
  else (1, pl x i ((gl x i).1, (gl x i).2.1 ++ sFrame kind num bs, (gl x i).2.2))
/-- the frame of request r is sent (again): v is how often it was repeated then -/
def sSendReq (x : sG) (r : Nat) (v : Int32) : Int32 × sG :=
  sSendTo (pq x r (va_up (va_up (gq x r).1 12 (gc x 3)) 13 v, (gq x r).2)) (hN ((gq x r).1 0)) ((gq x r).1 20) (nI r) (gq x r).2.2.2.2
def sOwn (d : sR) : Int32 := nI d.2.2.2.1.length * 1000 / nI d.2.2.1.length
def sLearn (x : sG) (r : Nat) : sG :=
  pe x (hN ((gq x r).1 0)) (if gd x (hN ((gq x r).1 0)) = 0 then sOwn (gq x r) else (ge x (hN ((gq x r).1 0)) + sOwn (gq x r)) / 2)
def sTook (d : sR) (bs : List Int32) : sR := (va_up d.1 8 (d.1 8 + nI (sPairs (bs.drop 2)).length), d.2.1, d.2.2.1, (sPairs (bs.drop 2)).foldl sAdd d.2.2.2.1, d.2.2.2.2)
def sMoreD (d : sR) (r : Nat) : sR := (sNext d.1 3 r, d.2.1, d.2.2.1, d.2.2.2.1, [sStep d.1, d.1 8 &&& 255])
def sAskD (d : sR) (r : Nat) : sR := (sAskF d.1 d.2.2.1 r (hN (d.1 6)) (hN (d.1 2)), d.2.1, d.2.2.1, d.2.2.2.1, [sStep d.1] ++ (d.2.2.1.drop (hN (d.1 6))).take (sAskE d.1 d.2.2.1 (hN (d.1 6)) (hN (d.1 2)) - hN (d.1 6)))
def sFailD (d : sR) (why : Int32) : sR := (sFailF d.1 why, d.2.1, d.2.2.1, sFailR d.1 d.2.2.2.1, d.2.2.2.2)
def sWaits (d : sR) (i : Nat) (kind : Int32) (bs : List Int32) : Prop := d.1 14 = 0 ∧ d.1 0 = nI i ∧ bs.getD 0 0 = d.1 11 ∧ (kind = 2 ∨ kind = 4)
/-- rows came to request r -/
def sRowsIn (x : sG) (r : Nat) (bs : List Int32) : sG :=
  if bs.getD 1 0 = 1 then (sSendReq (pq x r (sMoreD (sTook (gq x r) bs) r)) r 0).2
  else if hN ((gq x r).1 6) < (gq x r).2.2.1.length then (sSendReq (pq x r (sAskD (sTook (gq x r) bs) r)) r 0).2
  else sLearn (pq x r (va_up (sTook (gq x r) bs).1 14 1, (sTook (gq x r) bs).2)) r
noncomputable def sHear (x : sG) (i : Nat) (kind num : Int32) (bs : List Int32) : Int32 × sG := by
  classical
  exact if hN num < gn x then
    (if sWaits (gq x (hN num)) i kind bs then (if kind = 4 then (1, pq x (hN num) (sFailD (gq x (hN num)) 3)) else (1, sRowsIn x (hN num) bs)) else (0, x))
  else (0, x)
def sServe (x : sG) (kind num : Int32) (bs : List Int32) : Int32 × sG :=
  if kind = 1 then (1, (sSendTo (pc (pm x (sAskMs (gf x) (gm x) num bs)) 6 (gc x 6 + sAskRep (gm x) num bs)) 4 2 num (sRowsB (sAskRows (gf x) (gm x) num bs) (bs.getD 0 0) 0)).2)
  else if kind = 3 then (1, (sSendTo (pm x (sMoreMs (gm x) num bs)) 4 (sMoreK (gm x) num bs) num (sMoreB (gm x) num bs)).2)
  else (0, x)
def sWrong (x : sG) (i : Nat) : sG := if i = 4 then pl x i ((gl x i).1, (gl x i).2.1, []) else pl x i (0, [], [])
def sDrop (kind : Int32) (q : Int32 × sG) : Int32 × sG := if q.1 = 0 then (kind + 10, pc q.2 4 (gc q.2 4 + 1)) else (kind, q.2)
noncomputable def sCome (x : sG) (i : Nat) (b : Int32) : Int32 × sG := by
  classical
  exact if sFit (gl x i).2.2 b = true then
    (if sDone (gl x i).2.2 then
      sDrop ((gl x i).2.2.getD 1 0) (if i = 4 then sServe (pl x i ((gl x i).1, (gl x i).2.1, [])) ((gl x i).2.2.getD 1 0) ((gl x i).2.2.getD 2 0) ((gl x i).2.2.drop 4) else sHear (pl x i ((gl x i).1, (gl x i).2.1, [])) i ((gl x i).2.2.getD 1 0) ((gl x i).2.2.getD 2 0) ((gl x i).2.2.drop 4))
    else (0, pl x i ((gl x i).1, (gl x i).2.1, (gl x i).2.2 ++ [b])))
  else (-10, sWrong x i)
-- what always holds
def okR (r : Nat) (d : sR) : Prop :=
  (∃ h, h < 4 ∧ d.1 0 = nI h) ∧ (d.1 1 = 0 ∨ d.1 1 = 1) ∧ (∃ b, 1 ≤ b ∧ b ≤ 8 ∧ d.1 2 = nI b) ∧ (∃ a, a ≤ d.2.2.1.length ∧ d.1 6 = nI a) ∧ (∀ k ∈ d.2.2.1, b8 k) ∧ d.2.2.1.length ≤ d.2.1.length ∧ d.2.1.length ≤ 20 ∧ d.2.2.2.1.length ≤ 60 ∧
  (d.1 14 = 0 → d.1 21 = nI r ∧ 0 < d.2.2.1.length ∧ (d.1 20 = 1 ∨ d.1 20 = 3) ∧ (∀ b ∈ d.2.2.2.2, b8 b) ∧ d.2.2.2.2.length ≤ 18) ∧ (d.1 14 = 0 ∨ d.1 14 = 1 ∨ d.1 14 = 2) ∧ ((d.1 15 = 0 ∨ d.1 15 = 1 ∨ d.1 15 = 3) ∧ (d.1 14 = 0 → d.1 15 = 0) ∧ (d.1 14 = 1 → ¬ d.1 15 = 0 → d.2.2.2.1 = [])) ∧ r < 24
def okL (l : sL) : Prop := (l.1 = 0 ∨ l.1 = 1) ∧ (∀ b ∈ l.2.1, b8 b) ∧ l.2.1.length ≤ 300 ∧ okO l.2.2
def okG (x : sG) : Prop :=
  (∃ b, 1 ≤ b ∧ b ≤ 8 ∧ gc x 0 = nI b) ∧ (∃ t, 1 ≤ t ∧ t ≤ 100 ∧ gc x 1 = nI t) ∧ (∀ i, i < 5 → okL (gl x i)) ∧ (gl x 4).1 = 1 ∧ gn x ≤ 24 ∧ (∀ r, r < gn x → okR r (gq x r)) ∧ ((gb x).length ≤ 20 ∧ ∀ y ∈ gb x, b8 y.1) ∧ ((gf x).length ≤ 60 ∧ okPs (gf x)) ∧ ((gm x).length ≤ 8 ∧ (∀ m ∈ gm x, okPs m.2.2.2 ∧ m.2.2.2.length ≤ 60 ∧ b8 m.1) ∧ ((gm x).map (fun m => m.1)).Nodup)
