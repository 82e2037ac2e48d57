/-! ===== the relation between the class's heap and the model's ===== -/
def bd (x : Int32) (lo hi : Int) : Prop := lo ≤ x.toInt ∧ x.toInt ≤ hi
/-- what plant, pipes and pumps were told -/
def RP (r1 c2 c3 c4 c5 c6 c7 c8 c9 c10 c11 c12 : Nat → Int32) (m20 m21 m22 : Int32) (m88 m89 m90 m91 m92 m93 m94 m95 m96 m97 m98 : Nat → Int32) : Prop :=
  (r1 0 = m20 ∧ r1 6 = m21 ∧ r1 11 = m22) ∧ (bd (r1 0) 0 5 ∧ bd (r1 6) 0 12 ∧ bd (r1 11) 0 8) ∧
  (c2 = m88 ∧ c3 = m89 ∧ c4 = m90 ∧ c5 = m91 ∧ c6 = m98 ∧ c7 = m92 ∧ c8 = m93 ∧ c9 = m94 ∧ c10 = m95 ∧ c11 = m96 ∧ c12 = m97) ∧
  (∀ k : Nat, (k : Int) < (r1 0).toInt → bd (c2 k) 1 99) ∧ (∀ k, bd (c3 k) 0 3) ∧ (∀ k, bd (c4 k) 0 9) ∧ (∀ k, bd (c5 k) 0 500) ∧ (∀ k, bd (c6 k) 0 999) ∧
  (∀ k : Nat, (k : Int) < (r1 6).toInt → bd (c7 k) 0 ((r1 0).toInt - 1) ∧ bd (c8 k) 0 ((r1 0).toInt - 1) ∧ c7 k ≠ c8 k ∧ bd (c9 k) 1 9) ∧
  (∀ k : Nat, (k : Int) < (r1 11).toInt → bd (c10 k) 0 ((r1 0).toInt - 1)) ∧ (∀ k, bd (c11 k) 0 9) ∧ (∀ k, bd (c12 k) 0 99999)
/-- a mask of the class and a row of booleans of the model; nothing past the count -/
def RB (nb : Nat) (mask cnt : Int32) (f : Nat → Int32) : Prop := ∃ m : Nat, mask = nI m ∧ m < 2 ^ nb ∧ (∀ k, f k = if m.testBit k then 1 else 0) ∧ ∀ k : Nat, cnt.toInt ≤ k → m.testBit k = false
def sm3 (f : Nat → Int32) (g : Nat) : Nat → Int
  | 0 => 0
  | n + 1 => sm3 f g n + (f (3 * n + g)).toInt
/-- what pumps without a limit took, in the class's own sum (it wraps) -/
def ou3 (lim taken : Nat → Int32) (g : Nat) : Nat → Int32
  | 0 => 0
  | n + 1 => ou3 lim taken g n + (if (lim n).toInt = 0 then taken (3 * n + g) else 0)
/-- where the gas is -/
def RG (n : Nat) (tick m23 : Int32) (c14 c15 c16 c17 m99 m100 m101 m102 m103 lim : Nat → Int32) (pumps : Int32) : Prop :=
  (tick = m23 ∧ bd tick 0 5000) ∧ (c14 = m99 ∧ c15 = m100 ∧ c16 = m101 ∧ c17 = m102) ∧
  (∀ k, 0 ≤ (c14 k).toInt) ∧ (∀ k, 0 ≤ (c15 k).toInt) ∧ (∀ k, 0 ≤ (c16 k).toInt ∧ 0 ≤ (c17 k).toInt) ∧
  (∀ g, g < 3 → sm3 c14 g 5 + sm3 c15 g 5 + sm3 c16 g 8 = (c17 g).toInt ∧ (c17 g).toInt ≤ 99999 * n + 4995 * tick.toInt) ∧
  (∀ k, k < 8 → 0 < (lim k).toInt → (c16 (3 * k)).toInt + (c16 (3 * k + 1)).toInt + (c16 (3 * k + 2)).toInt ≤ (lim k).toInt) ∧
  (∀ k : Nat, pumps.toInt ≤ (k : Int) → c16 (3 * k) = 0 ∧ c16 (3 * k + 1) = 0 ∧ c16 (3 * k + 2) = 0) ∧
  (∀ g, g < 3 → m103 g = ou3 lim c16 g pumps.toInt.toNat)
/-- the text that is fed -/
def RT (len : Int32) (c30 : Nat → Int32) (m37 : Int32) (m115 : Nat → Int32) : Prop := len = m37 ∧ bd len 0 40 ∧ c30 = m115 ∧ ∀ k, bd (c30 k) 0 255
def Rg (c68 c69 m137 m138 : Nat → Int32) : Prop := c68 = m137 ∧ c69 = m138 ∧ (∀ k, bd (c68 k) 0 9) ∧ ∀ k, bd (c69 k) (-1) 9999
def Rc (c73 c74 c75 c76 m139 m140 m141 m142 : Nat → Int32) : Prop := (c73 = m139 ∧ c74 = m140 ∧ c75 = m141 ∧ c76 = m142) ∧ (∀ k, bd (c73 k) 0 299) ∧ (∀ k, k < 4 → bd (c74 k) 1 99) ∧ (∀ k, bd (c75 k) 0 99) ∧ ∀ k, bd (c76 k) 0 9999
def Rs (r77 c78 c79 c80 c81 c82 : Nat → Int32) (m75 m76 : Int32) (m143 m144 m145 m146 m148 : Nat → Int32) : Prop :=
  (r77 1 = m75 ∧ r77 4 = m76 ∧ bd (r77 1) 0 20 ∧ bd (r77 4) 0 20) ∧ (c78 = m143 ∧ c79 = m144 ∧ c80 = m145 ∧ c81 = m146 ∧ c82 = m148) ∧ (∀ k, bd (c78 k) 0 20) ∧ (∀ k, bd (c79 k) 0 7) ∧ (∀ k, bd (c80 k) 0 9999) ∧ (∀ k, bd (c81 k) 0 9999) ∧ ∀ k, c82 k = 0 ∨ c82 k = 1
def Rd (c64 m132 m135 m136 : Nat → Int32) : Prop := (∀ x y, x < 5 → y < 5 → c64 (5 * y + x) = m132 (5 * x + y) ∧ (c64 (5 * y + x) = 0 ∨ c64 (5 * y + x) = 1)) ∧ m135 = z0.1 135 ∧ m136 = z0.1 136
def Ro (r54 c60 c61 c62 : Nat → Int32) (m80 : Int32) (m149 m150 m151 : Nat → Int32) (rooms : Int32) : Prop :=
  r54 6 = m80 ∧ bd (r54 6) 0 6 ∧ (c60 = m149 ∧ c61 = m150 ∧ c62 = m151) ∧ ∀ k : Nat, (k : Int) < (r54 6).toInt → bd (c60 k) 0 (rooms.toInt - 1) ∧ bd (c61 k) 1 9 ∧ bd (c62 k) 1 999
def bN (m k : Nat) : Int32 := if m.testBit k then 1 else 0
/-- one act: from the switches (so, sn, sw) to (so', sn', sw') -/
def AO (so sn sw so' sn' sw' : Nat) (kind num onb mk mo mw mi pipes pumps : Int32) : Prop :=
  ∃ q : Nat, num = nI q ∧ mo = nI q ∧
    ((kind = 0 ∧ mk = 0 ∧ (q : Int) < pipes.toInt ∧ so' = so ^^^ 2 ^ q ∧ sn' = sn ∧ sw' = sw ∧ mw = bN so q ∧ mi = bN so' q) ∨
     (kind = 1 ∧ mk = 1 ∧ (q : Int) < pumps.toInt ∧ so' = so ∧ sn' = sn ^^^ 2 ^ q ∧ sw' = sw ∧ sw.testBit q = false ∧ onb = nI sn ∧ mw = bN sn q ∧ mi = bN sn' q) ∨
     (kind = 2 ∧ mk = 2 ∧ (q : Int) < pumps.toInt ∧ so' = so ∧ sn' = sn &&& (2 ^ 8 - 1 - 2 ^ q) ∧ sw' = sw ||| 2 ^ q ∧ sw.testBit q = false ∧ onb = nI sn ∧ mw = bN sn q ∧ mi = 2))
/-- switches as they may be -/
def SO (so sn sw : Nat) (pipes pumps : Int32) (lim : Nat → Int32) : Prop := so < 2 ^ 12 ∧ sn < 2 ^ 8 ∧ sw < 2 ^ 8 ∧ (∀ k : Nat, pipes.toInt ≤ k → so.testBit k = false) ∧ (∀ k : Nat, pumps.toInt ≤ k → sn.testBit k = false ∧ sw.testBit k = false) ∧ ∀ k, sw.testBit k = true → sn.testBit k = false ∧ 0 < (lim k).toInt
/-- switches, and the acts that may be undone and done again -/
def RA (r25 k26 k27 k28 : Nat → Int32) (m50 m51 : Int32) (m122 m123 m124 m125 : Nat → Int32) (opn on warmed : Int32) (m104 m105 m106 : Nat → Int32) (pipes pumps : Int32) (lim : Nat → Int32) : Prop :=
  ∃ d u : Nat, (r25 3 = nI d ∧ m50 = nI d ∧ r25 4 = nI u ∧ m51 = nI u ∧ d + u ≤ 30) ∧ ∃ so sn sw : Nat → Nat,
    (opn = nI (so d) ∧ on = nI (sn d) ∧ warmed = nI (sw d)) ∧ (∀ k, m104 k = bN (so d) k ∧ m105 k = bN (sn d) k ∧ m106 k = bN (sw d) k) ∧
    (∀ j, j ≤ d + u → SO (so j) (sn j) (sw j) pipes pumps lim) ∧
    ∀ j, j < d + u → AO (so j) (sn j) (sw j) (so (j + 1)) (sn (j + 1)) (sw (j + 1)) (k26 j) (k27 j) (k28 j) (m122 j) (m123 j) (m124 j) (m125 j) pipes pumps
/-! ===== the language of rules: the reading of a text, to the steps of its test ===== -/
/-- the sign at a place; -1 behind the end -/
def tx (t : Nat → Int32) (L p : Nat) : Int32 := if p < L then t p else -1
def dg (c : Int32) : Prop := 48 ≤ c.toInt ∧ c.toInt ≤ 57
def sThen (x : Nat × Option (List Int32)) (f : Nat → List Int32 → Nat × Option (List Int32)) : Nat × Option (List Int32) :=
  match x with
  | (q, none) => (q, none)
  | (q, some s) => f q s
def sNum (t : Nat → Int32) (L : Nat) : Nat → Nat → Int32 → Nat × Int32
  | 0, p, v => (p, v)
  | k + 1, p, v => if 48 ≤ (tx t L p).toInt ∧ (tx t L p).toInt ≤ 57 then sNum t L k (p + 1) (v * 10 + (tx t L p - 48)) else (p, v)
def sFact (c : Int32) : Int32 := if c = 114 then 0 else if c = 119 then 1 else if c = 118 then 2 else if c = 112 then 3 else if c = 116 then 4 else -1
def sRel (c : Int32) : Int32 := if c = 60 then 0 else if c = 61 then 1 else if c = 62 then 2 else -1
/-- behind the fact: relation and number -/
def sCmp2 (t : Nat → Int32) (L : Nat) (f w : Int32) (p : Nat) : Nat × Option (List Int32) :=
  if sRel (tx t L p) = -1 then (p, none) else
  if 48 ≤ (tx t L (p + 1)).toInt ∧ (tx t L (p + 1)).toInt ≤ 57 then
    ((sNum t L 4 (p + 2) (tx t L (p + 1) - 48)).1, some [((((3 : Int32) ||| (f <<< ((2 : Int32) &&& 31))) ||| (w <<< ((5 : Int32) &&& 31))) ||| (sRel (tx t L p) <<< ((9 : Int32) &&& 31))) ||| ((sNum t L 4 (p + 2) (tx t L (p + 1) - 48)).2 <<< ((11 : Int32) &&& 31))])
  else (p + 1, none)
def sCmp (t : Nat → Int32) (L p : Nat) : Nat × Option (List Int32) :=
  if sFact (tx t L p) = -1 then (p, none) else
  if sFact (tx t L p) = 4 then sCmp2 t L 4 0 (p + 1) else
  if 48 ≤ (tx t L (p + 1)).toInt ∧ (tx t L (p + 1)).toInt ≤ 57 then sCmp2 t L (sFact (tx t L p)) (tx t L (p + 1) - 48) (p + 2)
  else (p + 1, none)
def sLoop (t : Nat → Int32) (L : Nat) (op code : Int32) (g : Nat → Nat × Option (List Int32)) : Nat → Nat → List Int32 → Nat × Option (List Int32)
  | 0, p, acc => (p, some acc)
  | k + 1, p, acc => if tx t L p = op then sThen (g (p + 1)) (fun q s => sLoop t L op code g k q (acc ++ s ++ [code])) else (p, some acc)
def sSeq (t : Nat → Int32) (L : Nat) (op code : Int32) (g : Nat → Nat × Option (List Int32)) (p : Nat) : Nat × Option (List Int32) := sThen (g p) (fun q s => sLoop t L op code g 40 q s)
/-- a test (0), a term (1), a part (2) at a depth, from a place: where the reading ends, and the steps -/
def sT (t : Nat → Int32) (L : Nat) : Nat → Nat → Nat → Nat → Nat × Option (List Int32)
  | 0, _, _, p => (p, none)
  | n + 1, 0, d, p => sSeq t L 124 2 (sT t L n 1 d) p
  | n + 1, 1, d, p => sSeq t L 38 1 (sT t L n 2 d) p
  | n + 1, _ + 2, d, p =>
    if tx t L p = 33 then (if d < 4 then sThen (sT t L n 2 (d + 1) (p + 1)) (fun q s => (q, some (s ++ [0]))) else (p, none))
    else if tx t L p = 40 then (if d < 4 then sThen (sT t L n 0 (d + 1) (p + 1)) (fun q s => if tx t L q = 41 then (q + 1, some s) else (q, none)) else (p, none))
    else sCmp t L p
/-- a rule's text and the steps that the class keeps of it -/
def RV (t : Nat → Int32) (size used : Int32) (st : Nat → Int32) : Prop := ∃ L : Nat, size = nI L ∧ L ≤ 40 ∧ (∀ k, k < L → bd (t k) 0 255) ∧ ∃ S : List Int32, sT t L 24 0 0 3 = (L, some S) ∧ used = nI S.length ∧ S.length ≤ 40 ∧ ∀ k, k < S.length → S[k]? = some (st k)
def r16 (f0 f1 f2 f3 f4 f5 f6 f7 f8 f9 f10 f11 f12 f13 f14 f15 : Nat → Int32) : Nat → Nat → Int32
  | 0 => f0 | 1 => f1 | 2 => f2 | 3 => f3 | 4 => f4 | 5 => f5 | 6 => f6 | 7 => f7 | 8 => f8 | 9 => f9 | 10 => f10 | 11 => f11 | 12 => f12 | 13 => f13 | 14 => f14 | _ => f15
