def f_X11_refuse (a1 : Int32) (σ : Hp) : Option (Int32 × Hp) :=
  if 0 ≤ a1 then some (a1, σ) else if a1 ≤ (-(8 : Int32)) then some (a1, σ) else ldI σ 85 8 (-a1) fun v1 => stI σ 85 8 (-a1) (v1 + (1 : Int32)) fun σ2 => some (a1, σ2)
def f_X11_refusal_j47 (t1 : Int32 × Hp) : Option (Int32 × Hp) :=
  some (t1.1, t1.2)
def f_X11_refusal (a1 : Int32) (a2 : Int32) (a3 : Int32) (a4 : Int32) (σ : Hp) : Option (Int32 × Hp) :=
  if a1 = 0 then if a2 = 0 then if a3 = 0 then jn (f_X11_refusal_j47) fun k47 => if a4 = 0 then k47 ((0 : Int32), σ) else cl (f_X11_refuse (-6 : Int32) σ) fun v2 σ3 => k47 (v2, σ3) else cl (f_X11_refuse (-4 : Int32) σ) fun v4 σ5 => some (v4, σ5) else cl (f_X11_refuse (-2 : Int32) σ) fun v6 σ7 => some (v6, σ7) else cl (f_X11_refuse (-1 : Int32) σ) fun v8 σ9 => some (v8, σ9)
def f_X11_within_j14 (t1 : Int32) : Option (Int32) :=
  ckZ t1 (some t1)
def f_X11_within_j13 (k14 : Int32 → Option (Int32)) (t2 : Unit) : Option (Int32) :=
  k14 (0 : Int32)
def f_X11_within (a1 : Int32) (a2 : Int32) : Option (Int32) :=
  jn (f_X11_within_j14) fun k14 => jn (f_X11_within_j13 k14) fun k13 => if a1 < 0 then k13 () else if a2 ≤ a1 then k13 () else k14 (1 : Int32)
def f_X4_amount_j27 (t1 : Int32) : Option (Int32) :=
  some t1
def f_X4_amount (g : Nat) (a1 : Int32) (a2 : Int32) (a3 : Int32) (σ : Hp) : Option (Int32) :=
  jn (f_X4_amount_j27) fun k27 => if a3 = 0 then ldI σ (g + 1) 15 ((a1 * (3 : Int32)) + a2) fun v2 => k27 v2 else ldI σ (g + 2) 15 ((a1 * (3 : Int32)) + a2) fun v3 => k27 v3
def f_X4_total_j52 (g : Nat) (a1 : Int32) (σ : Hp) (t3 : Int32 × Int32) (kl27 : (Int32 × Int32) → Option (Int32)) (t4 : Int32) : Option (Int32) :=
  cr (f_X4_amount g t3.2 a1 t4 σ) fun v5 => lt (t3.1 + v5) fun x6 => lt (t3.2 + (1 : Int32)) fun x7 => kl27 (x6, x7)
def f_X4_total_l27 (g : Nat) (a1 : Int32) (a2 : Int32) (σ : Hp) (kl27 : (Int32 × Int32) → Option (Int32)) (t3 : Int32 × Int32) : Option (Int32) :=
  if (σ.1 1 0) ≤ t3.2 then some t3.1 else jn (f_X4_total_j52 g a1 σ t3 kl27) fun k52 => if a2 = (3 : Int32) then k52 (1 : Int32) else k52 (0 : Int32)
def f_X4_total_j24 (g : Nat) (a1 : Int32) (a2 : Int32) (σ : Hp) (t2 : Unit) : Option (Int32) :=
  lp (f_X4_total_l27 g a1 a2 σ) FU ((0 : Int32), (0 : Int32))
def f_X4_total_j128 (t8 : Int32 × Int32) (kl70 : (Int32 × Int32) → Option (Int32)) (t12 : Int32) : Option (Int32) :=
  lt (t8.1 + t12) fun x13 => lt (t8.2 + (1 : Int32)) fun x14 => kl70 (x13, x14)
def f_X4_total_j110 (g : Nat) (a1 : Int32) (σ : Hp) (t8 : Int32 × Int32) (kl70 : (Int32 × Int32) → Option (Int32)) (t10 : Int32) (t11 : Int32) : Option (Int32) :=
  jn (f_X4_total_j128 t8 kl70) fun k128 => if t10 = t11 then ldI σ (g + 3) 24 ((t8.2 * (3 : Int32)) + a1) fun v15 => k128 v15 else k128 (0 : Int32)
def f_X4_total_j94 (g : Nat) (a1 : Int32) (a2 : Int32) (σ : Hp) (t8 : Int32 × Int32) (kl70 : (Int32 × Int32) → Option (Int32)) (t10 : Int32) : Option (Int32) :=
  jn (f_X4_total_j110 g a1 σ t8 kl70 t10) fun k110 => if a2 = (4 : Int32) then k110 (1 : Int32) else k110 (0 : Int32)
def f_X4_total_l70 (g : Nat) (a1 : Int32) (a2 : Int32) (σ : Hp) (kl70 : (Int32 × Int32) → Option (Int32)) (t8 : Int32 × Int32) : Option (Int32) :=
  if (σ.1 1 11) ≤ t8.2 then some t8.1 else ldI σ 12 8 t8.2 fun v9 => jn (f_X4_total_j94 g a1 a2 σ t8 kl70) fun k94 => if v9 ≤ 0 then k94 (0 : Int32) else k94 (1 : Int32)
def f_X4_total (g : Nat) (a1 : Int32) (a2 : Int32) (σ : Hp) : Option (Int32) :=
  if a2 = 0 then ldI σ (g + 4) 3 a1 fun v1 => some v1 else jn (f_X4_total_j24 g a1 a2 σ) fun k24 => if a2 = (2 : Int32) then k24 () else if a2 = (3 : Int32) then k24 () else lp (f_X4_total_l70 g a1 a2 σ) FU ((0 : Int32), (0 : Int32))
def f_X11_all_j54 (σ6 : Hp) (t7 : Int32) : Option (Int32 × Hp) :=
  some (t7, σ6)
def f_X11_all_j27 (a1 : Int32) (a2 : Int32) (σ : Hp) (t2 : Int32) (t4 : Int32) : Option (Int32 × Hp) :=
  cl (f_X11_refusal t2 t4 (0 : Int32) (0 : Int32) σ) fun v5 σ6 => jn (f_X11_all_j54 σ6) fun k54 => if v5 = 0 then cr (f_X4_total 13 a1 a2 σ6) fun v8 => k54 v8 else k54 v5
def f_X11_all_j14 (a1 : Int32) (a2 : Int32) (σ : Hp) (t2 : Int32) : Option (Int32 × Hp) :=
  cr (f_X11_within a2 (5 : Int32)) fun v3 => jn (f_X11_all_j27 a1 a2 σ t2) fun k27 => if v3 = 0 then k27 (1 : Int32) else k27 (0 : Int32)
def f_X11_all (a1 : Int32) (a2 : Int32) (σ : Hp) : Option (Int32 × Hp) :=
  cr (f_X11_within a1 (3 : Int32)) fun v1 => jn (f_X11_all_j14 a1 a2 σ) fun k14 => if v1 = 0 then k14 (1 : Int32) else k14 (0 : Int32)
def f_X11_anew (σ : Hp) : Option (Int32 × Hp) :=
  lt ((σ.1 77 1) + (σ.1 77 4)) fun x1 => lt (sI σ 77 1 (0 : Int32)) fun σ2 => lt (sI σ2 77 4 (0 : Int32)) fun σ3 => some (x1, σ3)
def f_X11_choices_l16 (a1 : Int32) (a2 : Int32) (kl16 : (Int64 × Int32) → Option (Int64)) (t1 : Int64 × Int32) : Option (Int64) :=
  if a2 < t1.2 then some t1.1 else dvJ t1.2.toInt64 <| lt ((t1.1 * ((a1 - a2) + t1.2).toInt64) / t1.2.toInt64) fun x2 => lt (t1.2 + (1 : Int32)) fun x3 => kl16 (x2, x3)
def f_X11_choices (a1 : Int32) (a2 : Int32) : Option (Int64) :=
  if a2 < 0 then some (0 : Int64) else if a2 ≤ a1 then lp (f_X11_choices_l16 a1 a2) FU ((1 : Int64), (1 : Int32)) else some (0 : Int64)
def f_J6_bitCount_0f7a4 (a1 : Int32) : Option (Int32) :=
  lt (a1 - (((a1.toUInt32 >>> ((1 : Int32).toUInt32 &&& Int32.toUInt32 31)).toInt32) &&& (1431655765 : Int32))) fun x1 => lt ((x1 &&& (858993459 : Int32)) + (((x1.toUInt32 >>> ((2 : Int32).toUInt32 &&& Int32.toUInt32 31)).toInt32) &&& (858993459 : Int32))) fun x2 => lt ((x2 + ((x2.toUInt32 >>> ((4 : Int32).toUInt32 &&& Int32.toUInt32 31)).toInt32)) &&& (252645135 : Int32)) fun x3 => lt (x3 + ((x3.toUInt32 >>> ((8 : Int32).toUInt32 &&& Int32.toUInt32 31)).toInt32)) fun x4 => lt (x4 + ((x4.toUInt32 >>> ((16 : Int32).toUInt32 &&& Int32.toUInt32 31)).toInt32)) fun x5 => some (x5 &&& (63 : Int32))
def f_X11_count_j22 (a1 : Int32) (σ : Hp) (t1 : Unit) : Option (Int32) :=
  if a1 = (0 : Int32) then some (σ.1 13 0) else if a1 = (1 : Int32) then some (σ.1 1 0) else if a1 = (2 : Int32) then some (σ.1 1 6) else if a1 = (3 : Int32) then cr (f_J6_bitCount_0f7a4 (σ.1 1 10)) fun v2 => some v2 else if a1 = (4 : Int32) then some (σ.1 1 11) else if a1 = (5 : Int32) then cr (f_J6_bitCount_0f7a4 (σ.1 1 15)) fun v3 => some v3 else if a1 = (6 : Int32) then cr (f_J6_bitCount_0f7a4 (σ.1 32 3)) fun v4 => some v4 else if a1 = (7 : Int32) then some (σ.1 25 3) else if a1 = (8 : Int32) then some (σ.1 29 1) else some (-9 : Int32)
def f_X11_count (a1 : Int32) (σ : Hp) : Option (Int32) :=
  jn (f_X11_count_j22 a1 σ) fun k22 => if a1 < (11 : Int32) then k22 () else if (17 : Int32) < a1 then k22 () else ldI σ 85 8 (a1 - (10 : Int32)) fun v5 => some v5
def f_X6_take_l3 (a1 : Int32) (a2 : Int64) (kl3 : (Int32 × Hp) → Option (Int32 × Hp)) (t1 : Int32 × Hp) : Option (Int32 × Hp) :=
  if a1 ≤ t1.1 then some ((t1.2.1 29 1), t1.2) else if (40 : Int32) ≤ (t1.2.1 29 1) then some ((t1.2.1 29 1), t1.2) else stI t1.2 30 40 (t1.2.1 29 1) (((a2.toUInt64 >>> (((8 : Int32) * t1.1).toInt64.toUInt64 &&& Int64.toUInt64 63)).toInt64) &&& (255 : Int64)).toInt32 fun σ2 => lt (sI σ2 29 1 ((σ2.1 29 1) + (1 : Int32))) fun σ3 => lt (t1.1 + (1 : Int32)) fun x4 => kl3 (x4, σ3)
def f_X6_take (a1 : Int32) (a2 : Int64) (σ : Hp) : Option (Int32 × Hp) :=
  lp (f_X6_take_l3 a1 a2) FU ((0 : Int32), σ)
def f_X11_feed_j62 (t5 : Int32 × Hp) : Option (Int32 × Hp) :=
  some (t5.1, t5.2)
def f_X11_feed_j38 (a1 : Int32) (a2 : Int64) (σ : Hp) (t1 : Int32) (t2 : Int32) : Option (Int32 × Hp) :=
  cl (f_X11_refusal (0 : Int32) (0 : Int32) t1 t2 σ) fun v3 σ4 => jn (f_X11_feed_j62) fun k62 => if v3 = 0 then cl (f_X6_take a1 a2 σ4) fun v6 σ7 => k62 (v6, σ7) else k62 (v3, σ4)
def f_X11_feed_j33 (k38 : Int32 → Option (Int32 × Hp)) (t8 : Unit) : Option (Int32 × Hp) :=
  k38 (1 : Int32)
def f_X11_feed_j13 (a1 : Int32) (a2 : Int64) (σ : Hp) (t1 : Int32) : Option (Int32 × Hp) :=
  jn (f_X11_feed_j38 a1 a2 σ t1) fun k38 => jn (f_X11_feed_j33 k38) fun k33 => if (8 : Int32) < a1 then k33 () else if a1 ≤ ((40 : Int32) - (σ.1 29 1)) then k38 (0 : Int32) else k33 ()
def f_X11_feed (a1 : Int32) (a2 : Int64) (σ : Hp) : Option (Int32 × Hp) :=
  jn (f_X11_feed_j13 a1 a2 σ) fun k13 => if (1 : Int32) ≤ a1 then k13 (0 : Int32) else k13 (1 : Int32)
def f_X5_divisor_j20 (t2 : Int64) : Option (Int64) :=
  some t2
def f_X5_divisor (a1 : Int32) (σ : Hp) : Option (Int64) :=
  ldI σ 2 5 a1 fun v1 => jn (f_X5_divisor_j20) fun k20 => if v1 ≤ 0 then k20 (1 : Int64) else ldI σ 2 5 a1 fun v3 => k20 v3.toInt64
def f_X4_push_j32 (a1 : Int32) (σ : Hp) (t1 : Int64) : Option (Int32) :=
  cr (f_X5_divisor a1 σ) fun v2 => dvJ v2 <| some (if ((t1 * (100 : Int64)) / v2) < (2000000000 : Int64) then ((t1 * (100 : Int64)) / v2) else (2000000000 : Int64)).toInt32
def f_X4_push_l5 (g : Nat) (a1 : Int32) (σ : Hp) (k32 : Int64 → Option (Int32)) (kl5 : (Int64 × Int32) → Option (Int32)) (t3 : Int64 × Int32) : Option (Int32) :=
  if (3 : Int32) ≤ t3.2 then k32 t3.1 else ldI σ (g + 1) 15 ((a1 * (3 : Int32)) + t3.2) fun v4 => lt (t3.1 + v4.toInt64) fun x5 => lt (t3.2 + (1 : Int32)) fun x6 => kl5 (x5, x6)
def f_X4_push (g : Nat) (a1 : Int32) (σ : Hp) : Option (Int32) :=
  jn (f_X4_push_j32 a1 σ) fun k32 => lp (f_X4_push_l5 g a1 σ k32) FU ((0 : Int64), (0 : Int32))
def f_X8_compares_j196 (t4 : Int32) : Option (Int32) :=
  ckZ t4 (some t4)
def f_X8_compares_j209 (t5 : Int32) : Option (Int32) :=
  ckZ t5 (some t5)
def f_X8_compares_j222 (t6 : Int32) : Option (Int32) :=
  ckZ t6 (some t6)
def f_X8_compares_j144 (a1 : Int32) (t2 : Int32) : Option (Int32) :=
  lt (a1 >>> ((11 : Int32) &&& 31)) fun x3 => if ((a1 >>> ((9 : Int32) &&& 31)) &&& (3 : Int32)) = (0 : Int32) then jn (f_X8_compares_j196) fun k196 => if x3 ≤ t2 then k196 (0 : Int32) else k196 (1 : Int32) else if ((a1 >>> ((9 : Int32) &&& 31)) &&& (3 : Int32)) = (1 : Int32) then jn (f_X8_compares_j209) fun k209 => if t2 = x3 then k209 (1 : Int32) else k209 (0 : Int32) else jn (f_X8_compares_j222) fun k222 => if t2 ≤ x3 then k222 (0 : Int32) else k222 (1 : Int32)
def f_X8_compares_j75 (k144 : Int32 → Option (Int32)) (t7 : Int32) : Option (Int32) :=
  k144 t7
def f_X8_compares_j104 (k144 : Int32 → Option (Int32)) (t9 : Int32) : Option (Int32) :=
  k144 t9
def f_X8_compares (a1 : Int32) (a2 : Int32) (σ : Hp) : Option (Int32) :=
  lt ((a1 >>> ((5 : Int32) &&& 31)) &&& (15 : Int32)) fun x1 => jn (f_X8_compares_j144 a1) fun k144 => if ((a1 >>> ((2 : Int32) &&& 31)) &&& (7 : Int32)) = (0 : Int32) then jn (f_X8_compares_j75 k144) fun k75 => if (σ.1 1 0) ≤ x1 then k75 (0 : Int32) else cr (f_X4_push 13 x1 σ) fun v8 => k75 v8 else if ((a1 >>> ((2 : Int32) &&& 31)) &&& (7 : Int32)) = (1 : Int32) then jn (f_X8_compares_j104 k144) fun k104 => if (σ.1 1 0) ≤ x1 then k104 (0 : Int32) else ldI σ 4 5 x1 fun v10 => k104 v10 else if ((a1 >>> ((2 : Int32) &&& 31)) &&& (7 : Int32)) = (2 : Int32) then lt (((σ.1 1 10) >>> (x1 &&& 31)) &&& (1 : Int32)) fun x11 => k144 x11 else if ((a1 >>> ((2 : Int32) &&& 31)) &&& (7 : Int32)) = (3 : Int32) then lt ((a2 >>> (x1 &&& 31)) &&& (1 : Int32)) fun x12 => k144 x12 else lt (σ.1 13 0) fun x13 => k144 x13
def f_X8_holds_j135 (t2 : Int32) : Option (Int32) :=
  ckZ t2 (some t2)
def f_X8_holds_j122 (t1 : Int64) : Option (Int32) :=
  jn (f_X8_holds_j135) fun k135 => if (lg_cmp (t1 &&& (1 : Int64)) (1 : Int64)) = 0 then k135 (1 : Int32) else k135 (0 : Int32)
def f_X8_holds_j116 (t3 : Int64 × Int32) (kl5 : (Int64 × Int32) → Option (Int32)) (t7 : Int64) : Option (Int32) :=
  lt (t3.2 + (1 : Int32)) fun x8 => kl5 (t7, x8)
def f_X8_holds_j113 (t3 : Int64 × Int32) (k116 : Int64 → Option (Int32)) (t13 : Int32) : Option (Int32) :=
  lt ((t3.1 <<< ((1 : Int32).toInt64 &&& 63)) ||| t13.toInt64) fun x14 => k116 x14
def f_X8_holds_l5 (a1 : Int32) (a2 : Int32) (σ : Hp) (k122 : Int64 → Option (Int32)) (kl5 : (Int64 × Int32) → Option (Int32)) (t3 : Int64 × Int32) : Option (Int32) :=
  ldI σ 34 16 a1 fun v4 => if v4 ≤ t3.2 then k122 t3.1 else if (40 : Int32) ≤ t3.2 then k122 t3.1 else ldA 35 16 a1 fun r5 => ldI σ r5 40 t3.2 fun v6 => jn (f_X8_holds_j116 t3 kl5) fun k116 => if (v6 &&& (3 : Int32)) = (0 : Int32) then lt (t3.1 ^^^ (1 : Int64)) fun x9 => k116 x9 else if (v6 &&& (3 : Int32)) = (1 : Int32) then lt ((t3.1 >>> ((1 : Int32).toInt64 &&& 63)) &&& (t3.1 ||| (-2 : Int64))) fun x10 => k116 x10 else if (v6 &&& (3 : Int32)) = (2 : Int32) then lt ((t3.1 >>> ((1 : Int32).toInt64 &&& 63)) ||| (t3.1 &&& (1 : Int64))) fun x11 => k116 x11 else cr (f_X8_compares v6 a2 σ) fun v12 => jn (f_X8_holds_j113 t3 k116) fun k113 => if v12 = 0 then k113 (0 : Int32) else k113 (1 : Int32)
def f_X8_holds (a1 : Int32) (a2 : Int32) (σ : Hp) : Option (Int32) :=
  jn (f_X8_holds_j122) fun k122 => lp (f_X8_holds_l5 a1 a2 σ k122) FU ((0 : Int64), (0 : Int32))
def f_X8_forbidder_j71 (t3 : Int32) (kl27 : Int32 → Option (Int32)) (t4 : Unit) : Option (Int32) :=
  lt (t3 + (1 : Int32)) fun x5 => kl27 x5
def f_X8_forbidder_l27 (a1 : Int32) (a3 : Int32) (σ : Hp) (x2 : Int32) (kl27 : Int32 → Option (Int32)) (t3 : Int32) : Option (Int32) :=
  if (σ.1 32 2) ≤ t3 then some (-9 : Int32) else jn (f_X8_forbidder_j71 t3 kl27) fun k71 => if ((x2 >>> (t3 &&& 31)) &&& (1 : Int32)) = (1 : Int32) then ldI σ 33 16 t3 fun v6 => if v6 = a1 then cr (f_X8_holds t3 a3 σ) fun v7 => if v7 = 0 then k71 () else some t3 else k71 () else k71 ()
def f_X8_forbidder_j21 (a1 : Int32) (a3 : Int32) (σ : Hp) (t1 : Int32) : Option (Int32) :=
  lt ((σ.1 32 3) &&& t1) fun x2 => lp (f_X8_forbidder_l27 a1 a3 σ x2) FU (0 : Int32)
def f_X8_forbidder (a1 : Int32) (a2 : Int32) (a3 : Int32) (σ : Hp) : Option (Int32) :=
  jn (f_X8_forbidder_j21 a1 a3 σ) fun k21 => if a2 = 0 then k21 ((σ.1 32 4) ^^^ (-1 : Int32)) else k21 (σ.1 32 4)
def f_X11_forbids_j22 (a1 : Int32) (a2 : Int32) (σ : Hp) (t1 : Int32) : Option (Int32 × Hp) :=
  cr (f_X11_within a1 t1) fun v2 => if v2 = 0 then cl (f_X11_refuse (-1 : Int32) σ) fun v3 σ4 => some (v3, σ4) else cr (f_X8_forbidder a1 a2 (σ.1 1 15) σ) fun v5 => some (v5, σ)
def f_X11_forbids (a1 : Int32) (a2 : Int32) (σ : Hp) : Option (Int32 × Hp) :=
  jn (f_X11_forbids_j22 a1 a2 σ) fun k22 => if a2 = 0 then k22 (σ.1 1 6) else k22 (σ.1 1 11)
def f_X0_forget (σ : Hp) : Option (Hp) :=
  lt (sI σ 25 3 (0 : Int32)) fun σ1 => lt (sI σ1 25 4 (0 : Int32)) fun σ2 => some σ2
def f_X4_tell_j36 (g : Nat) (a2 : Int32) (a3 : Int32) (t1 : Hp) : Option (Hp) :=
  ldI t1 (g + 4) 3 a2 fun v2 => stI t1 (g + 4) 3 a2 (v2 + a3) fun σ3 => some σ3
def f_X4_tell (g : Nat) (a1 : Int32) (a2 : Int32) (a3 : Int32) (a4 : Int32) (σ : Hp) : Option (Hp) :=
  jn (f_X4_tell_j36 g a2 a3) fun k36 => if a4 = 0 then ldI σ (g + 1) 15 ((a1 * (3 : Int32)) + a2) fun v4 => stI σ (g + 1) 15 ((a1 * (3 : Int32)) + a2) (v4 + a3) fun σ5 => k36 σ5 else ldI σ (g + 2) 15 ((a1 * (3 : Int32)) + a2) fun v6 => stI σ (g + 2) 15 ((a1 * (3 : Int32)) + a2) (v6 + a3) fun σ7 => k36 σ7
def f_X11_gas_j89 (a1 : Int32) (a2 : Int32) (a3 : Int32) (a4 : Int32) (σ : Hp) (t2 : Int32) (t3 : Int32) (t4 : Int32) (t5 : Int32) : Option (Int32 × Hp) :=
  cl (f_X11_refusal t2 (0 : Int32) t4 t5 σ) fun v6 σ7 => if v6 = 0 then cr (f_X0_forget σ7) fun σ8 => cr (f_X4_tell 13 a1 a2 a3 a4 σ8) fun σ9 => some ((t3 + a3), σ9) else some (v6, σ7)
def f_X11_gas_j84 (k89 : Int32 → Option (Int32 × Hp)) (t10 : Unit) : Option (Int32 × Hp) :=
  k89 (1 : Int32)
def f_X11_gas_j65 (a1 : Int32) (a2 : Int32) (a3 : Int32) (a4 : Int32) (σ : Hp) (t2 : Int32) (t3 : Int32) (t4 : Int32) : Option (Int32 × Hp) :=
  jn (f_X11_gas_j89 a1 a2 a3 a4 σ t2 t3 t4) fun k89 => jn (f_X11_gas_j84 k89) fun k84 => if (99999 : Int32) < a3 then k84 () else if (lg_cmp (t3.toInt64 + a3.toInt64) (999999 : Int64)) ≤ 0 then k89 (0 : Int32) else k84 ()
def f_X11_gas_j49 (a1 : Int32) (a2 : Int32) (a3 : Int32) (a4 : Int32) (σ : Hp) (t2 : Int32) (t3 : Int32) : Option (Int32 × Hp) :=
  jn (f_X11_gas_j65 a1 a2 a3 a4 σ t2 t3) fun k65 => if (1 : Int32) ≤ a3 then k65 (0 : Int32) else k65 (1 : Int32)
def f_X11_gas_j27 (a1 : Int32) (a2 : Int32) (a3 : Int32) (a4 : Int32) (σ : Hp) (t2 : Int32) : Option (Int32 × Hp) :=
  jn (f_X11_gas_j49 a1 a2 a3 a4 σ t2) fun k49 => if t2 = 0 then cr (f_X4_amount 13 a1 a2 a4 σ) fun v11 => k49 v11 else k49 (0 : Int32)
def f_X11_gas_j22 (k27 : Int32 → Option (Int32 × Hp)) (t12 : Unit) : Option (Int32 × Hp) :=
  k27 (1 : Int32)
def f_X11_gas (a1 : Int32) (a2 : Int32) (a3 : Int32) (a4 : Int32) (σ : Hp) : Option (Int32 × Hp) :=
  cr (f_X11_within a1 (σ.1 1 0)) fun v1 => jn (f_X11_gas_j27 a1 a2 a3 a4 σ) fun k27 => jn (f_X11_gas_j22 k27) fun k22 => if v1 = 0 then k22 () else cr (f_X11_within a2 (3 : Int32)) fun v13 => if v13 = 0 then k22 () else k27 (0 : Int32)
def f_X11_gives_j45 (a1 : Int32) (a2 : Int32) (a3 : Int32) (σ : Hp) (t2 : Int32) (t3 : Int32) (t4 : Int32) : Option (Int32 × Hp) :=
  cl (f_X11_refusal t2 (0 : Int32) t3 t4 σ) fun v5 σ6 => if v5 = 0 then cr (f_X0_forget σ6) fun σ7 => lt ((a1 * (10 : Int32)) + a2) fun x8 => ldI σ7 5 40 x8 fun v9 => stI σ7 5 40 x8 a3 fun σ10 => some (v9, σ10) else some (v5, σ6)
def f_X11_gives_j33 (a1 : Int32) (a2 : Int32) (a3 : Int32) (σ : Hp) (t2 : Int32) (t3 : Int32) : Option (Int32 × Hp) :=
  jn (f_X11_gives_j45 a1 a2 a3 σ t2 t3) fun k45 => if a3 ≤ (500 : Int32) then k45 (0 : Int32) else k45 (1 : Int32)
def f_X11_gives_j23 (a1 : Int32) (a2 : Int32) (a3 : Int32) (σ : Hp) (t2 : Int32) : Option (Int32 × Hp) :=
  jn (f_X11_gives_j33 a1 a2 a3 σ t2) fun k33 => if 0 ≤ a3 then k33 (0 : Int32) else k33 (1 : Int32)
def f_X11_gives_j18 (k23 : Int32 → Option (Int32 × Hp)) (t11 : Unit) : Option (Int32 × Hp) :=
  k23 (1 : Int32)
def f_X11_gives (a1 : Int32) (a2 : Int32) (a3 : Int32) (σ : Hp) : Option (Int32 × Hp) :=
  cr (f_X11_within a1 (4 : Int32)) fun v1 => jn (f_X11_gives_j23 a1 a2 a3 σ) fun k23 => jn (f_X11_gives_j18 k23) fun k18 => if v1 = 0 then k18 () else cr (f_X11_within a2 (10 : Int32)) fun v12 => if v12 = 0 then k18 () else k23 (0 : Int32)
def f_J7_fill_53178_l5 (kc : Nat) (nc : Nat) (a1 : Int32) (x1 : Int32) (kl5 : (Int32 × Hp) → Option (Hp)) (t2 : Int32 × Hp) : Option (Hp) :=
  if x1 ≤ t2.1 then some t2.2 else stI t2.2 kc nc t2.1 a1 fun σ3 => lt (t2.1 + (1 : Int32)) fun x4 => kl5 (x4, σ3)
def f_J7_fill_53178 (kc : Nat) (nc : Nat) (a1 : Int32) (σ : Hp) : Option (Hp) :=
  lt (Int32.ofNat nc) fun x1 => lp (f_J7_fill_53178_l5 kc nc a1 x1) FU ((0 : Int32), σ)
def f_X9_findShown_j90 (t1 : Int32 × Hp) (kl2 : (Int32 × Hp) → Option (Hp)) (t3 : Hp) : Option (Hp) :=
  lt (t1.1 + (1 : Int32)) fun x4 => kl2 (x4, t3)
def f_X9_findShown_j82 (t1 : Int32 × Hp) (t5 : Int32 × Hp) (kl19 : (Int32 × Hp) → Option (Hp)) (v11 : Int32) (t12 : Int32) : Option (Hp) :=
  stI t5.2 83 20 t1.1 (v11 ||| t12) fun σ13 => lt (t5.1 + (1 : Int32)) fun x14 => kl19 (x14, σ13)
def f_X9_findShown_j61 (t1 : Int32 × Hp) (t5 : Int32 × Hp) (kl19 : (Int32 × Hp) → Option (Hp)) (v6 : Int32) (t10 : Int32) : Option (Hp) :=
  ldI t5.2 83 20 t1.1 fun v11 => jn (f_X9_findShown_j82 t1 t5 kl19 v11) fun k82 => if t10 = 0 then k82 (0 : Int32) else k82 ((1 : Int32) <<< (v6 &&& 31))
def f_X9_findShown_l19 (t1 : Int32 × Hp) (k90 : Hp → Option (Hp)) (kl19 : (Int32 × Hp) → Option (Hp)) (t5 : Int32 × Hp) : Option (Hp) :=
  if (t5.2.1 77 1) ≤ t5.1 then k90 t5.2 else ldI t5.2 79 20 t5.1 fun v6 => ldI t5.2 80 20 t5.1 fun v7 => ldI t5.2 81 20 t1.1 fun v8 => ldI t5.2 78 8 v6 fun v9 => jn (f_X9_findShown_j61 t1 t5 kl19 v6) fun k61 => if v7 = (v8 - v9) then k61 (1 : Int32) else k61 (0 : Int32)
def f_X9_findShown_l2 (kl2 : (Int32 × Hp) → Option (Hp)) (t1 : Int32 × Hp) : Option (Hp) :=
  if (t1.2.1 77 4) ≤ t1.1 then some t1.2 else stI t1.2 83 20 t1.1 (0 : Int32) fun σ2 => jn (f_X9_findShown_j90 t1 kl2) fun k90 => lp (f_X9_findShown_l19 t1 k90) FU ((0 : Int32), σ2)
def f_X9_findShown (σ : Hp) : Option (Hp) :=
  lp (f_X9_findShown_l2) FU ((0 : Int32), σ)
def f_X9_fits_j26 (σ : Hp) (t1 : Int32) (kl2 : Int32 → Option (Int32)) (t3 : Int32) : Option (Int32) :=
  ldI σ 82 20 t1 fun v4 => if t3 = v4 then lt (t1 + (1 : Int32)) fun x5 => kl2 x5 else ckZ (0 : Int32) (some (0 : Int32))
def f_X9_fits_l2 (a1 : Int32) (σ : Hp) (kl2 : Int32 → Option (Int32)) (t1 : Int32) : Option (Int32) :=
  if (σ.1 77 4) ≤ t1 then ckZ (1 : Int32) (some (1 : Int32)) else ldI σ 83 20 t1 fun v2 => jn (f_X9_fits_j26 σ t1 kl2) fun k26 => if (a1 &&& v2) = 0 then k26 (0 : Int32) else k26 (1 : Int32)
def f_X9_fits (a1 : Int32) (σ : Hp) : Option (Int32) :=
  lp (f_X9_fits_l2 a1 σ) FU (0 : Int32)
def f_X9_countFitting_j70 (t3 : Int32 × Int32 × Hp) (kl16 : (Int32 × Int32 × Hp) → Option (Int32 × Hp)) (t5 : Int32 × Hp) : Option (Int32 × Hp) :=
  lt (t3.2.1 + (1 : Int32)) fun x6 => kl16 (t5.1, x6, t5.2)
def f_X9_countFitting_l44 (t3 : Int32 × Int32 × Hp) (k70 : (Int32 × Hp) → Option (Int32 × Hp)) (x8 : Int32) (kl44 : (Int32 × Hp) → Option (Int32 × Hp)) (t9 : Int32 × Hp) : Option (Int32 × Hp) :=
  if (8 : Int32) ≤ t9.1 then k70 (x8, t9.2) else ldI t9.2 84 8 t9.1 fun v10 => stI t9.2 84 8 t9.1 (v10 + ((t3.2.1 >>> (t9.1 &&& 31)) &&& (1 : Int32))) fun σ11 => lt (t9.1 + (1 : Int32)) fun x12 => kl44 (x12, σ11)
def f_X9_countFitting_l16 (kl16 : (Int32 × Int32 × Hp) → Option (Int32 × Hp)) (t3 : Int32 × Int32 × Hp) : Option (Int32 × Hp) :=
  if (256 : Int32) ≤ t3.2.1 then some (t3.1, t3.2.2) else cr (f_J6_bitCount_0f7a4 t3.2.1) fun v4 => jn (f_X9_countFitting_j70 t3 kl16) fun k70 => if (2 : Int32) < v4 then k70 (t3.1, t3.2.2) else cr (f_X9_fits t3.2.1 t3.2.2) fun v7 => if v7 = 0 then k70 (t3.1, t3.2.2) else lt (t3.1 + (1 : Int32)) fun x8 => lp (f_X9_countFitting_l44 t3 k70 x8) FU ((0 : Int32), t3.2.2)
def f_X9_countFitting (σ : Hp) : Option (Int32 × Hp) :=
  cr (f_X9_findShown σ) fun σ1 => cr (f_J7_fill_53178 84 8 (0 : Int32) σ1) fun σ2 => lp (f_X9_countFitting_l16) FU ((0 : Int32), (0 : Int32), σ2)
def f_X9_nextPlace_j48 (t1 : Int32 × Int32 × Int32) (kl8 : (Int32 × Int32 × Int32) → Option (Int32)) (t5 : Int32 × Int32) : Option (Int32) :=
  lt (t1.2.2 + (1 : Int32)) fun x6 => kl8 (t5.1, t5.2, x6)
def f_X9_nextPlace_l8 (a1 : Int32) (σ : Hp) (kl8 : (Int32 × Int32 × Int32) → Option (Int32)) (t1 : Int32 × Int32 × Int32) : Option (Int32) :=
  if (8 : Int32) ≤ t1.2.2 then some t1.1 else ldI σ 84 8 t1.2.2 fun v2 => ldI σ 84 8 t1.2.2 fun v3 => lt (if v2 < (a1 - v3) then (a1 - v3) else v2) fun x4 => jn (f_X9_nextPlace_j48 t1 kl8) fun k48 => if t1.2.1 ≤ x4 then k48 (t1.1, t1.2.1) else k48 (t1.2.2, x4)
def f_X9_nextPlace (a1 : Int32) (σ : Hp) : Option (Int32) :=
  lp (f_X9_nextPlace_l8 a1 σ) FU ((-9 : Int32), a1, (0 : Int32))
def f_X9_found_j79 (t4 : Int32 × Int32) (kl27 : (Int32 × Int32) → Option (Int32 × Hp)) (t8 : Int32) : Option (Int32 × Hp) :=
  lt (t4.1 ||| t8) fun x9 => lt (t4.2 + (1 : Int32)) fun x10 => kl27 (x9, x10)
def f_X9_found_j78 (k79 : Int32 → Option (Int32 × Hp)) (t11 : Unit) : Option (Int32 × Hp) :=
  k79 (0 : Int32)
def f_X9_found_j59 (v1 : Int32) (t4 : Int32 × Int32) (kl27 : (Int32 × Int32) → Option (Int32 × Hp)) (t7 : Int32) : Option (Int32 × Hp) :=
  jn (f_X9_found_j79 t4 kl27) fun k79 => jn (f_X9_found_j78 k79) fun k78 => if t7 = 0 then k78 () else if v1 ≤ 0 then k78 () else k79 ((1 : Int32) <<< (t4.2 &&& 31))
def f_X9_found_j51 (v1 : Int32) (t4 : Int32 × Int32) (kl27 : (Int32 × Int32) → Option (Int32 × Hp)) (v5 : Int32) (t6 : Int32) : Option (Int32 × Hp) :=
  jn (f_X9_found_j59 v1 t4 kl27) fun k59 => if v5 = t6 then k59 (1 : Int32) else k59 (0 : Int32)
def f_X9_found_l27 (a1 : Int32) (v1 : Int32) (σ2 : Hp) (kl27 : (Int32 × Int32) → Option (Int32 × Hp)) (t4 : Int32 × Int32) : Option (Int32 × Hp) :=
  if (8 : Int32) ≤ t4.2 then some (t4.1, σ2) else ldI σ2 84 8 t4.2 fun v5 => jn (f_X9_found_j51 v1 t4 kl27 v5) fun k51 => if a1 = (1 : Int32) then k51 v1 else k51 (0 : Int32)
def f_X9_found (a1 : Int32) (σ : Hp) : Option (Int32 × Hp) :=
  cl (f_X9_countFitting σ) fun v1 σ2 => if a1 = 0 then some (v1, σ2) else if a1 = (3 : Int32) then cr (f_X9_nextPlace v1 σ2) fun v3 => some (v3, σ2) else lp (f_X9_found_l27 a1 v1 σ2) FU ((0 : Int32), (0 : Int32))
def f_X11_hunt_j25 (t2 : Int32 × Hp) : Option (Int32 × Hp) :=
  some (t2.1, t2.2)
def f_X11_hunt (a1 : Int32) (σ : Hp) : Option (Int32 × Hp) :=
  cr (f_X11_within a1 (4 : Int32)) fun v1 => jn (f_X11_hunt_j25) fun k25 => if v1 = 0 then cl (f_X11_refuse (-2 : Int32) σ) fun v3 σ4 => k25 (v3, σ4) else cl (f_X9_found a1 σ) fun v5 σ6 => k25 (v5, σ6)
def f_X11_in_j95 (σ6 : Hp) (t7 : Int32) : Option (Int32 × Hp) :=
  some (t7, σ6)
def f_X11_in_j92 (a1 : Int32) (a2 : Int32) (σ6 : Hp) (k95 : Int32 → Option (Int32 × Hp)) (t9 : Int32) : Option (Int32 × Hp) :=
  cr (f_X4_amount 13 a1 a2 t9 σ6) fun v10 => k95 v10
def f_X11_in_j41 (a1 : Int32) (a2 : Int32) (a3 : Int32) (σ : Hp) (t2 : Int32) (t4 : Int32) : Option (Int32 × Hp) :=
  cl (f_X11_refusal t2 t4 (0 : Int32) (0 : Int32) σ) fun v5 σ6 => if v5 = 0 then jn (f_X11_in_j95 σ6) fun k95 => if a3 = (2 : Int32) then cr (f_X4_push 13 a1 σ6) fun v8 => k95 v8 else jn (f_X11_in_j92 a1 a2 σ6 k95) fun k92 => if a3 = (1 : Int32) then k92 (1 : Int32) else k92 (0 : Int32) else some (v5, σ6)
def f_X11_in_j28 (a1 : Int32) (a2 : Int32) (a3 : Int32) (σ : Hp) (t2 : Int32) : Option (Int32 × Hp) :=
  cr (f_X11_within a3 (3 : Int32)) fun v3 => jn (f_X11_in_j41 a1 a2 a3 σ t2) fun k41 => if v3 = 0 then k41 (1 : Int32) else k41 (0 : Int32)
def f_X11_in_j23 (k28 : Int32 → Option (Int32 × Hp)) (t11 : Unit) : Option (Int32 × Hp) :=
  k28 (1 : Int32)
def f_X11_in (a1 : Int32) (a2 : Int32) (a3 : Int32) (σ : Hp) : Option (Int32 × Hp) :=
  cr (f_X11_within a1 (σ.1 1 0)) fun v1 => jn (f_X11_in_j28 a1 a2 a3 σ) fun k28 => jn (f_X11_in_j23 k28) fun k23 => if v1 = 0 then k23 () else cr (f_X11_within a2 (3 : Int32)) fun v12 => if v12 = 0 then k23 () else k28 (0 : Int32)
def f_X11_late_j36 (a1 : Int32) (a2 : Int32) (σ : Hp) (t2 : Int32) (t3 : Int32) (t4 : Int32) : Option (Int32 × Hp) :=
  cl (f_X11_refusal t2 (0 : Int32) t3 t4 σ) fun v5 σ6 => if v5 = 0 then ldI σ6 78 8 a1 fun v7 => stI σ6 78 8 a1 a2 fun σ8 => some (v7, σ8) else some (v5, σ6)
def f_X11_late_j25 (a1 : Int32) (a2 : Int32) (σ : Hp) (t2 : Int32) (t3 : Int32) : Option (Int32 × Hp) :=
  jn (f_X11_late_j36 a1 a2 σ t2 t3) fun k36 => if a2 ≤ (20 : Int32) then k36 (0 : Int32) else k36 (1 : Int32)
def f_X11_late_j15 (a1 : Int32) (a2 : Int32) (σ : Hp) (t2 : Int32) : Option (Int32 × Hp) :=
  jn (f_X11_late_j25 a1 a2 σ t2) fun k25 => if 0 ≤ a2 then k25 (0 : Int32) else k25 (1 : Int32)
def f_X11_late (a1 : Int32) (a2 : Int32) (σ : Hp) : Option (Int32 × Hp) :=
  cr (f_X11_within a1 (8 : Int32)) fun v1 => jn (f_X11_late_j15 a1 a2 σ) fun k15 => if v1 = 0 then k15 (1 : Int32) else k15 (0 : Int32)
def f_X11_leak_j50 (a1 : Int32) (a2 : Int32) (a3 : Int32) (σ : Hp) (t2 : Int32) (t3 : Int32) (t4 : Int32) : Option (Int32 × Hp) :=
  cl (f_X11_refusal t2 (0 : Int32) t3 t4 σ) fun v5 σ6 => if v5 = 0 then cr (f_X0_forget σ6) fun σ7 => lt ((a1 * (3 : Int32)) + a2) fun x8 => ldI σ7 6 15 x8 fun v9 => stI σ7 6 15 x8 a3 fun σ10 => some (v9, σ10) else some (v5, σ6)
def f_X11_leak_j38 (a1 : Int32) (a2 : Int32) (a3 : Int32) (σ : Hp) (t2 : Int32) (t3 : Int32) : Option (Int32 × Hp) :=
  jn (f_X11_leak_j50 a1 a2 a3 σ t2 t3) fun k50 => if a3 ≤ (999 : Int32) then k50 (0 : Int32) else k50 (1 : Int32)
def f_X11_leak_j28 (a1 : Int32) (a2 : Int32) (a3 : Int32) (σ : Hp) (t2 : Int32) : Option (Int32 × Hp) :=
  jn (f_X11_leak_j38 a1 a2 a3 σ t2) fun k38 => if 0 ≤ a3 then k38 (0 : Int32) else k38 (1 : Int32)
def f_X11_leak_j23 (k28 : Int32 → Option (Int32 × Hp)) (t11 : Unit) : Option (Int32 × Hp) :=
  k28 (1 : Int32)
def f_X11_leak (a1 : Int32) (a2 : Int32) (a3 : Int32) (σ : Hp) : Option (Int32 × Hp) :=
  cr (f_X11_within a1 (σ.1 1 0)) fun v1 => jn (f_X11_leak_j28 a1 a2 a3 σ) fun k28 => jn (f_X11_leak_j23 k28) fun k23 => if v1 = 0 then k23 () else cr (f_X11_within a2 (3 : Int32)) fun v12 => if v12 = 0 then k23 () else k28 (0 : Int32)
def f_X1_spare (a1 : Int32) (a2 : Int32) (a3 : Int32) (σ : Hp) : Option (Int32) :=
  ldI σ 74 4 a1 fun v1 => ldI σ 73 4 a1 fun v2 => ldI σ 75 4 a1 fun v3 => some ((v1 * (a3 - v2)) - (v3 * (if (0 : Int32) < (a2 - a3) then (a2 - a3) else (0 : Int32))))
def f_X1_degreeUnder_l7 (a1 : Int32) (a2 : Int32) (σ : Hp) (kl7 : Int32 → Option (Int32)) (t2 : Int32) : Option (Int32) :=
  if (300 : Int32) < t2 then some (-9 : Int32) else cr (f_X1_spare a1 a2 t2 σ) fun v3 => ldI σ 76 4 a1 fun v4 => if v3 < v4 then lt (t2 + (1 : Int32)) fun x5 => kl7 x5 else some t2
def f_X1_degreeUnder (a1 : Int32) (a2 : Int32) (σ : Hp) : Option (Int32) :=
  ldI σ 73 4 a1 fun v1 => lp (f_X1_degreeUnder_l7 a1 a2 σ) FU v1
def f_X1_degree_l6 (a1 : Int32) (σ : Hp) (kl6 : (Int32 × Int32) → Option (Int32)) (t1 : Int32 × Int32) : Option (Int32) :=
  if a1 < t1.2 then some t1.1 else if t1.1 = (-9 : Int32) then some t1.1 else cr (f_X1_degreeUnder t1.2 t1.1 σ) fun v2 => lt (t1.2 + (1 : Int32)) fun x3 => kl6 (v2, x3)
def f_X1_degree (a1 : Int32) (σ : Hp) : Option (Int32) :=
  lp (f_X1_degree_l6 a1 σ) FU ((300 : Int32), (0 : Int32))
def f_X1_bearable_j64 (t4 : Int32) : Option (Int32) :=
  some t4
def f_X1_bearable_j17 (a1 : Int32) (a2 : Int32) (σ : Hp) (t1 : Int32) : Option (Int32) :=
  if t1 = (-9 : Int32) then some (-9 : Int32) else ldI σ 73 4 a1 fun v2 => if v2 ≤ a2 then cr (f_X1_spare a1 t1 a2 σ) fun v3 => jn (f_X1_bearable_j64) fun k64 => if 0 ≤ v3 then k64 (if v3 < (9999 : Int32) then v3 else (9999 : Int32)) else k64 (-9 : Int32) else some (-9 : Int32)
def f_X1_bearable (a1 : Int32) (a2 : Int32) (σ : Hp) : Option (Int32) :=
  jn (f_X1_bearable_j17 a1 a2 σ) fun k17 => if a1 = 0 then k17 (300 : Int32) else cr (f_X1_degree (a1 - (1 : Int32)) σ) fun v5 => k17 v5
def f_X11_load_j57 (σ6 : Hp) (t7 : Int32) : Option (Int32 × Hp) :=
  some (t7, σ6)
def f_X11_load_j36 (a1 : Int32) (a2 : Int32) (σ : Hp) (t2 : Int32) (t3 : Int32) (t4 : Int32) : Option (Int32 × Hp) :=
  cl (f_X11_refusal t2 (0 : Int32) t3 t4 σ) fun v5 σ6 => jn (f_X11_load_j57 σ6) fun k57 => if v5 = 0 then cr (f_X1_bearable a1 a2 σ6) fun v8 => k57 v8 else k57 v5
def f_X11_load_j24 (a1 : Int32) (a2 : Int32) (σ : Hp) (t2 : Int32) (t3 : Int32) : Option (Int32 × Hp) :=
  jn (f_X11_load_j36 a1 a2 σ t2 t3) fun k36 => if a2 ≤ (300 : Int32) then k36 (0 : Int32) else k36 (1 : Int32)
def f_X11_load_j14 (a1 : Int32) (a2 : Int32) (σ : Hp) (t2 : Int32) : Option (Int32 × Hp) :=
  jn (f_X11_load_j24 a1 a2 σ t2) fun k24 => if 0 ≤ a2 then k24 (0 : Int32) else k24 (1 : Int32)
def f_X11_load (a1 : Int32) (a2 : Int32) (σ : Hp) : Option (Int32 × Hp) :=
  cr (f_X11_within a1 (4 : Int32)) fun v1 => jn (f_X11_load_j14 a1 a2 σ) fun k14 => if v1 = 0 then k14 (1 : Int32) else k14 (0 : Int32)
def f_X11_passing_l6 (a1 : Int32) (a2 : Int32) (a3 : Int32) (a4 : Int32) (kl6 : (Int64 × Int32) → Option (Int64)) (t1 : Int64 × Int32) : Option (Int64) :=
  if a4 < t1.2 then some t1.1 else cr (f_X11_choices a2 t1.2) fun v2 => cr (f_X11_choices (a1 - a2) (a3 - t1.2)) fun v3 => lt (t1.1 + (v2 * v3)) fun x4 => lt (t1.2 + (1 : Int32)) fun x5 => kl6 (x4, x5)
def f_X11_passing (a1 : Int32) (a2 : Int32) (a3 : Int32) (a4 : Int32) : Option (Int64) :=
  lp (f_X11_passing_l6 a1 a2 a3 a4) FU ((0 : Int64), (0 : Int32))
def f_X11_odds_j108 (σ6 : Hp) (t7 : Int64) : Option (Int64 × Hp) :=
  some (t7, σ6)
def f_X11_odds_j72 (a1 : Int32) (a2 : Int32) (a3 : Int32) (a4 : Int32) (a5 : Int32) (σ : Hp) (t2 : Int32) (t3 : Int32) (t4 : Int32) : Option (Int64 × Hp) :=
  cl (f_X11_refusal (0 : Int32) t2 t3 t4 σ) fun v5 σ6 => if v5 = 0 then jn (f_X11_odds_j108 σ6) fun k108 => if a5 = (1 : Int32) then cr (f_X11_choices a1 a3) fun v8 => k108 v8 else cr (f_X11_passing a1 a2 a3 a4) fun v9 => k108 v9 else some (v5.toInt64, σ6)
def f_X11_odds_j67 (k72 : Int32 → Option (Int64 × Hp)) (t10 : Unit) : Option (Int64 × Hp) :=
  k72 (1 : Int32)
def f_X11_odds_j39 (a1 : Int32) (a2 : Int32) (a3 : Int32) (a4 : Int32) (a5 : Int32) (σ : Hp) (t2 : Int32) (t3 : Int32) : Option (Int64 × Hp) :=
  jn (f_X11_odds_j72 a1 a2 a3 a4 a5 σ t2 t3) fun k72 => jn (f_X11_odds_j67 k72) fun k67 => if (30 : Int32) < a1 then k67 () else if a1 < a2 then k67 () else if (20 : Int32) < a3 then k67 () else if a1 < a3 then k67 () else if a4 ≤ a3 then k72 (0 : Int32) else k67 ()
def f_X11_odds_j34 (k39 : Int32 → Option (Int64 × Hp)) (t11 : Unit) : Option (Int64 × Hp) :=
  k39 (1 : Int32)
def f_X11_odds_j16 (a1 : Int32) (a2 : Int32) (a3 : Int32) (a4 : Int32) (a5 : Int32) (σ : Hp) (t2 : Int32) : Option (Int64 × Hp) :=
  jn (f_X11_odds_j39 a1 a2 a3 a4 a5 σ t2) fun k39 => jn (f_X11_odds_j34 k39) fun k34 => if a1 < (1 : Int32) then k34 () else if a2 < 0 then k34 () else if a3 < 0 then k34 () else if 0 ≤ a4 then k39 (0 : Int32) else k34 ()
def f_X11_odds (a1 : Int32) (a2 : Int32) (a3 : Int32) (a4 : Int32) (a5 : Int32) (σ : Hp) : Option (Int64 × Hp) :=
  cr (f_X11_within a5 (2 : Int32)) fun v1 => jn (f_X11_odds_j16 a1 a2 a3 a4 a5 σ) fun k16 => if v1 = 0 then k16 (1 : Int32) else k16 (0 : Int32)
def f_X7_addOffer (a1 : Int32) (a2 : Int32) (a3 : Int32) (σ : Hp) : Option (Int32 × Hp) :=
  if (6 : Int32) ≤ (σ.1 54 6) then some ((σ.1 54 6), σ) else stI σ 60 6 (σ.1 54 6) a1 fun σ1 => stI σ1 61 6 (σ1.1 54 6) a2 fun σ2 => stI σ2 62 6 (σ2.1 54 6) a3 fun σ3 => lt (sI σ3 54 6 ((σ3.1 54 6) + (1 : Int32))) fun σ4 => some ((σ4.1 54 6), σ4)
def f_X11_offer_j91 (t7 : Int32 × Hp) : Option (Int32 × Hp) :=
  some (t7.1, t7.2)
def f_X11_offer_j66 (a1 : Int32) (a2 : Int32) (a3 : Int32) (σ : Hp) (t2 : Int32) (t3 : Int32) (t4 : Int32) : Option (Int32 × Hp) :=
  cl (f_X11_refusal t2 (0 : Int32) t3 t4 σ) fun v5 σ6 => jn (f_X11_offer_j91) fun k91 => if v5 = 0 then cl (f_X7_addOffer a1 a2 a3 σ6) fun v8 σ9 => k91 (v8, σ9) else k91 (v5, σ6)
def f_X11_offer_j61 (k66 : Int32 → Option (Int32 × Hp)) (t10 : Unit) : Option (Int32 × Hp) :=
  k66 (1 : Int32)
def f_X11_offer_j36 (a1 : Int32) (a2 : Int32) (a3 : Int32) (σ : Hp) (t2 : Int32) (t3 : Int32) : Option (Int32 × Hp) :=
  jn (f_X11_offer_j66 a1 a2 a3 σ t2 t3) fun k66 => jn (f_X11_offer_j61 k66) fun k61 => if (9 : Int32) < a2 then k61 () else if (999 : Int32) < a3 then k61 () else if (σ.1 54 6) < (6 : Int32) then k66 (0 : Int32) else k61 ()
def f_X11_offer_j31 (k36 : Int32 → Option (Int32 × Hp)) (t11 : Unit) : Option (Int32 × Hp) :=
  k36 (1 : Int32)
def f_X11_offer_j20 (a1 : Int32) (a2 : Int32) (a3 : Int32) (σ : Hp) (t2 : Int32) : Option (Int32 × Hp) :=
  jn (f_X11_offer_j36 a1 a2 a3 σ t2) fun k36 => jn (f_X11_offer_j31 k36) fun k31 => if a2 < (1 : Int32) then k31 () else if (1 : Int32) ≤ a3 then k36 (0 : Int32) else k31 ()
def f_X11_offer (a1 : Int32) (a2 : Int32) (a3 : Int32) (σ : Hp) : Option (Int32 × Hp) :=
  cr (f_X11_within a1 (σ.1 1 0)) fun v1 => jn (f_X11_offer_j20 a1 a2 a3 σ) fun k20 => if v1 = 0 then k20 (1 : Int32) else k20 (0 : Int32)
def f_X10_next_j87 (t1 : Int32) (kl3 : Int32 → Option (Int32)) (t4 : Unit) : Option (Int32) :=
  lt (t1 + (1 : Int32)) fun x5 => kl3 x5
def f_X10_next_j32 (a2 : Int32) (a3 : Int32) (σ : Hp) (t1 : Int32) (kl3 : Int32 → Option (Int32)) (x2 : Int32) (t3 : Int32) : Option (Int32) :=
  jn (f_X10_next_j87 t1 kl3) fun k87 => if t3 = 0 then k87 () else cr (f_X11_within (a2 ||| x2) (256 : Int32)) fun v6 => if v6 = 0 then k87 () else ldI σ 53 256 (a2 ||| x2) fun v7 => if v7 = 0 then k87 () else cr (f_X8_forbidder t1 (1 : Int32) (a3 ||| a2) σ) fun v8 => if v8 = (-9 : Int32) then some t1 else k87 ()
def f_X10_next_l3 (a1 : Int32) (a2 : Int32) (a3 : Int32) (σ : Hp) (kl3 : Int32 → Option (Int32)) (t1 : Int32) : Option (Int32) :=
  if (8 : Int32) ≤ t1 then some (-9 : Int32) else lt ((1 : Int32) <<< (t1 &&& 31)) fun x2 => jn (f_X10_next_j32 a2 a3 σ t1 kl3 x2) fun k32 => if ((a1 &&& (a2 ^^^ (-1 : Int32))) &&& x2) = 0 then k32 (0 : Int32) else k32 (1 : Int32)
def f_X10_next (a1 : Int32) (a2 : Int32) (a3 : Int32) (σ : Hp) : Option (Int32) :=
  lp (f_X10_next_l3 a1 a2 a3 σ) FU (0 : Int32)
def f_X10_nth_l102 (a1 : Int32) (a2 : Int32) (a3 : Int32) (t3 : Hp) (kl102 : (Int32 × Int32 × Int32) → Option (Int32 × Hp)) (t5 : Int32 × Int32 × Int32) : Option (Int32 × Hp) :=
  if a2 ≤ t5.2.2 then some (t5.2.1, t3) else if t5.2.1 = (-9 : Int32) then some (t5.2.1, t3) else lt (t5.1 ||| ((1 : Int32) <<< (t5.2.1 &&& 31))) fun x6 => cr (f_X10_next a1 x6 a3 t3) fun v7 => lt (t5.2.2 + (1 : Int32)) fun x8 => kl102 (x6, v7, x8)
def f_X10_nth_j86 (a1 : Int32) (a2 : Int32) (a3 : Int32) (t3 : Hp) : Option (Int32 × Hp) :=
  cr (f_X10_next a1 (0 : Int32) a3 t3) fun v4 => lp (f_X10_nth_l102 a1 a2 a3 t3) FU ((0 : Int32), v4, (0 : Int32))
def f_X10_nth_j80 (t9 : Int32 × Hp) (kl41 : (Int32 × Hp) → Option (Int32 × Hp)) (t10 : Hp) : Option (Int32 × Hp) :=
  lt (t9.1 + (-1 : Int32)) fun x11 => kl41 (x11, t10)
def f_X10_nth_j79 (t9 : Int32 × Hp) (k80 : Hp → Option (Int32 × Hp)) (t13 : Int32) : Option (Int32 × Hp) :=
  stZ t9.2 53 256 t9.1 t13 fun σ14 => k80 σ14
def f_X10_nth_l41 (a1 : Int32) (a3 : Int32) (k86 : Hp → Option (Int32 × Hp)) (kl41 : (Int32 × Hp) → Option (Int32 × Hp)) (t9 : Int32 × Hp) : Option (Int32 × Hp) :=
  if t9.1 ≤ 0 then k86 t9.2 else jn (f_X10_nth_j80 t9 kl41) fun k80 => if (t9.1 &&& (a1 ^^^ (-1 : Int32))) = 0 then cr (f_X10_next a1 t9.1 a3 t9.2) fun v12 => jn (f_X10_nth_j79 t9 k80) fun k79 => if v12 = (-9 : Int32) then k79 (0 : Int32) else k79 (1 : Int32) else k80 t9.2
def f_X10_nth (a1 : Int32) (a2 : Int32) (a3 : Int32) (a4 : Int32) (σ : Hp) : Option (Int32 × Hp) :=
  if a1 ≤ 0 then some ((-9 : Int32), σ) else if (256 : Int32) ≤ a1 then some ((-9 : Int32), σ) else if (a1 &&& a4) = 0 then if a2 < (8 : Int32) then stZ σ 53 256 a1 (1 : Int32) fun σ1 => lt (a1 - (1 : Int32)) fun x2 => jn (f_X10_nth_j86 a1 a2 a3) fun k86 => lp (f_X10_nth_l41 a1 a3 k86) FU (x2, σ1) else some ((-9 : Int32), σ) else some ((-9 : Int32), σ)
def f_X11_order_j98 (t7 : Int32 × Hp) : Option (Int32 × Hp) :=
  some (t7.1, t7.2)
def f_X11_order_j60 (a1 : Int32) (a2 : Int32) (σ : Hp) (t1 : Int32) (t2 : Int32) (t4 : Int32) : Option (Int32 × Hp) :=
  cl (f_X11_refusal t1 (0 : Int32) t2 t4 σ) fun v5 σ6 => jn (f_X11_order_j98) fun k98 => if v5 = 0 then cl (f_X10_nth a1 a2 (σ6.1 1 15) (σ6.1 13 1) σ6) fun v8 σ9 => k98 (v8, σ9) else k98 (v5, σ6)
def f_X11_order_j46 (a1 : Int32) (a2 : Int32) (σ : Hp) (t1 : Int32) (t2 : Int32) : Option (Int32 × Hp) :=
  cr (f_J6_bitCount_0f7a4 a1) fun v3 => jn (f_X11_order_j60 a1 a2 σ t1 t2) fun k60 => if v3 ≤ (6 : Int32) then k60 (0 : Int32) else k60 (1 : Int32)
def f_X11_order_j33 (a1 : Int32) (a2 : Int32) (σ : Hp) (t1 : Int32) : Option (Int32 × Hp) :=
  jn (f_X11_order_j46 a1 a2 σ t1) fun k46 => if 0 ≤ a2 then k46 (0 : Int32) else k46 (1 : Int32)
def f_X11_order_j28 (k33 : Int32 → Option (Int32 × Hp)) (t10 : Unit) : Option (Int32 × Hp) :=
  k33 (1 : Int32)
def f_X11_order (a1 : Int32) (a2 : Int32) (σ : Hp) : Option (Int32 × Hp) :=
  jn (f_X11_order_j33 a1 a2 σ) fun k33 => jn (f_X11_order_j28 k33) fun k28 => if a1 < 0 then k28 () else if (a1 >>> ((σ.1 1 11) &&& 31)) = 0 then if (a1 &&& (σ.1 1 15)) = 0 then k33 (0 : Int32) else k28 () else k28 ()
def f_X5_addPipe (a1 : Int32) (a2 : Int32) (a3 : Int32) (σ : Hp) : Option (Int32 × Hp) :=
  if (σ.1 1 6) < (12 : Int32) then stI σ 7 12 (σ.1 1 6) a1 fun σ1 => stI σ1 8 12 (σ1.1 1 6) a2 fun σ2 => stI σ2 9 12 (σ2.1 1 6) a3 fun σ3 => lt (sI σ3 1 6 ((σ3.1 1 6) + (1 : Int32))) fun σ4 => some ((σ3.1 1 6), σ4) else some ((-9 : Int32), σ)
def f_X11_pipe_j77 (a1 : Int32) (a2 : Int32) (a3 : Int32) (σ : Hp) (t2 : Int32) (t3 : Int32) (t4 : Int32) : Option (Int32 × Hp) :=
  cl (f_X11_refusal t2 (0 : Int32) t3 t4 σ) fun v5 σ6 => if v5 = 0 then cr (f_X0_forget σ6) fun σ7 => cl (f_X5_addPipe a1 a2 a3 σ7) fun v8 σ9 => some (v8, σ9) else some (v5, σ6)
def f_X11_pipe_j72 (k77 : Int32 → Option (Int32 × Hp)) (t10 : Unit) : Option (Int32 × Hp) :=
  k77 (1 : Int32)
def f_X11_pipe_j54 (a1 : Int32) (a2 : Int32) (a3 : Int32) (σ : Hp) (t2 : Int32) (t3 : Int32) : Option (Int32 × Hp) :=
  jn (f_X11_pipe_j77 a1 a2 a3 σ t2 t3) fun k77 => jn (f_X11_pipe_j72 k77) fun k72 => if (9 : Int32) < a3 then k72 () else if (σ.1 1 6) < (12 : Int32) then k77 (0 : Int32) else k72 ()
def f_X11_pipe_j38 (a1 : Int32) (a2 : Int32) (a3 : Int32) (σ : Hp) (t2 : Int32) : Option (Int32 × Hp) :=
  jn (f_X11_pipe_j54 a1 a2 a3 σ t2) fun k54 => if (1 : Int32) ≤ a3 then k54 (0 : Int32) else k54 (1 : Int32)
def f_X11_pipe_j33 (k38 : Int32 → Option (Int32 × Hp)) (t11 : Unit) : Option (Int32 × Hp) :=
  k38 (1 : Int32)
def f_X11_pipe (a1 : Int32) (a2 : Int32) (a3 : Int32) (σ : Hp) : Option (Int32 × Hp) :=
  cr (f_X11_within a1 (σ.1 1 0)) fun v1 => jn (f_X11_pipe_j38 a1 a2 a3 σ) fun k38 => jn (f_X11_pipe_j33 k38) fun k33 => if v1 = 0 then k33 () else cr (f_X11_within a2 (σ.1 1 0)) fun v12 => if v12 = 0 then k33 () else if a1 = a2 then k33 () else k38 (0 : Int32)
def f_X7_join_j23 (t1 : Int32 × Hp) (kl2 : (Int32 × Hp) → Option (Hp)) (t2 : Hp) : Option (Hp) :=
  lt (t1.1 + (1 : Int32)) fun x3 => kl2 (x3, t2)
def f_X7_join_l2 (a1 : Int32) (kl2 : (Int32 × Hp) → Option (Hp)) (t1 : Int32 × Hp) : Option (Hp) :=
  if (5 : Int32) ≤ t1.1 then some t1.2 else jn (f_X7_join_j23 t1 kl2) fun k23 => if ((a1 >>> (t1.1 &&& 31)) &&& (1 : Int32)) = (1 : Int32) then stI t1.2 56 5 t1.1 a1 fun σ4 => k23 σ4 else k23 t1.2
def f_X7_join (a1 : Int32) (σ : Hp) : Option (Hp) :=
  lp (f_X7_join_l2 a1) FU ((0 : Int32), σ)
def f_X7_findReached_j83 (t2 : Int32 × Hp) (kl24 : (Int32 × Hp) → Option (Hp)) (t3 : Hp) : Option (Hp) :=
  lt (t2.1 + (1 : Int32)) fun x4 => kl24 (x4, t3)
def f_X7_findReached_l24 (kl24 : (Int32 × Hp) → Option (Hp)) (t2 : Int32 × Hp) : Option (Hp) :=
  if (t2.2.1 1 6) ≤ t2.1 then some t2.2 else jn (f_X7_findReached_j83 t2 kl24) fun k83 => if (((t2.2.1 1 10) >>> (t2.1 &&& 31)) &&& (1 : Int32)) = (1 : Int32) then ldI t2.2 7 12 t2.1 fun v5 => ldI t2.2 56 5 v5 fun v6 => ldI t2.2 8 12 t2.1 fun v7 => ldI t2.2 56 5 v7 fun v8 => cr (f_X7_join (v6 ||| v8) t2.2) fun σ9 => k83 σ9 else k83 t2.2
def f_X7_findReached_j22 (t1 : Hp) : Option (Hp) :=
  lp (f_X7_findReached_l24) FU ((0 : Int32), t1)
def f_X7_findReached_l2 (k22 : Hp → Option (Hp)) (kl2 : (Int32 × Hp) → Option (Hp)) (t10 : Int32 × Hp) : Option (Hp) :=
  if (5 : Int32) ≤ t10.1 then k22 t10.2 else stI t10.2 56 5 t10.1 ((1 : Int32) <<< (t10.1 &&& 31)) fun σ11 => lt (t10.1 + (1 : Int32)) fun x12 => kl2 (x12, σ11)
def f_X7_findReached (σ : Hp) : Option (Hp) :=
  jn (f_X7_findReached_j22) fun k22 => lp (f_X7_findReached_l2 k22) FU ((0 : Int32), σ)
def f_X7_leakyRooms_j40 (t1 : Int32 × Int32) (kl4 : (Int32 × Int32) → Option (Int32)) (t3 : Int32) : Option (Int32) :=
  lt (t1.1 ||| t3) fun x4 => lt (t1.2 + (1 : Int32)) fun x5 => kl4 (x4, x5)
def f_X7_leakyRooms_l4 (σ : Hp) (kl4 : (Int32 × Int32) → Option (Int32)) (t1 : Int32 × Int32) : Option (Int32) :=
  if (σ.1 1 0) ≤ t1.2 then some t1.1 else ldI σ 6 15 (t1.2 * (3 : Int32)) fun v2 => jn (f_X7_leakyRooms_j40 t1 kl4) fun k40 => if v2 ≤ 0 then k40 (0 : Int32) else ldI σ 56 5 t1.2 fun v6 => k40 v6
def f_X7_leakyRooms (σ : Hp) : Option (Int32) :=
  lp (f_X7_leakyRooms_l4 σ) FU ((0 : Int32), (0 : Int32))
def f_X7_priceOf_l4 (a1 : Int32) (σ : Hp) (kl4 : (Int32 × Int32) → Option (Int32)) (t1 : Int32 × Int32) : Option (Int32) :=
  if (σ.1 54 6) ≤ t1.2 then some t1.1 else ldI σ 62 6 t1.2 fun v2 => lt (t1.1 + (((a1 >>> (t1.2 &&& 31)) &&& (1 : Int32)) * v2)) fun x3 => lt (t1.2 + (1 : Int32)) fun x4 => kl4 (x3, x4)
def f_X7_priceOf (a1 : Int32) (σ : Hp) : Option (Int32) :=
  lp (f_X7_priceOf_l4 a1 σ) FU ((0 : Int32), (0 : Int32))
def f_X7_determinant_j148 (t2 : Hp) : Option (Int64 × Hp) :=
  ldJ t2 59 32 ((32 : Int32) - (1 : Int32)) fun v3 => some (v3, t2)
def f_X7_determinant_j134 (t4 : Int32 × Hp) (kl9 : (Int32 × Hp) → Option (Int64 × Hp)) (t7 : Int64) : Option (Int64 × Hp) :=
  stJ t4.2 59 32 t4.1 t7 fun σ8 => lt (t4.1 + (1 : Int32)) fun x9 => kl9 (x9, σ8)
def f_X7_determinant_j128 (t10 : Int64 × Int32) (kl31 : (Int64 × Int32) → Option (Int64 × Hp)) (t11 : Int64) : Option (Int64 × Hp) :=
  lt (t10.2 + (1 : Int32)) fun x12 => kl31 (t11, x12)
def f_X7_determinant_j125 (t10 : Int64 × Int32) (k128 : Int64 → Option (Int64 × Hp)) (t18 : Int64) : Option (Int64 × Hp) :=
  lt (t10.1 + t18) fun x19 => k128 x19
def f_X7_determinant_j108 (t10 : Int64 × Int32) (k128 : Int64 → Option (Int64 × Hp)) (x15 : Int64) (t17 : Int32) : Option (Int64 × Hp) :=
  jn (f_X7_determinant_j125 t10 k128) fun k125 => if t17 = 0 then k125 x15 else k125 (-x15)
def f_X7_determinant_j73 (t4 : Int32 × Hp) (t10 : Int64 × Int32) (k128 : Int64 → Option (Int64 × Hp)) (t13 : Int64) : Option (Int64 × Hp) :=
  ldJ t4.2 59 32 (t4.1 ^^^ ((1 : Int32) <<< (t10.2 &&& 31))) fun v14 => lt (t13 * v14) fun x15 => cr (f_J6_bitCount_0f7a4 (t4.1 >>> (t10.2 &&& 31))) fun v16 => jn (f_X7_determinant_j108 t10 k128 x15) fun k108 => if (v16 &&& (1 : Int32)) = 0 then k108 (1 : Int32) else k108 (0 : Int32)
def f_X7_determinant_l31 (a1 : Int32) (t4 : Int32 × Hp) (x6 : Int32) (k134 : Int64 → Option (Int64 × Hp)) (kl31 : (Int64 × Int32) → Option (Int64 × Hp)) (t10 : Int64 × Int32) : Option (Int64 × Hp) :=
  if (5 : Int32) ≤ t10.2 then k134 t10.1 else jn (f_X7_determinant_j128 t10 kl31) fun k128 => if ((t4.1 >>> (t10.2 &&& 31)) &&& (1 : Int32)) = (1 : Int32) then jn (f_X7_determinant_j73 t4 t10 k128) fun k73 => if t10.2 = a1 then ldJ t4.2 58 5 x6 fun v20 => k73 v20 else ldJ t4.2 57 25 ((x6 * (5 : Int32)) + t10.2) fun v21 => k73 v21 else k128 t10.1
def f_X7_determinant_l9 (a1 : Int32) (k148 : Hp → Option (Int64 × Hp)) (kl9 : (Int32 × Hp) → Option (Int64 × Hp)) (t4 : Int32 × Hp) : Option (Int64 × Hp) :=
  if (32 : Int32) ≤ t4.1 then k148 t4.2 else cr (f_J6_bitCount_0f7a4 t4.1) fun v5 => lt (v5 - (1 : Int32)) fun x6 => jn (f_X7_determinant_j134 t4 kl9) fun k134 => lp (f_X7_determinant_l31 a1 t4 x6 k134) FU ((0 : Int64), (0 : Int32))
def f_X7_determinant (a1 : Int32) (σ : Hp) : Option (Int64 × Hp) :=
  stJ σ 59 32 (0 : Int32) (1 : Int64) fun σ1 => jn (f_X7_determinant_j148) fun k148 => lp (f_X7_determinant_l9 a1 k148) FU ((1 : Int32), σ1)
def f_J7_fill_d0a16_l6 (kc : Nat) (nc : Nat) (a1 : Int64) (x1 : Int32) (kl6 : (Int32 × Hp) → Option (Hp)) (t2 : Int32 × Hp) : Option (Hp) :=
  if x1 ≤ t2.1 then some t2.2 else stJ t2.2 kc nc t2.1 a1 fun σ3 => lt (t2.1 + (1 : Int32)) fun x4 => kl6 (x4, σ3)
def f_J7_fill_d0a16 (kc : Nat) (nc : Nat) (a1 : Int64) (σ : Hp) : Option (Hp) :=
  lt (Int32.ofNat nc) fun x1 => lp (f_J7_fill_d0a16_l6 kc nc a1 x1) FU ((0 : Int32), σ)
def f_X7_isClosed_j32 (t1 : Int32) (kl2 : Int32 → Option (Int32)) (t3 : Unit) : Option (Int32) :=
  lt (t1 + (1 : Int32)) fun x4 => kl2 x4
def f_X7_isClosed_l2 (a1 : Int32) (σ : Hp) (kl2 : Int32 → Option (Int32)) (t1 : Int32) : Option (Int32) :=
  if (5 : Int32) ≤ t1 then ckZ (1 : Int32) (some (1 : Int32)) else ldI σ 56 5 a1 fun v2 => jn (f_X7_isClosed_j32 t1 kl2) fun k32 => if ((v2 >>> (t1 &&& 31)) &&& (1 : Int32)) = (1 : Int32) then ldI σ 55 5 t1 fun v5 => if v5 ≤ 0 then k32 () else ckZ (0 : Int32) (some (0 : Int32)) else k32 ()
def f_X7_isClosed (a1 : Int32) (σ : Hp) : Option (Int32) :=
  lp (f_X7_isClosed_l2 a1 σ) FU (0 : Int32)
def f_X7_fill_j233 (t3 : Int32 × Hp) (kl82 : (Int32 × Hp) → Option (Hp)) (t6 : Hp) : Option (Hp) :=
  lt (t3.1 + (1 : Int32)) fun x7 => kl82 (x7, t6)
def f_X7_fill_l82 (kl82 : (Int32 × Hp) → Option (Hp)) (t3 : Int32 × Hp) : Option (Hp) :=
  if (t3.2.1 1 6) ≤ t3.1 then some t3.2 else ldI t3.2 7 12 t3.1 fun v4 => ldI t3.2 8 12 t3.1 fun v5 => jn (f_X7_fill_j233 t3 kl82) fun k233 => if (((t3.2.1 1 10) >>> (t3.1 &&& 31)) &&& (1 : Int32)) = (1 : Int32) then cr (f_X7_isClosed v4 t3.2) fun v8 => if v8 = 0 then ldJ t3.2 57 25 ((v4 * (5 : Int32)) + v4) fun v9 => ldI t3.2 9 12 t3.1 fun v10 => stJ t3.2 57 25 ((v4 * (5 : Int32)) + v4) (v9 + v10.toInt64) fun σ11 => ldJ σ11 57 25 ((v5 * (5 : Int32)) + v5) fun v12 => ldI σ11 9 12 t3.1 fun v13 => stJ σ11 57 25 ((v5 * (5 : Int32)) + v5) (v12 + v13.toInt64) fun σ14 => ldJ σ14 57 25 ((v4 * (5 : Int32)) + v5) fun v15 => ldI σ14 9 12 t3.1 fun v16 => stJ σ14 57 25 ((v4 * (5 : Int32)) + v5) (v15 - v16.toInt64) fun σ17 => ldJ σ17 57 25 ((v5 * (5 : Int32)) + v4) fun v18 => ldI σ17 9 12 t3.1 fun v19 => stJ σ17 57 25 ((v5 * (5 : Int32)) + v4) (v18 - v19.toInt64) fun σ20 => k233 σ20 else k233 t3.2 else k233 t3.2
def f_X7_fill_j80 (t2 : Hp) : Option (Hp) :=
  lp (f_X7_fill_l82) FU ((0 : Int32), t2)
def f_X7_fill_j73 (t21 : Int32 × Hp) (kl10 : (Int32 × Hp) → Option (Hp)) (σ24 : Hp) (t25 : Int64) : Option (Hp) :=
  stJ σ24 58 5 t21.1 t25 fun σ26 => lt (t21.1 + (1 : Int32)) fun x27 => kl10 (x27, σ26)
def f_X7_fill_j45 (a1 : Int32) (t21 : Int32 × Hp) (kl10 : (Int32 × Hp) → Option (Hp)) (v22 : Int32) (t23 : Int64) : Option (Hp) :=
  stJ t21.2 57 25 ((t21.1 * (5 : Int32)) + t21.1) t23 fun σ24 => jn (f_X7_fill_j73 t21 kl10 σ24) fun k73 => if v22 = 0 then ldI σ24 6 15 ((t21.1 * (3 : Int32)) + a1) fun v28 => k73 v28.toInt64 else k73 (0 : Int64)
def f_X7_fill_l10 (a1 : Int32) (k80 : Hp → Option (Hp)) (kl10 : (Int32 × Hp) → Option (Hp)) (t21 : Int32 × Hp) : Option (Hp) :=
  if (5 : Int32) ≤ t21.1 then k80 t21.2 else cr (f_X7_isClosed t21.1 t21.2) fun v22 => jn (f_X7_fill_j45 a1 t21 kl10 v22) fun k45 => if v22 = 0 then ldI t21.2 55 5 t21.1 fun v29 => k45 v29.toInt64 else k45 (1 : Int64)
def f_X7_fill (a1 : Int32) (σ : Hp) : Option (Hp) :=
  cr (f_J7_fill_d0a16 57 25 (0 : Int64) σ) fun σ1 => jn (f_X7_fill_j80) fun k80 => lp (f_X7_fill_l10 a1 k80) FU ((0 : Int32), σ1)
def f_X7_findSpeeds_l75 (a2 : Int32) (kl75 : (Int32 × Hp) → Option (Hp)) (t3 : Int32 × Hp) : Option (Hp) :=
  if (t3.2.1 54 6) ≤ t3.1 then some t3.2 else ldI t3.2 60 6 t3.1 fun v4 => ldI t3.2 55 5 v4 fun v5 => ldI t3.2 61 6 t3.1 fun v6 => stI t3.2 55 5 v4 (v5 + (((a2 >>> (t3.1 &&& 31)) &&& (1 : Int32)) * v6)) fun σ7 => lt (t3.1 + (1 : Int32)) fun x8 => kl75 (x8, σ7)
def f_X7_findSpeeds_j73 (a2 : Int32) (t2 : Hp) : Option (Hp) :=
  lp (f_X7_findSpeeds_l75 a2) FU ((0 : Int32), t2)
def f_X7_findSpeeds_l10 (a1 : Int32) (k73 : Hp → Option (Hp)) (kl10 : (Int32 × Hp) → Option (Hp)) (t9 : Int32 × Hp) : Option (Hp) :=
  if (t9.2.1 1 11) ≤ t9.1 then k73 t9.2 else ldI t9.2 11 24 ((t9.1 * (3 : Int32)) + a1) fun v10 => ldI t9.2 10 8 t9.1 fun v11 => ldI t9.2 55 5 v11 fun v12 => stI t9.2 55 5 v11 (v12 + ((((t9.2.1 1 15) >>> (t9.1 &&& 31)) &&& (1 : Int32)) * v10)) fun σ13 => lt (t9.1 + (1 : Int32)) fun x14 => kl10 (x14, σ13)
def f_X7_findSpeeds (a1 : Int32) (a2 : Int32) (σ : Hp) : Option (Hp) :=
  cr (f_J7_fill_53178 55 5 (0 : Int32) σ) fun σ1 => jn (f_X7_findSpeeds_j73 a2) fun k73 => lp (f_X7_findSpeeds_l10 a1 k73) FU ((0 : Int32), σ1)
def f_X7_serves_j102 (t7 : Int32 × Hp) (kl66 : (Int32 × Hp) → Option (Int32 × Hp)) (t8 : Hp) : Option (Int32 × Hp) :=
  lt (t7.1 + (1 : Int32)) fun x9 => kl66 (x9, t8)
def f_X7_serves_l66 (a2 : Int32) (x6 : Int64) (kl66 : (Int32 × Hp) → Option (Int32 × Hp)) (t7 : Int32 × Hp) : Option (Int32 × Hp) :=
  if (t7.2.1 1 0) ≤ t7.1 then ckZ (1 : Int32) (some ((1 : Int32), t7.2)) else jn (f_X7_serves_j102 t7 kl66) fun k102 => if ((a2 >>> (t7.1 &&& 31)) &&& (1 : Int32)) = (1 : Int32) then cl (f_X7_determinant t7.1 t7.2) fun v10 σ11 => if (lg_cmp v10 x6) ≤ 0 then k102 σ11 else ckZ (0 : Int32) (some ((0 : Int32), σ11)) else k102 t7.2
def f_X7_serves_j48 (a2 : Int32) (a3 : Int32) (σ1 : Hp) (t2 : Unit) : Option (Int32 × Hp) :=
  cr (f_X7_fill (0 : Int32) σ1) fun σ3 => cl (f_X7_determinant (-1 : Int32) σ3) fun v4 σ5 => lt (a3.toInt64 * v4) fun x6 => lp (f_X7_serves_l66 a2 x6) FU ((0 : Int32), σ5)
def f_X7_serves_j42 (t12 : Int32) (kl9 : Int32 → Option (Int32 × Hp)) (t13 : Unit) : Option (Int32 × Hp) :=
  lt (t12 + (1 : Int32)) fun x14 => kl9 x14
def f_X7_serves_l9 (a2 : Int32) (σ1 : Hp) (k48 : Unit → Option (Int32 × Hp)) (kl9 : Int32 → Option (Int32 × Hp)) (t12 : Int32) : Option (Int32 × Hp) :=
  if (σ1.1 1 0) ≤ t12 then k48 () else jn (f_X7_serves_j42 t12 kl9) fun k42 => if ((a2 >>> (t12 &&& 31)) &&& (1 : Int32)) = (1 : Int32) then cr (f_X7_isClosed t12 σ1) fun v15 => if v15 = 0 then k42 () else ckZ (0 : Int32) (some ((0 : Int32), σ1)) else k42 ()
def f_X7_serves (a1 : Int32) (a2 : Int32) (a3 : Int32) (σ : Hp) : Option (Int32 × Hp) :=
  cr (f_X7_findSpeeds (0 : Int32) a1 σ) fun σ1 => jn (f_X7_serves_j48 a2 a3 σ1) fun k48 => lp (f_X7_serves_l9 a2 σ1 k48) FU (0 : Int32)
def f_X7_cheapest_j96 (t3 : Int32 × Int32 × Hp) (t4 : Int32) : Option (Int32 × Hp) :=
  some (t4, t3.2.2)
def f_X7_cheapest_j89 (t3 : Int32 × Int32 × Hp) (k96 : Int32 → Option (Int32 × Hp)) (t5 : Unit) : Option (Int32 × Hp) :=
  k96 t3.1
def f_X7_cheapest_j77 (a2 : Int32) (t3 : Int32 × Int32 × Hp) : Option (Int32 × Hp) :=
  jn (f_X7_cheapest_j96 t3) fun k96 => jn (f_X7_cheapest_j89 t3 k96) fun k89 => if a2 = (1 : Int32) then k89 () else if t3.1 = (-9 : Int32) then k89 () else k96 t3.2.1
def f_X7_cheapest_j71 (t6 : Int32 × Int32 × Int32 × Hp) (kl19 : (Int32 × Int32 × Int32 × Hp) → Option (Int32 × Hp)) (t8 : Int32 × Int32 × Hp) : Option (Int32 × Hp) :=
  lt (t6.2.2.1 + (1 : Int32)) fun x9 => kl19 (t8.1, t8.2.1, x9, t8.2.2)
def f_X7_cheapest_j52 (a1 : Int32) (v2 : Int32) (t6 : Int32 × Int32 × Int32 × Hp) (v7 : Int32) (k71 : (Int32 × Int32 × Hp) → Option (Int32 × Hp)) (t10 : Unit) : Option (Int32 × Hp) :=
  cl (f_X7_serves t6.2.2.1 v2 a1 t6.2.2.2) fun v11 σ12 => if v11 = 0 then k71 (t6.1, t6.2.1, σ12) else k71 (t6.2.2.1, v7, σ12)
def f_X7_cheapest_l19 (a1 : Int32) (v2 : Int32) (k77 : (Int32 × Int32 × Hp) → Option (Int32 × Hp)) (kl19 : (Int32 × Int32 × Int32 × Hp) → Option (Int32 × Hp)) (t6 : Int32 × Int32 × Int32 × Hp) : Option (Int32 × Hp) :=
  if ((1 : Int32) <<< ((t6.2.2.2.1 54 6) &&& 31)) ≤ t6.2.2.1 then k77 (t6.1, t6.2.1, t6.2.2.2) else cr (f_X7_priceOf t6.2.2.1 t6.2.2.2) fun v7 => jn (f_X7_cheapest_j71 t6 kl19) fun k71 => jn (f_X7_cheapest_j52 a1 v2 t6 v7 k71) fun k52 => if t6.1 = (-9 : Int32) then k52 () else if t6.2.1 ≤ v7 then k71 (t6.1, t6.2.1, t6.2.2.2) else k52 ()
def f_X7_cheapest (a1 : Int32) (a2 : Int32) (σ : Hp) : Option (Int32 × Hp) :=
  cr (f_X7_findReached σ) fun σ1 => cr (f_X7_leakyRooms σ1) fun v2 => jn (f_X7_cheapest_j77 a2) fun k77 => lp (f_X7_cheapest_l19 a1 v2 k77) FU ((-9 : Int32), (0 : Int32), (0 : Int32), σ1)
def f_X11_plan_j57 (t7 : Int32 × Hp) : Option (Int32 × Hp) :=
  some (t7.1, t7.2)
def f_X11_plan_j36 (a1 : Int32) (a2 : Int32) (σ : Hp) (t2 : Int32) (t3 : Int32) (t4 : Int32) : Option (Int32 × Hp) :=
  cl (f_X11_refusal (0 : Int32) t2 t3 t4 σ) fun v5 σ6 => jn (f_X11_plan_j57) fun k57 => if v5 = 0 then cl (f_X7_cheapest a1 a2 σ6) fun v8 σ9 => k57 (v8, σ9) else k57 (v5, σ6)
def f_X11_plan_j24 (a1 : Int32) (a2 : Int32) (σ : Hp) (t2 : Int32) (t3 : Int32) : Option (Int32 × Hp) :=
  jn (f_X11_plan_j36 a1 a2 σ t2 t3) fun k36 => if a1 ≤ (9999 : Int32) then k36 (0 : Int32) else k36 (1 : Int32)
def f_X11_plan_j15 (a1 : Int32) (a2 : Int32) (σ : Hp) (t2 : Int32) : Option (Int32 × Hp) :=
  jn (f_X11_plan_j24 a1 a2 σ t2) fun k24 => if 0 ≤ a1 then k24 (0 : Int32) else k24 (1 : Int32)
def f_X11_plan (a1 : Int32) (a2 : Int32) (σ : Hp) : Option (Int32 × Hp) :=
  cr (f_X11_within a2 (2 : Int32)) fun v1 => jn (f_X11_plan_j15 a1 a2 σ) fun k15 => if v1 = 0 then k15 (1 : Int32) else k15 (0 : Int32)
def f_X5_addPump (a1 : Int32) (a2 : Int32) (a3 : Int32) (a4 : Int32) (a5 : Int32) (σ : Hp) : Option (Int32 × Hp) :=
  if (σ.1 1 11) < (8 : Int32) then stI σ 10 8 (σ.1 1 11) a1 fun σ1 => stI σ1 11 24 ((σ1.1 1 11) * (3 : Int32)) a2 fun σ2 => stI σ2 11 24 (((σ2.1 1 11) * (3 : Int32)) + (1 : Int32)) a3 fun σ3 => stI σ3 11 24 (((σ3.1 1 11) * (3 : Int32)) + (2 : Int32)) a4 fun σ4 => stI σ4 12 8 (σ4.1 1 11) a5 fun σ5 => lt (sI σ5 1 11 ((σ5.1 1 11) + (1 : Int32))) fun σ6 => some ((σ5.1 1 11), σ6) else some ((-9 : Int32), σ)
def f_X11_pump_j89 (a1 : Int32) (a2 : Int32) (a3 : Int32) (a4 : Int32) (a5 : Int32) (σ : Hp) (t1 : Int32) (t3 : Int32) (t4 : Int32) : Option (Int32 × Hp) :=
  cl (f_X11_refusal t3 (0 : Int32) t4 t1 σ) fun v5 σ6 => if v5 = 0 then cr (f_X0_forget σ6) fun σ7 => cl (f_X5_addPump a1 a2 a3 a4 a5 σ7) fun v8 σ9 => some (v8, σ9) else some (v5, σ6)
def f_X11_pump_j84 (k89 : Int32 → Option (Int32 × Hp)) (t10 : Unit) : Option (Int32 × Hp) :=
  k89 (1 : Int32)
def f_X11_pump_j65 (a1 : Int32) (a2 : Int32) (a3 : Int32) (a4 : Int32) (a5 : Int32) (σ : Hp) (t1 : Int32) (t3 : Int32) : Option (Int32 × Hp) :=
  jn (f_X11_pump_j89 a1 a2 a3 a4 a5 σ t1 t3) fun k89 => jn (f_X11_pump_j84 k89) fun k84 => if a2 < 0 then k84 () else if a3 < 0 then k84 () else if a4 < 0 then k84 () else if 0 ≤ a5 then k89 (0 : Int32) else k84 ()
def f_X11_pump_j43 (a1 : Int32) (a2 : Int32) (a3 : Int32) (a4 : Int32) (a5 : Int32) (σ : Hp) (t1 : Int32) : Option (Int32 × Hp) :=
  cr (f_X11_within a1 (σ.1 1 0)) fun v2 => jn (f_X11_pump_j65 a1 a2 a3 a4 a5 σ t1) fun k65 => if v2 = 0 then k65 (1 : Int32) else k65 (0 : Int32)
def f_X11_pump_j38 (k43 : Int32 → Option (Int32 × Hp)) (t11 : Unit) : Option (Int32 × Hp) :=
  k43 (1 : Int32)
def f_X11_pump (a1 : Int32) (a2 : Int32) (a3 : Int32) (a4 : Int32) (a5 : Int32) (σ : Hp) : Option (Int32 × Hp) :=
  jn (f_X11_pump_j43 a1 a2 a3 a4 a5 σ) fun k43 => jn (f_X11_pump_j38 k43) fun k38 => if (9 : Int32) < a2 then k38 () else if (9 : Int32) < a3 then k38 () else if (9 : Int32) < a4 then k38 () else if (99999 : Int32) < a5 then k38 () else if (σ.1 1 11) < (8 : Int32) then k43 (0 : Int32) else k38 ()
def f_X11_pumpOf_j111 (σ6 : Hp) (t7 : Int32) : Option (Int32 × Hp) :=
  some (t7, σ6)
def f_X11_pumpOf_j34 (a1 : Int32) (a2 : Int32) (σ : Hp) (t2 : Int32) (t4 : Int32) : Option (Int32 × Hp) :=
  cl (f_X11_refusal t2 t4 (0 : Int32) (0 : Int32) σ) fun v5 σ6 => if v5 = 0 then if a2 = 0 then some ((((σ6.1 1 15) >>> (a1 &&& 31)) &&& (1 : Int32)), σ6) else if a2 = (4 : Int32) then some ((((σ6.1 13 1) >>> (a1 &&& 31)) &&& (1 : Int32)), σ6) else jn (f_X11_pumpOf_j111 σ6) fun k111 => if a2 = (5 : Int32) then ldI σ6 12 8 a1 fun v8 => k111 v8 else ldI σ6 16 24 (((a1 * (3 : Int32)) + a2) - (1 : Int32)) fun v9 => k111 v9 else some (v5, σ6)
def f_X11_pumpOf_j20 (a1 : Int32) (a2 : Int32) (σ : Hp) (t2 : Int32) : Option (Int32 × Hp) :=
  cr (f_X11_within a2 (6 : Int32)) fun v3 => jn (f_X11_pumpOf_j34 a1 a2 σ t2) fun k34 => if v3 = 0 then k34 (1 : Int32) else k34 (0 : Int32)
def f_X11_pumpOf (a1 : Int32) (a2 : Int32) (σ : Hp) : Option (Int32 × Hp) :=
  cr (f_X11_within a1 (σ.1 1 11)) fun v1 => jn (f_X11_pumpOf_j20 a1 a2 σ) fun k20 => if v1 = 0 then k20 (1 : Int32) else k20 (0 : Int32)
def f_X11_reading_j37 (a1 : Int32) (a2 : Int32) (σ : Hp) (t2 : Int32) (t3 : Int32) (t4 : Int32) : Option (Int32 × Hp) :=
  cl (f_X11_refusal t2 (0 : Int32) t3 t4 σ) fun v5 σ6 => if v5 = 0 then stI σ6 69 3 a1 a2 fun σ7 => some ((1 : Int32), σ7) else some (v5, σ6)
def f_X11_reading_j25 (a1 : Int32) (a2 : Int32) (σ : Hp) (t2 : Int32) (t3 : Int32) : Option (Int32 × Hp) :=
  jn (f_X11_reading_j37 a1 a2 σ t2 t3) fun k37 => if a2 ≤ (9999 : Int32) then k37 (0 : Int32) else k37 (1 : Int32)
def f_X11_reading_j14 (a1 : Int32) (a2 : Int32) (σ : Hp) (t2 : Int32) : Option (Int32 × Hp) :=
  jn (f_X11_reading_j25 a1 a2 σ t2) fun k25 => if (-1 : Int32) ≤ a2 then k25 (0 : Int32) else k25 (1 : Int32)
def f_X11_reading (a1 : Int32) (a2 : Int32) (σ : Hp) : Option (Int32 × Hp) :=
  cr (f_X11_within a1 (3 : Int32)) fun v1 => jn (f_X11_reading_j14 a1 a2 σ) fun k14 => if v1 = 0 then k14 (1 : Int32) else k14 (0 : Int32)
def f_X3_shown_j45 (t1 : Int64) : Option (Int32) :=
  dvJ (10 : Int64) <| some (if (t1 / (10 : Int64)) < (2000000000 : Int64) then (t1 / (10 : Int64)) else (2000000000 : Int64)).toInt32
def f_X3_shown_l6 (a1 : Int32) (a2 : Int32) (σ : Hp) (k45 : Int64 → Option (Int32)) (kl6 : (Int64 × Int32) → Option (Int32)) (t2 : Int64 × Int32) : Option (Int32) :=
  if (3 : Int32) ≤ t2.2 then k45 t2.1 else ldI σ 68 9 ((a1 * (3 : Int32)) + t2.2) fun v3 => cr (f_X4_amount 13 a2 t2.2 (0 : Int32) σ) fun v4 => lt (t2.1 + (v3.toInt64 * v4.toInt64)) fun x5 => lt (t2.2 + (1 : Int32)) fun x6 => kl6 (x5, x6)
def f_X3_shown (a1 : Int32) (a2 : Int32) (σ : Hp) : Option (Int32) :=
  jn (f_X3_shown_j45) fun k45 => lp (f_X3_shown_l6 a1 a2 σ k45) FU ((0 : Int64), (0 : Int32))
def f_X11_reads_j22 (σ : Hp) (t2 : Unit) : Option (Int32 × Hp) :=
  cl (f_X11_refuse (-1 : Int32) σ) fun v3 σ4 => some (v3, σ4)
def f_X11_reads (a1 : Int32) (a2 : Int32) (σ : Hp) : Option (Int32 × Hp) :=
  cr (f_X11_within a1 (3 : Int32)) fun v1 => jn (f_X11_reads_j22 σ) fun k22 => if v1 = 0 then k22 () else cr (f_X11_within a2 (σ.1 1 0)) fun v5 => if v5 = 0 then k22 () else cr (f_X3_shown a1 a2 σ) fun v6 => some (v6, σ)
def f_X0_repeat_j103 (t4 : Hp) : Option (Int32 × Hp) :=
  lt (sI t4 25 3 ((t4.1 25 3) + (1 : Int32))) fun σ5 => lt (sI σ5 25 4 ((σ5.1 25 4) - (1 : Int32))) fun σ6 => ckZ (1 : Int32) (some ((1 : Int32), σ6))
def f_X0_repeat (σ : Hp) : Option (Int32 × Hp) :=
  if (σ.1 25 4) ≤ 0 then ckZ (0 : Int32) (some ((0 : Int32), σ)) else if (σ.1 25 3) < (30 : Int32) then ldI σ 27 30 (σ.1 25 3) fun v1 => lt ((1 : Int32) <<< (v1 &&& 31)) fun x2 => ldI σ 26 30 (σ.1 25 3) fun v3 => jn (f_X0_repeat_j103) fun k103 => if v3 = 0 then lt (sI σ 1 10 ((σ.1 1 10) ^^^ x2)) fun σ7 => k103 σ7 else ldI σ 26 30 (σ.1 25 3) fun v8 => if v8 = (1 : Int32) then lt (sI σ 1 15 ((σ.1 1 15) ^^^ x2)) fun σ9 => k103 σ9 else lt (sI σ 1 15 ((σ.1 1 15) &&& (x2 ^^^ (-1 : Int32)))) fun σ10 => lt (sI σ10 13 1 ((σ10.1 13 1) ||| x2)) fun σ11 => k103 σ11 else ckZ (0 : Int32) (some ((0 : Int32), σ))
def f_X11_redo_j28 (t3 : Int32 × Hp) : Option (Int32 × Hp) :=
  some (t3.1, t3.2)
def f_X11_redo (σ : Hp) : Option (Int32 × Hp) :=
  cl (f_X0_repeat σ) fun v1 σ2 => jn (f_X11_redo_j28) fun k28 => if v1 = 0 then cl (f_X11_refuse (-3 : Int32) σ2) fun v4 σ5 => k28 (v4, σ5) else k28 ((1 : Int32), σ2)
def f_X7_common_l15 (kl15 : (Int64 × Int64 × Int32) → Option (Int64)) (t3 : Int64 × Int64 × Int32) : Option (Int64) :=
  if (200 : Int32) ≤ t3.2.2 then some t3.1 else if (lg_cmp t3.2.1 (0 : Int64)) = 0 then some t3.1 else dvJ t3.2.1 <| lt (t3.1 - t3.1 / t3.2.1 * t3.2.1) fun x4 => lt (t3.2.2 + (1 : Int32)) fun x5 => kl15 (t3.2.1, x4, x5)
def f_X7_common (a1 : Int64) (a2 : Int64) : Option (Int64) :=
  lt (if 0 < a1 then a1 else -a1) fun x1 => lt (if 0 < a2 then a2 else -a2) fun x2 => lp (f_X7_common_l15) FU (x1, x2, (0 : Int32))
def f_X7_fraction_j72 (σ8 : Hp) (v9 : Int64) (t10 : Int64) : Option (Int64 × Hp) :=
  dvJ v9 <| some ((t10 / v9), σ8)
def f_X7_fraction (a1 : Int32) (a2 : Int32) (a3 : Int32) (σ : Hp) : Option (Int64 × Hp) :=
  cr (f_X7_findReached σ) fun σ1 => cr (f_X7_findSpeeds a2 (0 : Int32) σ1) fun σ2 => cr (f_X7_isClosed a1 σ2) fun v3 => if v3 = 0 then cr (f_X7_fill a2 σ2) fun σ4 => cl (f_X7_determinant a1 σ4) fun v5 σ6 => cl (f_X7_determinant (-1 : Int32) σ6) fun v7 σ8 => cr (f_X7_common v5 v7) fun v9 => if (lg_cmp v9 (0 : Int64)) = 0 then some ((-9 : Int64), σ8) else jn (f_X7_fraction_j72 σ8 v9) fun k72 => if a3 = 0 then k72 v5 else k72 v7 else some ((-9 : Int64), σ2)
def f_X11_rest_j69 (t7 : Int64 × Hp) : Option (Int64 × Hp) :=
  some (t7.1, t7.2)
def f_X11_rest_j41 (a1 : Int32) (a2 : Int32) (a3 : Int32) (σ : Hp) (t2 : Int32) (t4 : Int32) : Option (Int64 × Hp) :=
  cl (f_X11_refusal t2 t4 (0 : Int32) (0 : Int32) σ) fun v5 σ6 => jn (f_X11_rest_j69) fun k69 => if v5 = 0 then cl (f_X7_fraction a1 a2 a3 σ6) fun v8 σ9 => k69 (v8, σ9) else k69 (v5.toInt64, σ6)
def f_X11_rest_j28 (a1 : Int32) (a2 : Int32) (a3 : Int32) (σ : Hp) (t2 : Int32) : Option (Int64 × Hp) :=
  cr (f_X11_within a3 (2 : Int32)) fun v3 => jn (f_X11_rest_j41 a1 a2 a3 σ t2) fun k41 => if v3 = 0 then k41 (1 : Int32) else k41 (0 : Int32)
def f_X11_rest_j23 (k28 : Int32 → Option (Int64 × Hp)) (t10 : Unit) : Option (Int64 × Hp) :=
  k28 (1 : Int32)
def f_X11_rest (a1 : Int32) (a2 : Int32) (a3 : Int32) (σ : Hp) : Option (Int64 × Hp) :=
  cr (f_X11_within a1 (σ.1 1 0)) fun v1 => jn (f_X11_rest_j28 a1 a2 a3 σ) fun k28 => jn (f_X11_rest_j23 k28) fun k23 => if v1 = 0 then k23 () else cr (f_X11_within a2 (3 : Int32)) fun v11 => if v11 = 0 then k23 () else k28 (0 : Int32)
def f_X11_restCold_j24 (t2 : Int32 × Hp) : Option (Int32 × Hp) :=
  some (t2.1, t2.2)
def f_X11_restCold (a1 : Int32) (σ : Hp) : Option (Int32 × Hp) :=
  cr (f_X11_within a1 (4 : Int32)) fun v1 => jn (f_X11_restCold_j24) fun k24 => if v1 = 0 then cl (f_X11_refuse (-1 : Int32) σ) fun v3 σ4 => k24 (v3, σ4) else cr (f_X1_degree a1 σ) fun v5 => k24 (v5, σ)
def f_X5_addRoom (a1 : Int32) (a2 : Int32) (σ : Hp) : Option (Int32 × Hp) :=
  if (σ.1 1 0) < (5 : Int32) then stI σ 2 5 (σ.1 1 0) a1 fun σ1 => stI σ1 3 5 (σ1.1 1 0) a2 fun σ2 => stI σ2 4 5 (σ2.1 1 0) (5 : Int32) fun σ3 => lt (sI σ3 1 0 ((σ3.1 1 0) + (1 : Int32))) fun σ4 => some ((σ3.1 1 0), σ4) else some ((-9 : Int32), σ)
def f_X11_room_j47 (a1 : Int32) (a2 : Int32) (σ : Hp) (t2 : Int32) (t3 : Int32) (t4 : Int32) : Option (Int32 × Hp) :=
  cl (f_X11_refusal t2 (0 : Int32) t3 t4 σ) fun v5 σ6 => if v5 = 0 then cr (f_X0_forget σ6) fun σ7 => cl (f_X5_addRoom a1 a2 σ7) fun v8 σ9 => some (v8, σ9) else some (v5, σ6)
def f_X11_room_j42 (k47 : Int32 → Option (Int32 × Hp)) (t10 : Unit) : Option (Int32 × Hp) :=
  k47 (1 : Int32)
def f_X11_room_j25 (a1 : Int32) (a2 : Int32) (σ : Hp) (t2 : Int32) (t3 : Int32) : Option (Int32 × Hp) :=
  jn (f_X11_room_j47 a1 a2 σ t2 t3) fun k47 => jn (f_X11_room_j42 k47) fun k42 => if (99 : Int32) < a1 then k42 () else if (σ.1 1 0) < (5 : Int32) then k47 (0 : Int32) else k42 ()
def f_X11_room_j14 (a1 : Int32) (a2 : Int32) (σ : Hp) (t2 : Int32) : Option (Int32 × Hp) :=
  jn (f_X11_room_j25 a1 a2 σ t2) fun k25 => if (1 : Int32) ≤ a1 then k25 (0 : Int32) else k25 (1 : Int32)
def f_X11_room (a1 : Int32) (a2 : Int32) (σ : Hp) : Option (Int32 × Hp) :=
  cr (f_X11_within a2 (4 : Int32)) fun v1 => jn (f_X11_room_j14 a1 a2 σ) fun k14 => if v1 = 0 then k14 (1 : Int32) else k14 (0 : Int32)
def f_X6_digit_j29 (t1 : Int32) : Option (Int32) :=
  some t1
def f_X6_digit_j28 (k29 : Int32 → Option (Int32)) (t2 : Unit) : Option (Int32) :=
  k29 (-1 : Int32)
def f_X6_digit (σ : Hp) : Option (Int32) :=
  jn (f_X6_digit_j29) fun k29 => jn (f_X6_digit_j28 k29) fun k28 => if (σ.1 29 3) < (48 : Int32) then k28 () else if (57 : Int32) < (σ.1 29 3) then k28 () else k29 ((σ.1 29 3) - (48 : Int32))
def f_X6_go_j51 (σ1 : Hp) (t2 : Int32) : Option (Hp) :=
  lt (sI σ1 29 3 t2) fun σ3 => some σ3
def f_X6_go_j50 (k51 : Int32 → Option (Hp)) (t4 : Unit) : Option (Hp) :=
  k51 (-1 : Int32)
def f_X6_go (σ : Hp) : Option (Hp) :=
  lt (sI σ 29 2 ((σ.1 29 2) + (1 : Int32))) fun σ1 => jn (f_X6_go_j51 σ1) fun k51 => jn (f_X6_go_j50 k51) fun k50 => if (σ1.1 29 2) < 0 then k50 () else if (σ1.1 29 1) ≤ (σ1.1 29 2) then k50 () else if (40 : Int32) ≤ (σ1.1 29 2) then k50 () else ldI σ1 30 40 (σ1.1 29 2) fun v5 => k51 v5
def f_X6_skip (a1 : Int32) (σ : Hp) : Option (Int32 × Hp) :=
  if (σ.1 29 3) = a1 then cr (f_X6_go σ) fun σ1 => ckZ (1 : Int32) (some ((1 : Int32), σ1)) else ckZ (0 : Int32) (some ((0 : Int32), σ))
def f_X6_add (a1 : Int32) (σ : Hp) : Option (Hp) :=
  if (40 : Int32) ≤ (σ.1 29 7) then some σ else stI σ 31 40 (σ.1 29 7) a1 fun σ1 => lt (sI σ1 29 7 ((σ1.1 29 7) + (1 : Int32))) fun σ2 => some σ2
def f_X6_among_j55 (t1 : Int32) : Option (Int32) :=
  some t1
def f_X6_among (a1 : Int32) (a2 : Int32) (a3 : Int32) (a4 : Int32) (a5 : Int32) (σ : Hp) : Option (Int32) :=
  if (σ.1 29 3) = a1 then some (0 : Int32) else if (σ.1 29 3) = a2 then some (1 : Int32) else if (σ.1 29 3) = a3 then some (2 : Int32) else if (σ.1 29 3) = a4 then some (3 : Int32) else jn (f_X6_among_j55) fun k55 => if (σ.1 29 3) = a5 then k55 (4 : Int32) else k55 (-1 : Int32)
def f_X6_number_l17 (kl17 : (Int32 × Int32 × Hp) → Option (Int32 × Hp)) (t3 : Int32 × Int32 × Hp) : Option (Int32 × Hp) :=
  if (5 : Int32) ≤ t3.2.1 then some (t3.1, t3.2.2) else cr (f_X6_digit t3.2.2) fun v4 => if v4 < 0 then some (t3.1, t3.2.2) else cr (f_X6_digit t3.2.2) fun v5 => lt ((t3.1 * (10 : Int32)) + v5) fun x6 => cr (f_X6_go t3.2.2) fun σ7 => lt (t3.2.1 + (1 : Int32)) fun x8 => kl17 (x6, x8, σ7)
def f_X6_number (σ : Hp) : Option (Int32 × Hp) :=
  cr (f_X6_digit σ) fun v1 => if 0 ≤ v1 then cr (f_X6_go σ) fun σ2 => lp (f_X6_number_l17) FU (v1, (1 : Int32), σ2) else some ((-1 : Int32), σ)
def f_X6_comparison_j47 (v1 : Int32) (t3 : Int32 × Hp) : Option (Int32 × Hp) :=
  cr (f_X6_among (60 : Int32) (61 : Int32) (62 : Int32) (62 : Int32) (62 : Int32) t3.2) fun v4 => if 0 ≤ v4 then cr (f_X6_go t3.2) fun σ5 => cl (f_X6_number σ5) fun v6 σ7 => if 0 ≤ v6 then cr (f_X6_add (((((3 : Int32) ||| (v1 <<< ((2 : Int32) &&& 31))) ||| (t3.1 <<< ((5 : Int32) &&& 31))) ||| (v4 <<< ((9 : Int32) &&& 31))) ||| (v6 <<< ((11 : Int32) &&& 31))) σ7) fun σ8 => ckZ (1 : Int32) (some ((1 : Int32), σ8)) else ckZ (0 : Int32) (some ((0 : Int32), σ7)) else ckZ (0 : Int32) (some ((0 : Int32), t3.2))
def f_X6_comparison (σ : Hp) : Option (Int32 × Hp) :=
  cr (f_X6_among (114 : Int32) (119 : Int32) (118 : Int32) (112 : Int32) (116 : Int32) σ) fun v1 => if 0 ≤ v1 then cr (f_X6_go σ) fun σ2 => jn (f_X6_comparison_j47 v1) fun k47 => if v1 = (4 : Int32) then k47 ((0 : Int32), σ2) else cr (f_X6_digit σ2) fun v9 => if 0 ≤ v9 then cr (f_X6_go σ2) fun σ10 => k47 (v9, σ10) else ckZ (0 : Int32) (some ((0 : Int32), σ2)) else ckZ (0 : Int32) (some ((0 : Int32), σ))
def f_X6_part_j72 (t6 : Int32 × Hp) : Option (Int32 × Hp) :=
  ckZ t6.1 (some (t6.1, t6.2))
def f_X6_part_j71 (k72 : (Int32 × Hp) → Option (Int32 × Hp)) (t7 : Hp) : Option (Int32 × Hp) :=
  k72 ((0 : Int32), t7)
def f_X6_part_j33 (a1 : Int32) (gtest : Int32 → Hp → Option (Int32 × Hp)) (gpart : Int32 → Hp → Option (Int32 × Hp)) (σ : Hp) (t1 : Int32) (t2 : Unit) : Option (Int32 × Hp) :=
  if a1 < (4 : Int32) then cr (f_X6_go σ) fun σ3 => if t1 = 0 then cl (gtest (a1 + (1 : Int32)) σ3) fun v4 σ5 => jn (f_X6_part_j72) fun k72 => jn (f_X6_part_j71 k72) fun k71 => if v4 = 0 then k71 σ5 else cl (f_X6_skip (41 : Int32) σ5) fun v8 σ9 => if v8 = 0 then k71 σ9 else k72 ((1 : Int32), σ9) else cl (gpart (a1 + (1 : Int32)) σ3) fun v10 σ11 => if v10 = 0 then ckZ (0 : Int32) (some ((0 : Int32), σ11)) else cr (f_X6_add (0 : Int32) σ11) fun σ12 => ckZ (1 : Int32) (some ((1 : Int32), σ12)) else ckZ (0 : Int32) (some ((0 : Int32), σ))
def f_X6_part_j14 (a1 : Int32) (gtest : Int32 → Hp → Option (Int32 × Hp)) (gpart : Int32 → Hp → Option (Int32 × Hp)) (σ : Hp) (t1 : Int32) : Option (Int32 × Hp) :=
  jn (f_X6_part_j33 a1 gtest gpart σ t1) fun k33 => if t1 = 0 then if (σ.1 29 3) = (40 : Int32) then k33 () else cl (f_X6_comparison σ) fun v13 σ14 => ckZ v13 (some (v13, σ14)) else k33 ()
def f_X6_part (gtest gterm gpart : Int32 → Hp → Option (Int32 × Hp)) (a1 : Int32) (σ : Hp) : Option (Int32 × Hp) :=
  jn (f_X6_part_j14 a1 gtest gpart σ) fun k14 => if (σ.1 29 3) = (33 : Int32) then k14 (1 : Int32) else k14 (0 : Int32)
def f_X6_term_l12 (a1 : Int32) (gpart : Int32 → Hp → Option (Int32 × Hp)) (kl12 : (Int32 × Hp) → Option (Int32 × Hp)) (t3 : Int32 × Hp) : Option (Int32 × Hp) :=
  if (40 : Int32) ≤ t3.1 then ckZ (1 : Int32) (some ((1 : Int32), t3.2)) else cl (f_X6_skip (38 : Int32) t3.2) fun v4 σ5 => if v4 = 0 then ckZ (1 : Int32) (some ((1 : Int32), σ5)) else cl (gpart a1 σ5) fun v6 σ7 => if v6 = 0 then ckZ (0 : Int32) (some ((0 : Int32), σ7)) else cr (f_X6_add (1 : Int32) σ7) fun σ8 => lt (t3.1 + (1 : Int32)) fun x9 => kl12 (x9, σ8)
def f_X6_term (gtest gterm gpart : Int32 → Hp → Option (Int32 × Hp)) (a1 : Int32) (σ : Hp) : Option (Int32 × Hp) :=
  cl (gpart a1 σ) fun v1 σ2 => if v1 = 0 then ckZ (0 : Int32) (some ((0 : Int32), σ2)) else lp (f_X6_term_l12 a1 gpart) FU ((0 : Int32), σ2)
def f_X6_test_l12 (a1 : Int32) (gterm : Int32 → Hp → Option (Int32 × Hp)) (kl12 : (Int32 × Hp) → Option (Int32 × Hp)) (t3 : Int32 × Hp) : Option (Int32 × Hp) :=
  if (40 : Int32) ≤ t3.1 then ckZ (1 : Int32) (some ((1 : Int32), t3.2)) else cl (f_X6_skip (124 : Int32) t3.2) fun v4 σ5 => if v4 = 0 then ckZ (1 : Int32) (some ((1 : Int32), σ5)) else cl (gterm a1 σ5) fun v6 σ7 => if v6 = 0 then ckZ (0 : Int32) (some ((0 : Int32), σ7)) else cr (f_X6_add (2 : Int32) σ7) fun σ8 => lt (t3.1 + (1 : Int32)) fun x9 => kl12 (x9, σ8)
def f_X6_test (gtest gterm gpart : Int32 → Hp → Option (Int32 × Hp)) (a1 : Int32) (σ : Hp) : Option (Int32 × Hp) :=
  cl (gterm a1 σ) fun v1 σ2 => if v1 = 0 then ckZ (0 : Int32) (some ((0 : Int32), σ2)) else lp (f_X6_test_l12 a1 gterm) FU ((0 : Int32), σ2)
def f_X6_tpp : Nat → Nat → Int32 → Hp → Option (Int32 × Hp)
  | 0, _ => fun _ _ => none
  | n + 1, 0 => f_X6_test (f_X6_tpp n 0) (f_X6_tpp n 1) (f_X6_tpp n 2)
  | n + 1, 1 => f_X6_term (f_X6_tpp n 0) (f_X6_tpp n 1) (f_X6_tpp n 2)
  | n + 1, _ + 2 => f_X6_part (f_X6_tpp n 0) (f_X6_tpp n 1) (f_X6_tpp n 2)
def f_X6_parses_j106 (t14 : Int32 × Hp) : Option (Int32 × Hp) :=
  ckZ t14.1 (some (t14.1, t14.2))
def f_X6_parses_j105 (k106 : (Int32 × Hp) → Option (Int32 × Hp)) (t15 : Hp) : Option (Int32 × Hp) :=
  k106 ((0 : Int32), t15)
def f_X6_parses_j52 (t8 : Hp) : Option (Int32 × Hp) :=
  cr (f_X6_digit t8) fun v9 => lt (sI t8 29 5 v9) fun σ10 => if 0 ≤ (σ10.1 29 5) then cr (f_X6_go σ10) fun σ11 => cl (f_X6_skip (58 : Int32) σ11) fun v12 σ13 => jn (f_X6_parses_j106) fun k106 => jn (f_X6_parses_j105 k106) fun k105 => if v12 = 0 then k105 σ13 else cl (f_X6_tpp 24 0 (0 : Int32) σ13) fun v16 σ17 => if v16 = 0 then k105 σ17 else if (σ17.1 29 2) = (σ17.1 29 1) then k106 ((1 : Int32), σ17) else k105 σ17 else ckZ (0 : Int32) (some ((0 : Int32), σ10))
def f_X6_parses_j29 (σ3 : Hp) (t4 : Int32) : Option (Int32 × Hp) :=
  ckZ t4 <| lt (sI σ3 29 4 t4) fun σ5 => cl (f_X6_skip (80 : Int32) σ5) fun v6 σ7 => jn (f_X6_parses_j52) fun k52 => if v6 = 0 then cl (f_X6_skip (86 : Int32) σ7) fun v18 σ19 => if v18 = 0 then ckZ (0 : Int32) (some ((0 : Int32), σ19)) else k52 σ19 else k52 σ7
def f_X6_parses (σ : Hp) : Option (Int32 × Hp) :=
  lt (sI σ 29 7 (0 : Int32)) fun σ1 => lt (sI σ1 29 2 (-1 : Int32)) fun σ2 => cr (f_X6_go σ2) fun σ3 => jn (f_X6_parses_j29 σ3) fun k29 => if (σ3.1 29 3) = (80 : Int32) then k29 (1 : Int32) else k29 (0 : Int32)
def f_X8_add_j95 (σ5 : Hp) (t6 : Int32) : Option (Int32 × Hp) :=
  lt (sI σ5 32 4 ((σ5.1 32 4) ||| t6)) fun σ7 => lt (sI σ7 32 2 ((σ7.1 32 2) + (1 : Int32))) fun σ8 => some ((σ7.1 32 2), σ8)
def f_X8_add (σ : Hp) : Option (Int32 × Hp) :=
  if (σ.1 32 2) < (16 : Int32) then stI σ 33 16 (σ.1 32 2) (σ.1 29 5) fun σ1 => stI σ1 34 16 (σ1.1 32 2) (σ1.1 29 7) fun σ2 => ldA 35 16 (σ2.1 32 2) fun r3 => cpI σ2 31 40 r3 40 (0 : Int32) (0 : Int32) (40 : Int32) fun σ4 => lt (sI σ4 32 3 ((σ4.1 32 3) ||| ((1 : Int32) <<< ((σ4.1 32 2) &&& 31)))) fun σ5 => jn (f_X8_add_j95 σ5) fun k95 => if (σ5.1 29 4) = 0 then k95 (0 : Int32) else k95 ((1 : Int32) <<< ((σ5.1 32 2) &&& 31)) else some ((-9 : Int32), σ)
def f_X11_rule_j65 (t5 : Int32 × Hp) : Option (Int32 × Hp) :=
  some (t5.1, t5.2)
def f_X11_rule (σ : Hp) : Option (Int32 × Hp) :=
  if (σ.1 32 2) < (16 : Int32) then cl (f_X6_parses σ) fun v1 σ2 => lt (σ2.1 29 2) fun x3 => lt (sI σ2 29 1 (0 : Int32)) fun σ4 => jn (f_X11_rule_j65) fun k65 => if v1 = 0 then k65 (((-20 : Int32) - x3), σ4) else cl (f_X8_add σ4) fun v6 σ7 => k65 (v6, σ7) else cl (f_X11_refuse (-6 : Int32) σ) fun v8 σ9 => some (v8, σ9)
def f_X9_addSight (a1 : Int32) (a2 : Int32) (σ : Hp) : Option (Int32 × Hp) :=
  if (20 : Int32) ≤ (σ.1 77 4) then some ((σ.1 77 4), σ) else stI σ 81 20 (σ.1 77 4) a1 fun σ1 => stZ σ1 82 20 (σ1.1 77 4) a2 fun σ2 => lt (sI σ2 77 4 ((σ2.1 77 4) + (1 : Int32))) fun σ3 => some ((σ3.1 77 4), σ3)
def f_X11_seen_j57 (t5 : Int32 × Hp) : Option (Int32 × Hp) :=
  some (t5.1, t5.2)
def f_X11_seen_j36 (a1 : Int32) (a2 : Int32) (σ : Hp) (t1 : Int32) (t2 : Int32) : Option (Int32 × Hp) :=
  cl (f_X11_refusal (0 : Int32) (0 : Int32) t1 t2 σ) fun v3 σ4 => jn (f_X11_seen_j57) fun k57 => if v3 = 0 then cl (f_X9_addSight a1 a2 σ4) fun v6 σ7 => k57 (v6, σ7) else k57 (v3, σ4)
def f_X11_seen_j31 (k36 : Int32 → Option (Int32 × Hp)) (t8 : Unit) : Option (Int32 × Hp) :=
  k36 (1 : Int32)
def f_X11_seen_j12 (a1 : Int32) (a2 : Int32) (σ : Hp) (t1 : Int32) : Option (Int32 × Hp) :=
  jn (f_X11_seen_j36 a1 a2 σ t1) fun k36 => jn (f_X11_seen_j31 k36) fun k31 => if (9999 : Int32) < a1 then k31 () else if (σ.1 77 4) < (20 : Int32) then k36 (0 : Int32) else k31 ()
def f_X11_seen (a1 : Int32) (a2 : Int32) (σ : Hp) : Option (Int32 × Hp) :=
  jn (f_X11_seen_j12 a1 a2 σ) fun k12 => if 0 ≤ a1 then k12 (0 : Int32) else k12 (1 : Int32)
def f_X11_sees_j43 (a1 : Int32) (a2 : Int32) (a3 : Int32) (σ : Hp) (t2 : Int32) (t3 : Int32) (t4 : Int32) : Option (Int32 × Hp) :=
  cl (f_X11_refusal t2 (0 : Int32) t3 t4 σ) fun v5 σ6 => if v5 = 0 then lt ((a1 * (3 : Int32)) + a2) fun x7 => ldI σ6 68 9 x7 fun v8 => stI σ6 68 9 x7 a3 fun σ9 => some (v8, σ9) else some (v5, σ6)
def f_X11_sees_j32 (a1 : Int32) (a2 : Int32) (a3 : Int32) (σ : Hp) (t2 : Int32) (t3 : Int32) : Option (Int32 × Hp) :=
  jn (f_X11_sees_j43 a1 a2 a3 σ t2 t3) fun k43 => if a3 ≤ (9 : Int32) then k43 (0 : Int32) else k43 (1 : Int32)
def f_X11_sees_j22 (a1 : Int32) (a2 : Int32) (a3 : Int32) (σ : Hp) (t2 : Int32) : Option (Int32 × Hp) :=
  jn (f_X11_sees_j32 a1 a2 a3 σ t2) fun k32 => if 0 ≤ a3 then k32 (0 : Int32) else k32 (1 : Int32)
def f_X11_sees_j17 (k22 : Int32 → Option (Int32 × Hp)) (t10 : Unit) : Option (Int32 × Hp) :=
  k22 (1 : Int32)
def f_X11_sees (a1 : Int32) (a2 : Int32) (a3 : Int32) (σ : Hp) : Option (Int32 × Hp) :=
  cr (f_X11_within a1 (3 : Int32)) fun v1 => jn (f_X11_sees_j22 a1 a2 a3 σ) fun k22 => jn (f_X11_sees_j17 k22) fun k17 => if v1 = 0 then k17 () else cr (f_X11_within a2 (3 : Int32)) fun v11 => if v11 = 0 then k17 () else k22 (0 : Int32)
def f_X9_addSpray (a1 : Int32) (a2 : Int32) (σ : Hp) : Option (Int32 × Hp) :=
  if (20 : Int32) ≤ (σ.1 77 1) then some ((σ.1 77 1), σ) else stI σ 79 20 (σ.1 77 1) a1 fun σ1 => stI σ1 80 20 (σ1.1 77 1) a2 fun σ2 => lt (sI σ2 77 1 ((σ2.1 77 1) + (1 : Int32))) fun σ3 => some ((σ3.1 77 1), σ3)
def f_X11_spray_j70 (t7 : Int32 × Hp) : Option (Int32 × Hp) :=
  some (t7.1, t7.2)
def f_X11_spray_j49 (a1 : Int32) (a2 : Int32) (σ : Hp) (t2 : Int32) (t3 : Int32) (t4 : Int32) : Option (Int32 × Hp) :=
  cl (f_X11_refusal t2 (0 : Int32) t3 t4 σ) fun v5 σ6 => jn (f_X11_spray_j70) fun k70 => if v5 = 0 then cl (f_X9_addSpray a1 a2 σ6) fun v8 σ9 => k70 (v8, σ9) else k70 (v5, σ6)
def f_X11_spray_j44 (k49 : Int32 → Option (Int32 × Hp)) (t10 : Unit) : Option (Int32 × Hp) :=
  k49 (1 : Int32)
def f_X11_spray_j25 (a1 : Int32) (a2 : Int32) (σ : Hp) (t2 : Int32) (t3 : Int32) : Option (Int32 × Hp) :=
  jn (f_X11_spray_j49 a1 a2 σ t2 t3) fun k49 => jn (f_X11_spray_j44 k49) fun k44 => if (9999 : Int32) < a2 then k44 () else if (σ.1 77 1) < (20 : Int32) then k49 (0 : Int32) else k44 ()
def f_X11_spray_j15 (a1 : Int32) (a2 : Int32) (σ : Hp) (t2 : Int32) : Option (Int32 × Hp) :=
  jn (f_X11_spray_j25 a1 a2 σ t2) fun k25 => if 0 ≤ a2 then k25 (0 : Int32) else k25 (1 : Int32)
def f_X11_spray (a1 : Int32) (a2 : Int32) (σ : Hp) : Option (Int32 × Hp) :=
  cr (f_X11_within a1 (8 : Int32)) fun v1 => jn (f_X11_spray_j15 a1 a2 σ) fun k15 => if v1 = 0 then k15 (1 : Int32) else k15 (0 : Int32)
def f_X2_draw_j23 (a3 : Int32) (σ : Hp) (x1 : Int32) (t3 : Int32) : Option (Int32 × Hp) :=
  stZ σ 64 25 x1 a3 fun σ4 => ckZ t3 (some (t3, σ4))
def f_X2_draw (a1 : Int32) (a2 : Int32) (a3 : Int32) (σ : Hp) : Option (Int32 × Hp) :=
  lt ((a2 * (5 : Int32)) + a1) fun x1 => ldI σ 64 25 x1 fun v2 => jn (f_X2_draw_j23 a3 σ x1) fun k23 => if v2 = a3 then k23 (0 : Int32) else k23 (1 : Int32)
def f_X11_square_j16 (σ : Hp) (t2 : Unit) : Option (Int32 × Hp) :=
  cl (f_X11_refuse (-1 : Int32) σ) fun v3 σ4 => some (v3, σ4)
def f_X11_square_j40 (σ7 : Hp) (t8 : Int32) : Option (Int32 × Hp) :=
  some (t8, σ7)
def f_X11_square (a1 : Int32) (a2 : Int32) (a3 : Int32) (σ : Hp) : Option (Int32 × Hp) :=
  cr (f_X11_within a1 (5 : Int32)) fun v1 => jn (f_X11_square_j16 σ) fun k16 => if v1 = 0 then k16 () else cr (f_X11_within a2 (5 : Int32)) fun v5 => if v5 = 0 then k16 () else cl (f_X2_draw a1 a2 a3 σ) fun v6 σ7 => jn (f_X11_square_j40 σ7) fun k40 => if v6 = 0 then k40 (0 : Int32) else k40 (1 : Int32)
def f_X1_tell (a1 : Int32) (a2 : Int32) (a3 : Int32) (a4 : Int32) (a5 : Int32) (σ : Hp) : Option (Hp) :=
  stI σ 73 4 a1 a2 fun σ1 => stI σ1 74 4 a1 a3 fun σ2 => stI σ2 75 4 a1 a4 fun σ3 => stI σ3 76 4 a1 a5 fun σ4 => some σ4
def f_X11_stage_j72 (a1 : Int32) (a2 : Int32) (a3 : Int32) (a4 : Int32) (a5 : Int32) (σ : Hp) (t2 : Int32) (t3 : Int32) (t4 : Int32) : Option (Int32 × Hp) :=
  cl (f_X11_refusal t2 (0 : Int32) t3 t4 σ) fun v5 σ6 => if v5 = 0 then cr (f_X1_tell a1 a2 a3 a4 a5 σ6) fun σ7 => some ((1 : Int32), σ7) else some (v5, σ6)
def f_X11_stage_j67 (k72 : Int32 → Option (Int32 × Hp)) (t8 : Unit) : Option (Int32 × Hp) :=
  k72 (1 : Int32)
def f_X11_stage_j39 (a1 : Int32) (a2 : Int32) (a3 : Int32) (a4 : Int32) (a5 : Int32) (σ : Hp) (t2 : Int32) (t3 : Int32) : Option (Int32 × Hp) :=
  jn (f_X11_stage_j72 a1 a2 a3 a4 a5 σ t2 t3) fun k72 => jn (f_X11_stage_j67 k72) fun k67 => if (299 : Int32) < a2 then k67 () else if (99 : Int32) < a3 then k67 () else if (99 : Int32) < a4 then k67 () else if a5 ≤ (9999 : Int32) then k72 (0 : Int32) else k67 ()
def f_X11_stage_j34 (k39 : Int32 → Option (Int32 × Hp)) (t9 : Unit) : Option (Int32 × Hp) :=
  k39 (1 : Int32)
def f_X11_stage_j14 (a1 : Int32) (a2 : Int32) (a3 : Int32) (a4 : Int32) (a5 : Int32) (σ : Hp) (t2 : Int32) : Option (Int32 × Hp) :=
  jn (f_X11_stage_j39 a1 a2 a3 a4 a5 σ t2) fun k39 => jn (f_X11_stage_j34 k39) fun k34 => if a2 < 0 then k34 () else if a3 < (1 : Int32) then k34 () else if a4 < 0 then k34 () else if 0 ≤ a5 then k39 (0 : Int32) else k34 ()
def f_X11_stage (a1 : Int32) (a2 : Int32) (a3 : Int32) (a4 : Int32) (a5 : Int32) (σ : Hp) : Option (Int32 × Hp) :=
  cr (f_X11_within a1 (4 : Int32)) fun v1 => jn (f_X11_stage_j14 a1 a2 a3 a4 a5 σ) fun k14 => if v1 = 0 then k14 (1 : Int32) else k14 (0 : Int32)
def f_X0_dropFirst (σ : Hp) : Option (Hp) :=
  cpI σ 26 30 26 30 (1 : Int32) (0 : Int32) (29 : Int32) fun σ1 => cpI σ1 27 30 27 30 (1 : Int32) (0 : Int32) (29 : Int32) fun σ2 => cpI σ2 28 30 28 30 (1 : Int32) (0 : Int32) (29 : Int32) fun σ3 => lt (sI σ3 25 3 (29 : Int32)) fun σ4 => some σ4
def f_X0_perform_j13 (a1 : Int32) (a2 : Int32) (t1 : Hp) : Option (Hp) :=
  stI t1 26 30 (t1.1 25 3) a1 fun σ2 => stI σ2 27 30 (σ2.1 25 3) a2 fun σ3 => stI σ3 28 30 (σ3.1 25 3) (σ3.1 1 15) fun σ4 => lt (sI σ4 25 4 (1 : Int32)) fun σ5 => cl (f_X0_repeat σ5) fun v6 σ7 => lt (sI σ7 25 4 (0 : Int32)) fun σ8 => some σ8
def f_X0_perform (a1 : Int32) (a2 : Int32) (σ : Hp) : Option (Hp) :=
  jn (f_X0_perform_j13 a1 a2) fun k13 => if (σ.1 25 3) = (30 : Int32) then cr (f_X0_dropFirst σ) fun σ9 => k13 σ9 else k13 σ
def f_X11_start_j103 (a1 : Int32) (σ : Hp) (t6 : Unit) : Option (Int32 × Hp) :=
  cr (f_X0_perform (1 : Int32) a1 σ) fun σ7 => some ((1 : Int32), σ7)
def f_X11_start_j71 (a1 : Int32) (a2 : Int32) (σ : Hp) (t5 : Unit) : Option (Int32 × Hp) :=
  jn (f_X11_start_j103 a1 σ) fun k103 => if a2 = 0 then k103 () else cr (f_X8_forbidder a1 (1 : Int32) (σ.1 1 15) σ) fun v8 => if v8 = (-9 : Int32) then k103 () else cl (f_X11_refuse (-7 : Int32) σ) fun v9 σ10 => some (v9, σ10)
def f_X11_start_j40 (a1 : Int32) (a2 : Int32) (σ : Hp) (t4 : Int32) : Option (Int32 × Hp) :=
  if (((σ.1 1 15) >>> (a1 &&& 31)) &&& (1 : Int32)) = t4 then some ((0 : Int32), σ) else jn (f_X11_start_j71 a1 a2 σ) fun k71 => if a2 = 0 then k71 () else if (((σ.1 13 1) >>> (a1 &&& 31)) &&& (1 : Int32)) = (1 : Int32) then cl (f_X11_refuse (-3 : Int32) σ) fun v11 σ12 => some (v11, σ12) else k71 ()
def f_X11_start (a1 : Int32) (a2 : Int32) (σ : Hp) : Option (Int32 × Hp) :=
  cr (f_X11_within a1 (σ.1 1 11)) fun v1 => if v1 = 0 then cl (f_X11_refuse (-1 : Int32) σ) fun v2 σ3 => some (v2, σ3) else jn (f_X11_start_j40 a1 a2 σ) fun k40 => if a2 = 0 then k40 (0 : Int32) else k40 (1 : Int32)
def f_X4_held (g : Nat) (a1 : Int32) (σ : Hp) : Option (Int32) :=
  ldI σ (g + 3) 24 (a1 * (3 : Int32)) fun v1 => ldI σ (g + 3) 24 ((a1 * (3 : Int32)) + (1 : Int32)) fun v2 => ldI σ (g + 3) 24 ((a1 * (3 : Int32)) + (2 : Int32)) fun v3 => some ((v1 + v2) + v3)
def f_X4_draw_j90 (g : Nat) (a1 : Int32) (t4 : Int32 × Hp) (kl21 : (Int32 × Hp) → Option (Hp)) (x5 : Int32) (t10 : Int64) : Option (Hp) :=
  ldI t4.2 (g + 1) 15 x5 fun v11 => stI t4.2 (g + 1) 15 x5 (v11 - t10.toInt32) fun σ12 => ldI σ12 (g + 3) 24 ((a1 * (3 : Int32)) + t4.1) fun v13 => stI σ12 (g + 3) 24 ((a1 * (3 : Int32)) + t4.1) (v13 + t10.toInt32) fun σ14 => lt (t4.1 + (1 : Int32)) fun x15 => kl21 (x15, σ14)
def f_X4_draw_l21 (g : Nat) (a1 : Int32) (v1 : Int32) (x3 : Int64) (kl21 : (Int32 × Hp) → Option (Hp)) (t4 : Int32 × Hp) : Option (Hp) :=
  if (3 : Int32) ≤ t4.1 then some t4.2 else lt ((v1 * (3 : Int32)) + t4.1) fun x5 => ldI t4.2 (g + 1) 15 x5 fun v6 => ldI t4.2 11 24 ((a1 * (3 : Int32)) + t4.1) fun v7 => dvJ x3 <| lt ((v6.toInt64 * v7.toInt64) / x3) fun x8 => ldI t4.2 12 8 a1 fun v9 => jn (f_X4_draw_j90 g a1 t4 kl21 x5) fun k90 => if v9 ≤ 0 then k90 x8 else ldI t4.2 12 8 a1 fun v16 => cr (f_X4_held g a1 t4.2) fun v17 => lt (if (v16 - v17).toInt64 < x8 then (v16 - v17).toInt64 else x8) fun x18 => k90 x18
def f_X4_draw (g : Nat) (a1 : Int32) (σ : Hp) : Option (Hp) :=
  ldI σ 10 8 a1 fun v1 => cr (f_X5_divisor v1 σ) fun v2 => lt ((100 : Int64) * v2) fun x3 => lp (f_X4_draw_l21 g a1 v1 x3) FU ((0 : Int32), σ)
def f_X4_flow_l14 (g : Nat) (a1 : Int32) (a2 : Int32) (a3 : Int32) (x2 : Int64) (kl14 : (Int32 × Hp) → Option (Hp)) (t3 : Int32 × Hp) : Option (Hp) :=
  if (3 : Int32) ≤ t3.1 then some t3.2 else lt ((a1 * (3 : Int32)) + t3.1) fun x4 => ldI t3.2 (g + 5) 15 x4 fun v5 => dvJ x2 <| lt ((v5.toInt64 * a3.toInt64) / x2) fun x6 => ldI t3.2 (g + 1) 15 x4 fun v7 => lt (if v7.toInt64 < x6 then v7.toInt64 else x6).toInt32 fun x8 => ldI t3.2 (g + 1) 15 x4 fun v9 => stI t3.2 (g + 1) 15 x4 (v9 - x8) fun σ10 => ldI σ10 (g + 1) 15 ((a2 * (3 : Int32)) + t3.1) fun v11 => stI σ10 (g + 1) 15 ((a2 * (3 : Int32)) + t3.1) (v11 + x8) fun σ12 => lt (t3.1 + (1 : Int32)) fun x13 => kl14 (x13, σ12)
def f_X4_flow (g : Nat) (a1 : Int32) (a2 : Int32) (a3 : Int32) (σ : Hp) : Option (Hp) :=
  cr (f_X5_divisor a1 σ) fun v1 => lt ((100 : Int64) * v1) fun x2 => lp (f_X4_flow_l14 g a1 a2 a3 x2) FU ((0 : Int32), σ)
def f_X4_giveBack_j67 (g : Nat) (a1 : Int32) (t1 : Hp) : Option (Hp) :=
  cr (f_X4_held g a1 t1) fun v2 => if v2 = 0 then lt (sI t1 g 1 ((t1.1 g 1) &&& (((1 : Int32) <<< (a1 &&& 31)) ^^^ (-1 : Int32)))) fun σ3 => some σ3 else some t1
def f_X4_giveBack_l2 (g : Nat) (a1 : Int32) (k67 : Hp → Option (Hp)) (kl2 : (Int32 × Hp) → Option (Hp)) (t4 : Int32 × Hp) : Option (Hp) :=
  if (3 : Int32) ≤ t4.1 then k67 t4.2 else lt ((a1 * (3 : Int32)) + t4.1) fun x5 => ldI t4.2 (g + 3) 24 x5 fun v6 => dvI (10 : Int32) <| lt ((v6 + (9 : Int32)) / (10 : Int32)) fun x7 => ldI t4.2 (g + 3) 24 x5 fun v8 => stI t4.2 (g + 3) 24 x5 (v8 - x7) fun σ9 => ldI σ9 10 8 a1 fun v10 => ldI σ9 (g + 1) 15 ((v10 * (3 : Int32)) + t4.1) fun v11 => stI σ9 (g + 1) 15 ((v10 * (3 : Int32)) + t4.1) (v11 + x7) fun σ12 => lt (t4.1 + (1 : Int32)) fun x13 => kl2 (x13, σ12)
def f_X4_giveBack (g : Nat) (a1 : Int32) (σ : Hp) : Option (Hp) :=
  jn (f_X4_giveBack_j67 g a1) fun k67 => lp (f_X4_giveBack_l2 g a1 k67) FU ((0 : Int32), σ)
def f_X5_givenShare (a1 : Int32) (σ : Hp) : Option (Int32) :=
  ldI σ 3 5 a1 fun v1 => ldI σ 4 5 a1 fun v2 => ldI σ 5 40 ((v1 * (10 : Int32)) + v2) fun v3 => some v3
def f_X4_giveOff_j79 (t1 : Int32 × Hp) (kl2 : (Int32 × Hp) → Option (Hp)) (t4 : Hp) : Option (Hp) :=
  lt (t1.1 + (1 : Int32)) fun x5 => kl2 (x5, t4)
def f_X4_giveOff_l21 (g : Nat) (t1 : Int32 × Hp) (v2 : Int32) (k79 : Hp → Option (Hp)) (kl21 : (Int32 × Hp) → Option (Hp)) (t6 : Int32 × Hp) : Option (Hp) :=
  if ((t1.1 * (3 : Int32)) + (3 : Int32)) ≤ t6.1 then k79 t6.2 else ldI t6.2 (g + 2) 15 t6.1 fun v7 => dvJ (1000 : Int64) <| lt ((v7.toInt64 * v2.toInt64) / (1000 : Int64)).toInt32 fun x8 => ldI t6.2 (g + 2) 15 t6.1 fun v9 => stI t6.2 (g + 2) 15 t6.1 (v9 - x8) fun σ10 => ldI σ10 (g + 1) 15 t6.1 fun v11 => stI σ10 (g + 1) 15 t6.1 (v11 + x8) fun σ12 => lt (t6.1 + (1 : Int32)) fun x13 => kl21 (x13, σ12)
def f_X4_giveOff_l2 (g : Nat) (kl2 : (Int32 × Hp) → Option (Hp)) (t1 : Int32 × Hp) : Option (Hp) :=
  if (t1.2.1 1 0) ≤ t1.1 then some t1.2 else cr (f_X5_givenShare t1.1 t1.2) fun v2 => lt (t1.1 * (3 : Int32)) fun x3 => jn (f_X4_giveOff_j79 t1 kl2) fun k79 => lp (f_X4_giveOff_l21 g t1 v2 k79) FU (x3, t1.2)
def f_X4_giveOff (g : Nat) (σ : Hp) : Option (Hp) :=
  lp (f_X4_giveOff_l2 g) FU ((0 : Int32), σ)
def f_X4_leakIn_l2 (g : Nat) (kl2 : (Int32 × Hp) → Option (Hp)) (t1 : Int32 × Hp) : Option (Hp) :=
  if ((t1.2.1 1 0) * (3 : Int32)) ≤ t1.1 then some t1.2 else ldI t1.2 (g + 1) 15 t1.1 fun v2 => ldI t1.2 6 15 t1.1 fun v3 => stI t1.2 (g + 1) 15 t1.1 (v2 + v3) fun σ4 => dvI (3 : Int32) <| ldI σ4 (g + 4) 3 (t1.1 - t1.1 / (3 : Int32) * (3 : Int32)) fun v5 => ldI σ4 6 15 t1.1 fun v6 => stI σ4 (g + 4) 3 (t1.1 - t1.1 / (3 : Int32) * (3 : Int32)) (v5 + v6) fun σ7 => lt (t1.1 + (1 : Int32)) fun x8 => kl2 (x8, σ7)
def f_X4_leakIn (g : Nat) (σ : Hp) : Option (Hp) :=
  lp (f_X4_leakIn_l2 g) FU ((0 : Int32), σ)
def f_X4_pass_j167 (g : Nat) (t6 : Hp) : Option (Hp) :=
  lt (sI t6 g 0 ((t6.1 g 0) + (1 : Int32))) fun σ7 => some σ7
def f_X4_pass_j161 (t8 : Int32 × Hp) (kl135 : (Int32 × Hp) → Option (Hp)) (t9 : Hp) : Option (Hp) :=
  lt (t8.1 + (1 : Int32)) fun x10 => kl135 (x10, t9)
def f_X4_pass_l135 (g : Nat) (k167 : Hp → Option (Hp)) (kl135 : (Int32 × Hp) → Option (Hp)) (t8 : Int32 × Hp) : Option (Hp) :=
  if (t8.2.1 1 11) ≤ t8.1 then k167 t8.2 else jn (f_X4_pass_j161 t8 kl135) fun k161 => if (((t8.2.1 g 1) >>> (t8.1 &&& 31)) &&& (1 : Int32)) = (1 : Int32) then cr (f_X4_giveBack g t8.1 t8.2) fun σ11 => k161 σ11 else k161 t8.2
def f_X4_pass_j133 (g : Nat) (t5 : Hp) : Option (Hp) :=
  jn (f_X4_pass_j167 g) fun k167 => lp (f_X4_pass_l135 g k167) FU ((0 : Int32), t5)
def f_X4_pass_j127 (t12 : Int32 × Hp) (kl101 : (Int32 × Hp) → Option (Hp)) (t13 : Hp) : Option (Hp) :=
  lt (t12.1 + (1 : Int32)) fun x14 => kl101 (x14, t13)
def f_X4_pass_l101 (g : Nat) (k133 : Hp → Option (Hp)) (kl101 : (Int32 × Hp) → Option (Hp)) (t12 : Int32 × Hp) : Option (Hp) :=
  if (t12.2.1 1 11) ≤ t12.1 then k133 t12.2 else jn (f_X4_pass_j127 t12 kl101) fun k127 => if (((t12.2.1 1 15) >>> (t12.1 &&& 31)) &&& (1 : Int32)) = (1 : Int32) then cr (f_X4_draw g t12.1 t12.2) fun σ15 => k127 σ15 else k127 t12.2
def f_X4_pass_j99 (g : Nat) (t4 : Hp) : Option (Hp) :=
  jn (f_X4_pass_j133 g) fun k133 => lp (f_X4_pass_l101 g k133) FU ((0 : Int32), t4)
def f_X4_pass_j93 (t16 : Int32 × Hp) (kl27 : (Int32 × Hp) → Option (Hp)) (t17 : Hp) : Option (Hp) :=
  lt (t16.1 + (1 : Int32)) fun x18 => kl27 (x18, t17)
def f_X4_pass_l27 (g : Nat) (k99 : Hp → Option (Hp)) (kl27 : (Int32 × Hp) → Option (Hp)) (t16 : Int32 × Hp) : Option (Hp) :=
  if (t16.2.1 1 6) ≤ t16.1 then k99 t16.2 else jn (f_X4_pass_j93 t16 kl27) fun k93 => if (((t16.2.1 1 10) >>> (t16.1 &&& 31)) &&& (1 : Int32)) = (1 : Int32) then ldI t16.2 7 12 t16.1 fun v19 => ldI t16.2 8 12 t16.1 fun v20 => ldI t16.2 9 12 t16.1 fun v21 => cr (f_X4_flow g v19 v20 v21 t16.2) fun σ22 => ldI σ22 8 12 t16.1 fun v23 => ldI σ22 7 12 t16.1 fun v24 => ldI σ22 9 12 t16.1 fun v25 => cr (f_X4_flow g v23 v24 v25 σ22) fun σ26 => k93 σ26 else k93 t16.2
def f_X4_pass (g : Nat) (σ : Hp) : Option (Hp) :=
  cr (f_X4_giveOff g σ) fun σ1 => cr (f_X4_leakIn g σ1) fun σ2 => cpI σ2 (g + 1) 15 (g + 5) 15 (0 : Int32) (0 : Int32) (15 : Int32) fun σ3 => jn (f_X4_pass_j99 g) fun k99 => lp (f_X4_pass_l27 g k99) FU ((0 : Int32), σ3)
def f_X11_ticks_j81 (t6 : Hp) : Option (Int32 × Hp) :=
  some ((t6.1 13 0), t6)
def f_X11_ticks_l59 (a1 : Int32) (k81 : Hp → Option (Int32 × Hp)) (kl59 : (Int32 × Hp) → Option (Int32 × Hp)) (t7 : Int32 × Hp) : Option (Int32 × Hp) :=
  if a1 ≤ t7.1 then k81 t7.2 else cr (f_X4_pass 13 t7.2) fun σ8 => lt (t7.1 + (1 : Int32)) fun x9 => kl59 (x9, σ8)
def f_X11_ticks_j40 (a1 : Int32) (σ : Hp) (t1 : Int32) (t2 : Int32) : Option (Int32 × Hp) :=
  cl (f_X11_refusal (0 : Int32) (0 : Int32) t1 t2 σ) fun v3 σ4 => if v3 = 0 then cr (f_X0_forget σ4) fun σ5 => jn (f_X11_ticks_j81) fun k81 => lp (f_X11_ticks_l59 a1 k81) FU ((0 : Int32), σ5) else some (v3, σ4)
def f_X11_ticks_j35 (k40 : Int32 → Option (Int32 × Hp)) (t10 : Unit) : Option (Int32 × Hp) :=
  k40 (1 : Int32)
def f_X11_ticks_j13 (a1 : Int32) (σ : Hp) (t1 : Int32) : Option (Int32 × Hp) :=
  jn (f_X11_ticks_j40 a1 σ t1) fun k40 => jn (f_X11_ticks_j35 k40) fun k35 => if (200 : Int32) < a1 then k35 () else if a1 ≤ ((5000 : Int32) - (σ.1 13 0)) then k40 (0 : Int32) else k35 ()
def f_X11_ticks (a1 : Int32) (σ : Hp) : Option (Int32 × Hp) :=
  jn (f_X11_ticks_j13 a1 σ) fun k13 => if (1 : Int32) ≤ a1 then k13 (0 : Int32) else k13 (1 : Int32)
def f_X3_hidden_j70 (t1 : Int32 × Int32) (kl4 : (Int32 × Int32) → Option (Int32)) (t3 : Int32) : Option (Int32) :=
  lt (t1.1 ||| t3) fun x4 => lt (t1.2 + (1 : Int32)) fun x5 => kl4 (x4, x5)
def f_X3_hidden_j58 (t1 : Int32 × Int32) (kl4 : (Int32 × Int32) → Option (Int32)) (t2 : Int32) : Option (Int32) :=
  jn (f_X3_hidden_j70 t1 kl4) fun k70 => if t2 = 0 then k70 ((1 : Int32) <<< (t1.2 &&& 31)) else k70 (0 : Int32)
def f_X3_hidden_j50 (t6 : Int32 × Int32) (kl14 : (Int32 × Int32) → Option (Int32)) (t8 : Int32) : Option (Int32) :=
  lt (t6.1 ||| t8) fun x9 => lt (t6.2 + (1 : Int32)) fun x10 => kl14 (x9, x10)
def f_X3_hidden_j49 (k50 : Int32 → Option (Int32)) (t11 : Unit) : Option (Int32) :=
  k50 (0 : Int32)
def f_X3_hidden_l14 (σ : Hp) (t1 : Int32 × Int32) (k58 : Int32 → Option (Int32)) (kl14 : (Int32 × Int32) → Option (Int32)) (t6 : Int32 × Int32) : Option (Int32) :=
  if (3 : Int32) ≤ t6.2 then k58 t6.1 else ldI σ 69 3 t6.2 fun v7 => jn (f_X3_hidden_j50 t6 kl14) fun k50 => jn (f_X3_hidden_j49 k50) fun k49 => if v7 < 0 then k49 () else ldI σ 68 9 ((t6.2 * (3 : Int32)) + t1.2) fun v12 => if v12 ≤ 0 then k49 () else k50 (1 : Int32)
def f_X3_hidden_l4 (σ : Hp) (kl4 : (Int32 × Int32) → Option (Int32)) (t1 : Int32 × Int32) : Option (Int32) :=
  if (3 : Int32) ≤ t1.2 then some t1.1 else jn (f_X3_hidden_j58 t1 kl4) fun k58 => lp (f_X3_hidden_l14 σ t1 k58) FU ((0 : Int32), (0 : Int32))
def f_X3_hidden (σ : Hp) : Option (Int32) :=
  lp (f_X3_hidden_l4 σ) FU ((0 : Int32), (0 : Int32))
def f_J9_floorDiv_7cf53 (a1 : Int32) (a2 : Int32) : Option (Int32) :=
  dvI a2 <| lt (a1 / a2) fun x1 => if 0 ≤ (a1 ^^^ a2) then some x1 else if (x1 * a2) = a1 then some x1 else some (x1 - (1 : Int32))
def f_X3_narrow_j49 (σ : Hp) (t1 : Unit) : Option (Hp) :=
  lt (sI σ 67 5 (-1 : Int32)) fun σ2 => some σ2
def f_X3_narrow (a1 : Int32) (a2 : Int32) (a3 : Int32) (σ : Hp) : Option (Hp) :=
  if a1 ≤ 0 then jn (f_X3_narrow_j49 σ) fun k49 => if 0 < a2 then k49 () else if 0 ≤ a3 then some σ else k49 () else cr (f_J9_floorDiv_7cf53 (-a2) a1) fun v3 => lt (sI σ 67 4 (if (σ.1 67 4) < (-v3) then (-v3) else (σ.1 67 4))) fun σ4 => cr (f_J9_floorDiv_7cf53 a3 a1) fun v5 => lt (sI σ4 67 5 (if v5 < (σ4.1 67 5) then v5 else (σ4.1 67 5))) fun σ6 => some σ6
def f_X3_bound_j113 (t3 : Int32 × Hp) (kl14 : (Int32 × Hp) → Option (Hp)) (t5 : Hp) : Option (Hp) :=
  lt (t3.1 + (1 : Int32)) fun x6 => kl14 (x6, t5)
def f_X3_bound_l14 (a1 : Int32) (a2 : Int32) (a3 : Int32) (kl14 : (Int32 × Hp) → Option (Hp)) (t3 : Int32 × Hp) : Option (Hp) :=
  if (3 : Int32) ≤ t3.1 then some t3.2 else ldI t3.2 69 3 t3.1 fun v4 => jn (f_X3_bound_j113 t3 kl14) fun k113 => if v4 < 0 then k113 t3.2 else ldI t3.2 68 9 (t3.1 * (3 : Int32)) fun v7 => ldI t3.2 68 9 ((t3.1 * (3 : Int32)) + (1 : Int32)) fun v8 => lt ((v7 * a2) + (v8 * a3)) fun x9 => ldI t3.2 69 3 t3.1 fun v10 => lt (((10 : Int32) * (v10 - a1)) - x9) fun x11 => ldI t3.2 69 3 t3.1 fun v12 => lt ((((10 : Int32) * (v12 + a1)) + (9 : Int32)) - x9) fun x13 => ldI t3.2 68 9 ((t3.1 * (3 : Int32)) + (2 : Int32)) fun v14 => cr (f_X3_narrow v14 x11 x13 t3.2) fun σ15 => k113 σ15
def f_X3_bound (a1 : Int32) (a2 : Int32) (a3 : Int32) (σ : Hp) : Option (Hp) :=
  lt (sI σ 67 4 (0 : Int32)) fun σ1 => lt (sI σ1 67 5 (40 : Int32)) fun σ2 => lp (f_X3_bound_l14 a1 a2 a3) FU ((0 : Int32), σ2)
def f_X3_note (a1 : Int32) (a2 : Int32) (a3 : Int32) (σ : Hp) : Option (Hp) :=
  ldI σ 70 3 a1 fun v1 => stI σ 70 3 a1 (if a2 < v1 then a2 else v1) fun σ2 => ldI σ2 71 3 a1 fun v3 => stI σ2 71 3 a1 (if v3 < a3 then a3 else v3) fun σ4 => some σ4
def f_X3_possible_j177 (t3 : Int32 × Hp) (t5 : Int32) : Option (Int32 × Hp) :=
  some (t5, t3.2)
def f_X3_possible_j175 (k177 : Int32 → Option (Int32 × Hp)) (t6 : Unit) : Option (Int32 × Hp) :=
  k177 (-9 : Int32)
def f_X3_possible_j151 (a2 : Int32) (t3 : Int32 × Hp) (t4 : Unit) : Option (Int32 × Hp) :=
  jn (f_X3_possible_j177 t3) fun k177 => jn (f_X3_possible_j175 k177) fun k175 => if a2 ≤ (3 : Int32) then k175 () else if (6 : Int32) < a2 then k175 () else ldI t3.2 71 3 ((a2 - (1 : Int32)) - (3 : Int32)) fun v7 => k177 v7
def f_X3_possible_j150 (t3 : Int32 × Hp) (t8 : Int32) : Option (Int32 × Hp) :=
  some (t8, t3.2)
def f_X3_possible_j117 (a2 : Int32) (t3 : Int32 × Hp) : Option (Int32 × Hp) :=
  if a2 = 0 then some (t3.1, t3.2) else jn (f_X3_possible_j151 a2 t3) fun k151 => if a2 < (1 : Int32) then k151 () else if (3 : Int32) < a2 then k151 () else jn (f_X3_possible_j150 t3) fun k150 => if t3.1 = 0 then k150 (-9 : Int32) else ldI t3.2 70 3 (a2 - (1 : Int32)) fun v9 => k150 v9
def f_X3_possible_j111 (t10 : Int32 × Int32 × Hp) (kl23 : (Int32 × Int32 × Hp) → Option (Int32 × Hp)) (t11 : Int32 × Hp) : Option (Int32 × Hp) :=
  lt (t10.2.1 + (1 : Int32)) fun x12 => kl23 (t11.1, x12, t11.2)
def f_X3_possible_j105 (t13 : Int32 × Int32 × Hp) (kl33 : (Int32 × Int32 × Hp) → Option (Int32 × Hp)) (t15 : Int32 × Hp) : Option (Int32 × Hp) :=
  lt (t13.2.1 + (1 : Int32)) fun x16 => kl33 (t15.1, x16, t15.2)
def f_X3_possible_l33 (a1 : Int32) (t10 : Int32 × Int32 × Hp) (k111 : (Int32 × Hp) → Option (Int32 × Hp)) (kl33 : (Int32 × Int32 × Hp) → Option (Int32 × Hp)) (t13 : Int32 × Int32 × Hp) : Option (Int32 × Hp) :=
  if (40 : Int32) < t13.2.1 then k111 (t13.1, t13.2.2) else cr (f_X3_bound a1 t10.2.1 t13.2.1 t13.2.2) fun σ14 => jn (f_X3_possible_j105 t13 kl33) fun k105 => if (σ14.1 67 5) < (σ14.1 67 4) then k105 (t13.1, σ14) else lt (t13.1 + (((σ14.1 67 5) - (σ14.1 67 4)) + (1 : Int32))) fun x17 => cr (f_X3_note (0 : Int32) t10.2.1 t10.2.1 σ14) fun σ18 => cr (f_X3_note (1 : Int32) t13.2.1 t13.2.1 σ18) fun σ19 => cr (f_X3_note (2 : Int32) (σ19.1 67 4) (σ19.1 67 5) σ19) fun σ20 => k105 (x17, σ20)
def f_X3_possible_l23 (a1 : Int32) (k117 : (Int32 × Hp) → Option (Int32 × Hp)) (kl23 : (Int32 × Int32 × Hp) → Option (Int32 × Hp)) (t10 : Int32 × Int32 × Hp) : Option (Int32 × Hp) :=
  if (40 : Int32) < t10.2.1 then k117 (t10.1, t10.2.2) else jn (f_X3_possible_j111 t10 kl23) fun k111 => lp (f_X3_possible_l33 a1 t10 k111) FU (t10.1, (0 : Int32), t10.2.2)
def f_X3_possible (a1 : Int32) (a2 : Int32) (σ : Hp) : Option (Int32 × Hp) :=
  cr (f_J7_fill_53178 70 3 (41 : Int32) σ) fun σ1 => cr (f_J7_fill_53178 71 3 (-9 : Int32) σ1) fun σ2 => jn (f_X3_possible_j117 a2) fun k117 => lp (f_X3_possible_l23 a1 k117) FU ((0 : Int32), (0 : Int32), σ2)
def f_X11_trueGas_j71 (t7 : Int32 × Hp) : Option (Int32 × Hp) :=
  some (t7.1, t7.2)
def f_X11_trueGas_j36 (a1 : Int32) (a2 : Int32) (σ : Hp) (t2 : Int32) (t3 : Int32) (t4 : Int32) : Option (Int32 × Hp) :=
  cl (f_X11_refusal (0 : Int32) t2 t3 t4 σ) fun v5 σ6 => if v5 = 0 then jn (f_X11_trueGas_j71) fun k71 => if a2 = (7 : Int32) then cr (f_X3_hidden σ6) fun v8 => k71 (v8, σ6) else cl (f_X3_possible a1 a2 σ6) fun v9 σ10 => k71 (v9, σ10) else some (v5, σ6)
def f_X11_trueGas_j25 (a1 : Int32) (a2 : Int32) (σ : Hp) (t2 : Int32) (t3 : Int32) : Option (Int32 × Hp) :=
  jn (f_X11_trueGas_j36 a1 a2 σ t2 t3) fun k36 => if a1 ≤ (9 : Int32) then k36 (0 : Int32) else k36 (1 : Int32)
def f_X11_trueGas_j16 (a1 : Int32) (a2 : Int32) (σ : Hp) (t2 : Int32) : Option (Int32 × Hp) :=
  jn (f_X11_trueGas_j25 a1 a2 σ t2) fun k25 => if 0 ≤ a1 then k25 (0 : Int32) else k25 (1 : Int32)
def f_X11_trueGas (a1 : Int32) (a2 : Int32) (σ : Hp) : Option (Int32 × Hp) :=
  cr (f_X11_within a2 (8 : Int32)) fun v1 => jn (f_X11_trueGas_j16 a1 a2 σ) fun k16 => if v1 = 0 then k16 (1 : Int32) else k16 (0 : Int32)
def f_X0_takeBack (σ : Hp) : Option (Int32 × Hp) :=
  if 0 < (σ.1 25 3) then lt (sI σ 25 3 ((σ.1 25 3) - (1 : Int32))) fun σ1 => lt (sI σ1 25 4 ((σ1.1 25 4) + (1 : Int32))) fun σ2 => ldI σ2 26 30 (σ2.1 25 3) fun v3 => if v3 = 0 then ldI σ2 27 30 (σ2.1 25 3) fun v4 => lt (sI σ2 1 10 ((σ2.1 1 10) ^^^ ((1 : Int32) <<< (v4 &&& 31)))) fun σ5 => ckZ (1 : Int32) (some ((1 : Int32), σ5)) else ldI σ2 28 30 (σ2.1 25 3) fun v6 => lt (sI σ2 1 15 v6) fun σ7 => ldI σ7 26 30 (σ7.1 25 3) fun v8 => if v8 = (2 : Int32) then ldI σ7 27 30 (σ7.1 25 3) fun v9 => lt (sI σ7 13 1 ((σ7.1 13 1) &&& (((1 : Int32) <<< (v9 &&& 31)) ^^^ (-1 : Int32)))) fun σ10 => ckZ (1 : Int32) (some ((1 : Int32), σ10)) else ckZ (1 : Int32) (some ((1 : Int32), σ7)) else ckZ (0 : Int32) (some ((0 : Int32), σ))
def f_X11_undo_j28 (t3 : Int32 × Hp) : Option (Int32 × Hp) :=
  some (t3.1, t3.2)
def f_X11_undo (σ : Hp) : Option (Int32 × Hp) :=
  cl (f_X0_takeBack σ) fun v1 σ2 => jn (f_X11_undo_j28) fun k28 => if v1 = 0 then cl (f_X11_refuse (-3 : Int32) σ2) fun v4 σ5 => k28 (v4, σ5) else k28 ((1 : Int32), σ2)
def f_X8_drop (a1 : Int32) (σ : Hp) : Option (Hp) :=
  lt (sI σ 32 3 ((σ.1 32 3) &&& (((1 : Int32) <<< (a1 &&& 31)) ^^^ (-1 : Int32)))) fun σ1 => some σ1
def f_X8_stands_j17 (t1 : Int32) : Option (Int32) :=
  ckZ t1 (some t1)
def f_X8_stands (a1 : Int32) (σ : Hp) : Option (Int32) :=
  jn (f_X8_stands_j17) fun k17 => if (((σ.1 32 3) >>> (a1 &&& 31)) &&& (1 : Int32)) = (1 : Int32) then k17 (1 : Int32) else k17 (0 : Int32)
def f_X11_unrule_j25 (σ : Hp) (t2 : Unit) : Option (Int32 × Hp) :=
  cl (f_X11_refuse (-1 : Int32) σ) fun v3 σ4 => some (v3, σ4)
def f_X11_unrule (a1 : Int32) (σ : Hp) : Option (Int32 × Hp) :=
  cr (f_X11_within a1 (σ.1 32 2)) fun v1 => jn (f_X11_unrule_j25 σ) fun k25 => if v1 = 0 then k25 () else cr (f_X8_stands a1 σ) fun v5 => if v5 = 0 then k25 () else cr (f_X8_drop a1 σ) fun σ6 => some ((1 : Int32), σ6)
def f_X11_valve_j77 (a1 : Int32) (σ : Hp) (t5 : Unit) : Option (Int32 × Hp) :=
  cr (f_X0_perform (0 : Int32) a1 σ) fun σ6 => some ((1 : Int32), σ6)
def f_X11_valve_j40 (a1 : Int32) (a2 : Int32) (σ : Hp) (t4 : Int32) : Option (Int32 × Hp) :=
  if (((σ.1 1 10) >>> (a1 &&& 31)) &&& (1 : Int32)) = t4 then some ((0 : Int32), σ) else jn (f_X11_valve_j77 a1 σ) fun k77 => if a2 = 0 then k77 () else cr (f_X8_forbidder a1 (0 : Int32) (σ.1 1 15) σ) fun v7 => if v7 = (-9 : Int32) then k77 () else cl (f_X11_refuse (-7 : Int32) σ) fun v8 σ9 => some (v8, σ9)
def f_X11_valve (a1 : Int32) (a2 : Int32) (σ : Hp) : Option (Int32 × Hp) :=
  cr (f_X11_within a1 (σ.1 1 6)) fun v1 => if v1 = 0 then cl (f_X11_refuse (-1 : Int32) σ) fun v2 σ3 => some (v2, σ3) else jn (f_X11_valve_j40 a1 a2 σ) fun k40 => if a2 = 0 then k40 (0 : Int32) else k40 (1 : Int32)
def f_X2_go_j67 (a1 : Int32) (σ : Hp) (t1 : Unit) : Option (Hp) :=
  ldI σ 66 25 a1 fun v2 => ldI σ 65 25 a1 fun v3 => stI σ 66 25 a1 (v2 + v3) fun σ4 => some σ4
def f_X2_go (a1 : Int32) (a2 : Int32) (a3 : Int32) (σ : Hp) : Option (Hp) :=
  if 0 ≤ a2 then if a2 < (5 : Int32) then jn (f_X2_go_j67 a1 σ) fun k67 => if a3 < 0 then k67 () else if (5 : Int32) ≤ a3 then k67 () else ldI σ 64 25 ((a3 * (5 : Int32)) + a2) fun v5 => if v5 = 0 then ldI σ 66 25 ((a3 * (5 : Int32)) + a2) fun v6 => ldI σ 65 25 a1 fun v7 => stI σ 66 25 ((a3 * (5 : Int32)) + a2) (v6 + v7) fun σ8 => some σ8 else k67 () else ldI σ 65 25 a1 fun v9 => lt (sI σ 63 3 ((σ.1 63 3) + v9)) fun σ10 => some σ10 else ldI σ 65 25 a1 fun v11 => lt (sI σ 63 4 ((σ.1 63 4) + v11)) fun σ12 => some σ12
def f_X2_step_j103 (t4 : Hp) : Option (Hp) :=
  cpI t4 66 25 65 25 (0 : Int32) (0 : Int32) (25 : Int32) fun σ5 => some σ5
def f_X2_step_j97 (t6 : Int32 × Hp) (kl30 : (Int32 × Hp) → Option (Hp)) (t8 : Hp) : Option (Hp) :=
  lt (t6.1 + (1 : Int32)) fun x9 => kl30 (x9, t8)
def f_X2_step_l30 (k103 : Hp → Option (Hp)) (kl30 : (Int32 × Hp) → Option (Hp)) (t6 : Int32 × Hp) : Option (Hp) :=
  if (25 : Int32) ≤ t6.1 then k103 t6.2 else ldI t6.2 65 25 t6.1 fun v7 => jn (f_X2_step_j97 t6 kl30) fun k97 => if v7 ≤ 0 then k97 t6.2 else dvI (5 : Int32) <| dvI (5 : Int32) <| cr (f_X2_go t6.1 ((t6.1 - t6.1 / (5 : Int32) * (5 : Int32)) - (1 : Int32)) (t6.1 / (5 : Int32)) t6.2) fun σ10 => dvI (5 : Int32) <| dvI (5 : Int32) <| cr (f_X2_go t6.1 ((t6.1 - t6.1 / (5 : Int32) * (5 : Int32)) + (1 : Int32)) (t6.1 / (5 : Int32)) σ10) fun σ11 => dvI (5 : Int32) <| dvI (5 : Int32) <| cr (f_X2_go t6.1 (t6.1 - t6.1 / (5 : Int32) * (5 : Int32)) ((t6.1 / (5 : Int32)) - (1 : Int32)) σ11) fun σ12 => dvI (5 : Int32) <| dvI (5 : Int32) <| cr (f_X2_go t6.1 (t6.1 - t6.1 / (5 : Int32) * (5 : Int32)) ((t6.1 / (5 : Int32)) + (1 : Int32)) σ12) fun σ13 => k97 σ13
def f_X2_step (σ : Hp) : Option (Hp) :=
  cr (f_J7_fill_53178 66 25 (0 : Int32) σ) fun σ1 => lt (sI σ1 63 3 ((σ1.1 63 3) * (4 : Int32))) fun σ2 => lt (sI σ2 63 4 ((σ2.1 63 4) * (4 : Int32))) fun σ3 => jn (f_X2_step_j103) fun k103 => lp (f_X2_step_l30 k103) FU ((0 : Int32), σ3)
def f_X2_ways_j108 (t6 : Hp) (t7 : Int32) : Option (Int32 × Hp) :=
  some (t7, t6)
def f_X2_ways_j72 (a2 : Int32) (a3 : Int32) (t6 : Hp) : Option (Int32 × Hp) :=
  if a3 = (2 : Int32) then some (((((1 : Int32) <<< (((2 : Int32) * a2) &&& 31)) - (t6.1 63 3)) - (t6.1 63 4)), t6) else jn (f_X2_ways_j108 t6) fun k108 => if a3 = 0 then k108 (t6.1 63 3) else k108 (t6.1 63 4)
def f_X2_ways_l56 (a2 : Int32) (k72 : Hp → Option (Int32 × Hp)) (kl56 : (Int32 × Hp) → Option (Int32 × Hp)) (t8 : Int32 × Hp) : Option (Int32 × Hp) :=
  if a2 ≤ t8.1 then k72 t8.2 else cr (f_X2_step t8.2) fun σ9 => lt (t8.1 + (1 : Int32)) fun x10 => kl56 (x10, σ9)
def f_X2_ways_j25 (σ : Hp) (t11 : Int32) : Option (Int32 × Hp) :=
  some (t11, σ)
def f_X2_ways (a1 : Int32) (a2 : Int32) (a3 : Int32) (σ : Hp) : Option (Int32 × Hp) :=
  ldI σ 64 25 (a1 * (5 : Int32)) fun v1 => if v1 = 0 then cr (f_J7_fill_53178 65 25 (0 : Int32) σ) fun σ2 => stI σ2 65 25 (a1 * (5 : Int32)) (1 : Int32) fun σ3 => lt (sI σ3 63 3 (0 : Int32)) fun σ4 => lt (sI σ4 63 4 (0 : Int32)) fun σ5 => jn (f_X2_ways_j72 a2 a3) fun k72 => lp (f_X2_ways_l56 a2 k72) FU ((0 : Int32), σ5) else jn (f_X2_ways_j25 σ) fun k25 => if a3 = (2 : Int32) then k25 ((1 : Int32) <<< (((2 : Int32) * a2) &&& 31)) else k25 (0 : Int32)
def f_X11_walks_j73 (t9 : Int32 × Hp) : Option (Int32 × Hp) :=
  some (t9.1, t9.2)
def f_X11_walks_j48 (a1 : Int32) (a2 : Int32) (a3 : Int32) (σ : Hp) (t2 : Int32) (t4 : Int32) (t5 : Int32) (t6 : Int32) : Option (Int32 × Hp) :=
  cl (f_X11_refusal t2 t4 t5 t6 σ) fun v7 σ8 => jn (f_X11_walks_j73) fun k73 => if v7 = 0 then cl (f_X2_ways a1 a2 a3 σ8) fun v10 σ11 => k73 (v10, σ11) else k73 (v7, σ8)
def f_X11_walks_j37 (a1 : Int32) (a2 : Int32) (a3 : Int32) (σ : Hp) (t2 : Int32) (t4 : Int32) (t5 : Int32) : Option (Int32 × Hp) :=
  jn (f_X11_walks_j48 a1 a2 a3 σ t2 t4 t5) fun k48 => if a2 ≤ (12 : Int32) then k48 (0 : Int32) else k48 (1 : Int32)
def f_X11_walks_j27 (a1 : Int32) (a2 : Int32) (a3 : Int32) (σ : Hp) (t2 : Int32) (t4 : Int32) : Option (Int32 × Hp) :=
  jn (f_X11_walks_j37 a1 a2 a3 σ t2 t4) fun k37 => if (1 : Int32) ≤ a2 then k37 (0 : Int32) else k37 (1 : Int32)
def f_X11_walks_j14 (a1 : Int32) (a2 : Int32) (a3 : Int32) (σ : Hp) (t2 : Int32) : Option (Int32 × Hp) :=
  cr (f_X11_within a3 (3 : Int32)) fun v3 => jn (f_X11_walks_j27 a1 a2 a3 σ t2) fun k27 => if v3 = 0 then k27 (1 : Int32) else k27 (0 : Int32)
def f_X11_walks (a1 : Int32) (a2 : Int32) (a3 : Int32) (σ : Hp) : Option (Int32 × Hp) :=
  cr (f_X11_within a1 (5 : Int32)) fun v1 => jn (f_X11_walks_j14 a1 a2 a3 σ) fun k14 => if v1 = 0 then k14 (1 : Int32) else k14 (0 : Int32)
def f_X11_warm_j41 (a1 : Int32) (a2 : Int32) (σ : Hp) (t2 : Int32) (t3 : Int32) (t4 : Int32) : Option (Int32 × Hp) :=
  cl (f_X11_refusal t2 (0 : Int32) t3 t4 σ) fun v5 σ6 => if v5 = 0 then cr (f_X0_forget σ6) fun σ7 => ldI σ7 4 5 a1 fun v8 => stI σ7 4 5 a1 a2 fun σ9 => some (v8, σ9) else some (v5, σ6)
def f_X11_warm_j30 (a1 : Int32) (a2 : Int32) (σ : Hp) (t2 : Int32) (t3 : Int32) : Option (Int32 × Hp) :=
  jn (f_X11_warm_j41 a1 a2 σ t2 t3) fun k41 => if a2 < (10 : Int32) then k41 (0 : Int32) else k41 (1 : Int32)
def f_X11_warm_j20 (a1 : Int32) (a2 : Int32) (σ : Hp) (t2 : Int32) : Option (Int32 × Hp) :=
  jn (f_X11_warm_j30 a1 a2 σ t2) fun k30 => if 0 ≤ a2 then k30 (0 : Int32) else k30 (1 : Int32)
def f_X11_warm (a1 : Int32) (a2 : Int32) (σ : Hp) : Option (Int32 × Hp) :=
  cr (f_X11_within a1 (σ.1 1 0)) fun v1 => jn (f_X11_warm_j20 a1 a2 σ) fun k20 => if v1 = 0 then k20 (1 : Int32) else k20 (0 : Int32)
def f_X11_warmUp (a1 : Int32) (σ : Hp) : Option (Int32 × Hp) :=
  cr (f_X11_within a1 (σ.1 1 11)) fun v1 => if v1 = 0 then cl (f_X11_refuse (-1 : Int32) σ) fun v2 σ3 => some (v2, σ3) else ldI σ 12 8 a1 fun v4 => if v4 = 0 then cl (f_X11_refuse (-3 : Int32) σ) fun v5 σ6 => some (v5, σ6) else if (((σ.1 13 1) >>> (a1 &&& 31)) &&& (1 : Int32)) = (1 : Int32) then some ((0 : Int32), σ) else cr (f_X0_perform (2 : Int32) a1 σ) fun σ7 => some ((1 : Int32), σ7)
def f_X4_become (g : Nat) (σ : Hp) : Option (Hp) :=
  lt (sI σ g 0 (σ.1 13 0)) fun σ1 => lt (sI σ1 g 1 (σ1.1 13 1)) fun σ2 => cpI σ2 14 15 (g + 1) 15 (0 : Int32) (0 : Int32) (15 : Int32) fun σ3 => cpI σ3 15 15 (g + 2) 15 (0 : Int32) (0 : Int32) (15 : Int32) fun σ4 => cpI σ4 16 24 (g + 3) 24 (0 : Int32) (0 : Int32) (24 : Int32) fun σ5 => cpI σ5 17 3 (g + 4) 3 (0 : Int32) (0 : Int32) (3 : Int32) fun σ6 => some σ6
def f_X11_when_j126 (t8 : Hp) : Option (Int32 × Hp) :=
  some ((t8.1 19 0), t8)
def f_X11_when_l80 (a1 : Int32) (a2 : Int32) (a3 : Int32) (k126 : Hp → Option (Int32 × Hp)) (kl80 : (Int32 × Hp) → Option (Int32 × Hp)) (t9 : Int32 × Hp) : Option (Int32 × Hp) :=
  if a3 ≤ t9.1 then some ((-9 : Int32), t9.2) else if (5000 : Int32) ≤ (t9.2.1 19 0) then some ((-9 : Int32), t9.2) else cr (f_X4_pass 19 t9.2) fun σ10 => cr (f_X4_push 19 a1 σ10) fun v11 => if a2 ≤ v11 then lt (t9.1 + (1 : Int32)) fun x12 => kl80 (x12, σ10) else k126 σ10
def f_X11_when_j53 (a1 : Int32) (a2 : Int32) (a3 : Int32) (σ : Hp) (t2 : Int32) (t3 : Int32) (t4 : Int32) : Option (Int32 × Hp) :=
  cl (f_X11_refusal t2 (0 : Int32) t3 t4 σ) fun v5 σ6 => if v5 = 0 then cr (f_X4_become 19 σ6) fun σ7 => jn (f_X11_when_j126) fun k126 => lp (f_X11_when_l80 a1 a2 a3 k126) FU ((0 : Int32), σ7) else some (v5, σ6)
def f_X11_when_j48 (k53 : Int32 → Option (Int32 × Hp)) (t13 : Unit) : Option (Int32 × Hp) :=
  k53 (1 : Int32)
def f_X11_when_j35 (a1 : Int32) (a2 : Int32) (a3 : Int32) (σ : Hp) (t2 : Int32) (t3 : Int32) : Option (Int32 × Hp) :=
  jn (f_X11_when_j53 a1 a2 a3 σ t2 t3) fun k53 => jn (f_X11_when_j48 k53) fun k48 => if (999999 : Int32) < a2 then k48 () else if a3 ≤ (300 : Int32) then k53 (0 : Int32) else k48 ()
def f_X11_when_j30 (k35 : Int32 → Option (Int32 × Hp)) (t14 : Unit) : Option (Int32 × Hp) :=
  k35 (1 : Int32)
def f_X11_when_j20 (a1 : Int32) (a2 : Int32) (a3 : Int32) (σ : Hp) (t2 : Int32) : Option (Int32 × Hp) :=
  jn (f_X11_when_j35 a1 a2 a3 σ t2) fun k35 => jn (f_X11_when_j30 k35) fun k30 => if a2 < 0 then k30 () else if (1 : Int32) ≤ a3 then k35 (0 : Int32) else k30 ()
def f_X11_when (a1 : Int32) (a2 : Int32) (a3 : Int32) (σ : Hp) : Option (Int32 × Hp) :=
  cr (f_X11_within a1 (σ.1 1 0)) fun v1 => jn (f_X11_when_j20 a1 a2 a3 σ) fun k20 => if v1 = 0 then k20 (1 : Int32) else k20 (0 : Int32)
def f_X12_becomes_j19 (a2 : Int32) (σ : Hp) (t1 : Int32) : Option (Hp) :=
  stZ σ 104 12 a2 t1 fun σ2 => some σ2
def f_X12_becomes_j54 (a2 : Int32) (σ4 : Hp) (t5 : Int32) : Option (Hp) :=
  stZ σ4 106 8 a2 t5 fun σ6 => some σ6
def f_X12_becomes_j38 (a2 : Int32) (a3 : Int32) (σ : Hp) (t3 : Int32) : Option (Hp) :=
  stZ σ 105 8 a2 t3 fun σ4 => jn (f_X12_becomes_j54 a2 σ4) fun k54 => if a3 ≤ (1 : Int32) then k54 (0 : Int32) else k54 (1 : Int32)
def f_X12_becomes (a1 : Int32) (a2 : Int32) (a3 : Int32) (σ : Hp) : Option (Hp) :=
  if a1 = 0 then jn (f_X12_becomes_j19 a2 σ) fun k19 => if a3 = (1 : Int32) then k19 (1 : Int32) else k19 (0 : Int32) else jn (f_X12_becomes_j38 a2 a3 σ) fun k38 => if (a3 &&& (1 : Int32)) = (1 : Int32) then k38 (1 : Int32) else k38 (0 : Int32)
def f_X12_stateOf_j50 (t1 : Int32) : Option (Int32) :=
  some t1
def f_X12_stateOf_j49 (k50 : Int32 → Option (Int32)) (t4 : Int32) (t6 : Int32) : Option (Int32) :=
  k50 (t4 + t6)
def f_X12_stateOf_j35 (a2 : Int32) (σ : Hp) (k50 : Int32 → Option (Int32)) (t4 : Int32) : Option (Int32) :=
  ldI σ 106 8 a2 fun v5 => jn (f_X12_stateOf_j49 k50 t4) fun k49 => if v5 = 0 then k49 (0 : Int32) else k49 (2 : Int32)
def f_X12_stateOf (a1 : Int32) (a2 : Int32) (σ : Hp) : Option (Int32) :=
  jn (f_X12_stateOf_j50) fun k50 => if a1 = 0 then ldI σ 104 12 a2 fun v2 => if v2 = 0 then k50 (0 : Int32) else k50 (1 : Int32) else ldI σ 105 8 a2 fun v3 => jn (f_X12_stateOf_j35 a2 σ k50) fun k35 => if v3 = 0 then k35 (0 : Int32) else k35 (1 : Int32)
def f_X12_acts_j104 (a1 : Int32) (a2 : Int32) (a3 : Int32) (t2 : Hp) : Option (Int32 × Hp) :=
  stI t2 122 30 (t2.1 86 50) a1 fun σ3 => stI σ3 123 30 (σ3.1 86 50) a2 fun σ4 => cr (f_X12_stateOf a1 a2 σ4) fun v5 => stI σ4 124 30 (σ4.1 86 50) v5 fun σ6 => stI σ6 125 30 (σ6.1 86 50) a3 fun σ7 => lt (sI σ7 86 50 ((σ7.1 86 50) + (1 : Int32))) fun σ8 => cr (f_X12_becomes a1 a2 a3 σ8) fun σ9 => some ((1 : Int32), σ9)
def f_X12_acts_j94 (k104 : Hp → Option (Int32 × Hp)) (t10 : Hp) : Option (Int32 × Hp) :=
  lt (sI t10 86 50 ((t10.1 86 50) - (1 : Int32))) fun σ11 => k104 σ11
def f_X12_acts_l17 (k94 : Hp → Option (Int32 × Hp)) (kl17 : (Int32 × Hp) → Option (Int32 × Hp)) (t12 : Int32 × Hp) : Option (Int32 × Hp) :=
  if (30 : Int32) ≤ t12.1 then k94 t12.2 else ldI t12.2 122 30 t12.1 fun v13 => stI t12.2 122 30 (t12.1 - (1 : Int32)) v13 fun σ14 => ldI σ14 123 30 t12.1 fun v15 => stI σ14 123 30 (t12.1 - (1 : Int32)) v15 fun σ16 => ldI σ16 124 30 t12.1 fun v17 => stI σ16 124 30 (t12.1 - (1 : Int32)) v17 fun σ18 => ldI σ18 125 30 t12.1 fun v19 => stI σ18 125 30 (t12.1 - (1 : Int32)) v19 fun σ20 => lt (t12.1 + (1 : Int32)) fun x21 => kl17 (x21, σ20)
def f_X12_acts (a1 : Int32) (a2 : Int32) (a3 : Int32) (σ : Hp) : Option (Int32 × Hp) :=
  lt (sI σ 86 51 (0 : Int32)) fun σ1 => jn (f_X12_acts_j104 a1 a2 a3) fun k104 => if (σ1.1 86 50) = (30 : Int32) then jn (f_X12_acts_j94 k104) fun k94 => lp (f_X12_acts_l17 k94) FU ((1 : Int32), σ1) else k104 σ1
def f_X12_isGas_j14 (t1 : Int32) : Option (Int32) :=
  ckZ t1 (some t1)
def f_X12_isGas_j13 (k14 : Int32 → Option (Int32)) (t2 : Unit) : Option (Int32) :=
  k14 (0 : Int32)
def f_X12_isGas (a1 : Int32) : Option (Int32) :=
  jn (f_X12_isGas_j14) fun k14 => jn (f_X12_isGas_j13 k14) fun k13 => if a1 < 0 then k13 () else if (3 : Int32) ≤ a1 then k13 () else k14 (1 : Int32)
def f_X12_isIn_j18 (t1 : Int32) : Option (Int32) :=
  ckZ t1 (some t1)
def f_X12_isIn_j17 (k18 : Int32 → Option (Int32)) (t2 : Unit) : Option (Int32) :=
  k18 (0 : Int32)
def f_X12_isIn (a1 : Int64) (a2 : Int64) (a3 : Int64) : Option (Int32) :=
  jn (f_X12_isIn_j18) fun k18 => jn (f_X12_isIn_j17 k18) fun k17 => if (lg_cmp a1 a2) < 0 then k17 () else if 0 < (lg_cmp a1 a3) then k17 () else k18 (1 : Int32)
def f_X12_no (a1 : Int32) (σ : Hp) : Option (Int32 × Hp) :=
  ldI σ 87 8 (-a1) fun v1 => stI σ 87 8 (-a1) (v1 + (1 : Int32)) fun σ2 => some (a1, σ2)
def f_X12_all_j158 (t8 : Int32 × Int32) (kl118 : (Int32 × Int32) → Option (Int32 × Hp)) (t10 : Int32) : Option (Int32 × Hp) :=
  lt (t8.1 + t10) fun x11 => lt (t8.2 + (1 : Int32)) fun x12 => kl118 (x11, x12)
def f_X12_all_l118 (a1 : Int32) (a2 : Int32) (σ : Hp) (kl118 : (Int32 × Int32) → Option (Int32 × Hp)) (t8 : Int32 × Int32) : Option (Int32 × Hp) :=
  if (σ.1 86 22) ≤ t8.2 then some (t8.1, σ) else if a2 = (4 : Int32) then ldI σ 97 8 t8.2 fun v9 => jn (f_X12_all_j158 t8 kl118) fun k158 => if v9 ≤ 0 then k158 (0 : Int32) else ldI σ 101 24 (((3 : Int32) * t8.2) + a1) fun v13 => k158 v13 else some (t8.1, σ)
def f_X12_all_j115 (a1 : Int32) (a2 : Int32) (σ : Hp) (t7 : Int32) : Option (Int32 × Hp) :=
  lp (f_X12_all_l118 a1 a2 σ) FU (t7, (0 : Int32))
def f_X12_all_j107 (t14 : Int32 × Int32) (kl62 : (Int32 × Int32) → Option (Int32 × Hp)) (t15 : Int32) : Option (Int32 × Hp) :=
  lt (t14.1 + t15) fun x16 => lt (t14.2 + (1 : Int32)) fun x17 => kl62 (x16, x17)
def f_X12_all_l62 (a1 : Int32) (a2 : Int32) (σ : Hp) (k115 : Int32 → Option (Int32 × Hp)) (kl62 : (Int32 × Int32) → Option (Int32 × Hp)) (t14 : Int32 × Int32) : Option (Int32 × Hp) :=
  if (σ.1 86 20) ≤ t14.2 then k115 t14.1 else if (4 : Int32) ≤ a2 then k115 t14.1 else jn (f_X12_all_j107 t14 kl62) fun k107 => if a2 = (2 : Int32) then ldI σ 99 15 (((3 : Int32) * t14.2) + a1) fun v18 => k107 v18 else ldI σ 100 15 (((3 : Int32) * t14.2) + a1) fun v19 => k107 v19
def f_X12_all_j56 (σ : Hp) (t20 : Int32) : Option (Int32 × Hp) :=
  some (t20, σ)
def f_X12_all (a1 : Int32) (a2 : Int32) (σ : Hp) : Option (Int32 × Hp) :=
  cr (f_X12_isGas a1) fun v1 => if v1 = 0 then cl (f_X12_no (-1 : Int32) σ) fun v2 σ3 => some (v2, σ3) else cr (f_X12_isIn a2.toInt64 (0 : Int64) (4 : Int64)) fun v4 => if v4 = 0 then cl (f_X12_no (-2 : Int32) σ) fun v5 σ6 => some (v5, σ6) else if (2 : Int32) ≤ a2 then jn (f_X12_all_j115 a1 a2 σ) fun k115 => lp (f_X12_all_l62 a1 a2 σ k115) FU ((0 : Int32), (0 : Int32)) else jn (f_X12_all_j56 σ) fun k56 => if a2 = 0 then ldI σ 102 3 a1 fun v21 => k56 v21 else ldI σ 103 3 a1 fun v22 => k56 v22
def f_X12_anew (σ : Hp) : Option (Int32 × Hp) :=
  lt ((σ.1 86 75) + (σ.1 86 76)) fun x1 => lt (sI σ 86 75 (0 : Int32)) fun σ2 => lt (sI σ2 86 76 (0 : Int32)) fun σ3 => some (x1, σ3)
def f_X12_bits_l4 (a1 : Int32) (kl4 : (Int32 × Int32) → Option (Int32)) (t1 : Int32 × Int32) : Option (Int32) :=
  if (31 : Int32) ≤ t1.2 then some t1.1 else lt (t1.1 + ((a1 >>> (t1.2 &&& 31)) &&& (1 : Int32))) fun x2 => lt (t1.2 + (1 : Int32)) fun x3 => kl4 (x2, x3)
def f_X12_bits (a1 : Int32) : Option (Int32) :=
  lp (f_X12_bits_l4 a1) FU ((0 : Int32), (0 : Int32))
def f_X12_closes_l0 (kl0 : Hp → Option (Hp)) (t1 : Hp) : Option (Hp) :=
  if (t1.1 86 40) ≤ 0 then some t1 else ldI t1 118 8 ((t1.1 86 40) - (1 : Int32)) fun v2 => if v2 = (1 : Int32) then lt (sI t1 86 40 ((t1.1 86 40) - (1 : Int32))) fun σ3 => kl0 σ3 else some t1
def f_X12_closes (σ : Hp) : Option (Hp) :=
  lp (f_X12_closes_l0) FU σ
def f_X12_isPipe_j17 (t1 : Int32) : Option (Int32) :=
  ckZ t1 (some t1)
def f_X12_isPipe_j16 (k17 : Int32 → Option (Int32)) (t2 : Unit) : Option (Int32) :=
  k17 (0 : Int32)
def f_X12_isPipe (a1 : Int32) (σ : Hp) : Option (Int32) :=
  jn (f_X12_isPipe_j17) fun k17 => jn (f_X12_isPipe_j16 k17) fun k16 => if a1 < 0 then k16 () else if (σ.1 86 21) ≤ a1 then k16 () else k17 (1 : Int32)
def f_X12_isPump_j17 (t1 : Int32) : Option (Int32) :=
  ckZ t1 (some t1)
def f_X12_isPump_j16 (k17 : Int32 → Option (Int32)) (t2 : Unit) : Option (Int32) :=
  k17 (0 : Int32)
def f_X12_isPump (a1 : Int32) (σ : Hp) : Option (Int32) :=
  jn (f_X12_isPump_j17) fun k17 => jn (f_X12_isPump_j16 k17) fun k16 => if a1 < 0 then k16 () else if (σ.1 86 22) ≤ a1 then k16 () else k17 (1 : Int32)
def f_X12_isRoom_j17 (t1 : Int32) : Option (Int32) :=
  ckZ t1 (some t1)
def f_X12_isRoom_j16 (k17 : Int32 → Option (Int32)) (t2 : Unit) : Option (Int32) :=
  k17 (0 : Int32)
def f_X12_isRoom (a1 : Int32) (σ : Hp) : Option (Int32) :=
  jn (f_X12_isRoom_j17) fun k17 => jn (f_X12_isRoom_j16 k17) fun k16 => if a1 < 0 then k16 () else if (σ.1 86 20) ≤ a1 then k16 () else k17 (1 : Int32)
def f_X12_least_j15 (t1 : Int32) : Option (Int32) :=
  some t1
def f_X12_least (a1 : Int64) : Option (Int32) :=
  jn (f_X12_least_j15) fun k15 => if (lg_cmp a1 (2000000000 : Int64)) ≤ 0 then k15 a1.toInt32 else k15 (2000000000 : Int32)
def f_X12_push (a1 : Int32) (σ : Hp) : Option (Int32) :=
  ldI σ 99 15 ((3 : Int32) * a1) fun v1 => ldI σ 99 15 (((3 : Int32) * a1) + (1 : Int32)) fun v2 => ldI σ 99 15 (((3 : Int32) * a1) + (2 : Int32)) fun v3 => lt ((v1.toInt64 + v2.toInt64) + v3.toInt64) fun x4 => ldI σ 88 5 a1 fun v5 => dvJ v5.toInt64 <| cr (f_X12_least (((100 : Int64) * x4) / v5.toInt64)) fun v6 => some v6
def f_X12_fact_j130 (t2 : Int32) : Option (Int32) :=
  some t2
def f_X12_fact_j129 (k130 : Int32 → Option (Int32)) (t3 : Unit) : Option (Int32) :=
  k130 (0 : Int32)
def f_X12_fact_j65 (t6 : Int32) : Option (Int32) :=
  some t6
def f_X12_fact_j107 (t9 : Int32) : Option (Int32) :=
  some t9
def f_X12_fact_j106 (k107 : Int32 → Option (Int32)) (t10 : Unit) : Option (Int32) :=
  k107 (0 : Int32)
def f_X12_fact_j84 (t13 : Int32) : Option (Int32) :=
  some t13
def f_X12_fact (a1 : Int32) (a2 : Int32) (σ : Hp) : Option (Int32) :=
  if a1 = (112 : Int32) then cr (f_X12_isPump a2 σ) fun v1 => jn (f_X12_fact_j130) fun k130 => jn (f_X12_fact_j129 k130) fun k129 => if v1 = 0 then k129 () else ldI σ 105 8 a2 fun v4 => if v4 = 0 then k129 () else k130 (1 : Int32) else if a1 = (113 : Int32) then some (σ.1 86 23) else if a1 = (114 : Int32) then cr (f_X12_isRoom a2 σ) fun v5 => jn (f_X12_fact_j65) fun k65 => if v5 = 0 then k65 (0 : Int32) else cr (f_X12_push a2 σ) fun v7 => k65 v7 else if a1 = (115 : Int32) then some (σ.1 86 23) else if a1 = (116 : Int32) then some (σ.1 86 23) else if a1 = (117 : Int32) then some (σ.1 86 23) else if a1 = (118 : Int32) then cr (f_X12_isPipe a2 σ) fun v8 => jn (f_X12_fact_j107) fun k107 => jn (f_X12_fact_j106 k107) fun k106 => if v8 = 0 then k106 () else ldI σ 104 12 a2 fun v11 => if v11 = 0 then k106 () else k107 (1 : Int32) else if a1 = (119 : Int32) then cr (f_X12_isRoom a2 σ) fun v12 => jn (f_X12_fact_j84) fun k84 => if v12 = 0 then k84 (0 : Int32) else ldI σ 90 5 a2 fun v14 => k84 v14 else some (σ.1 86 23)
def f_X12_isDigit_j17 (t1 : Int32) : Option (Int32) :=
  ckZ t1 (some t1)
def f_X12_isDigit_j16 (k17 : Int32 → Option (Int32)) (t2 : Unit) : Option (Int32) :=
  k17 (0 : Int32)
def f_X12_isDigit (a1 : Int32) : Option (Int32) :=
  jn (f_X12_isDigit_j17) fun k17 => jn (f_X12_isDigit_j16 k17) fun k16 => if a1 < (48 : Int32) then k16 () else if (57 : Int32) < a1 then k16 () else k17 (1 : Int32)
def f_X12_signOf_j31 (t2 : Int32) : Option (Int32) :=
  some t2
def f_X12_signOf (a1 : Int32) (σ : Hp) : Option (Int32) :=
  ldI σ 117 16 a1 fun v1 => jn (f_X12_signOf_j31) fun k31 => if v1 ≤ (σ.1 86 43) then k31 (-1 : Int32) else ldI σ 116 640 (((40 : Int32) * a1) + (σ.1 86 43)) fun v3 => k31 v3
def f_X12_compared_j157 (t6 : Int32 × Hp) (t8 : Int32) : Option (Int32 × Hp) :=
  some (t8, t6.2)
def f_X12_compared_j156 (k157 : Int32 → Option (Int32 × Hp)) (t9 : Unit) : Option (Int32 × Hp) :=
  k157 (0 : Int32)
def f_X12_compared_j152 (k157 : Int32 → Option (Int32 × Hp)) (t10 : Unit) : Option (Int32 × Hp) :=
  k157 (1 : Int32)
def f_X12_compared_j103 (v1 : Int32) (t3 : Int32 × Hp) (v4 : Int32) (t6 : Int32 × Hp) : Option (Int32 × Hp) :=
  cr (f_X12_fact v1 t3.1 t6.2) fun v7 => jn (f_X12_compared_j157 t6) fun k157 => jn (f_X12_compared_j156 k157) fun k156 => jn (f_X12_compared_j152 k157) fun k152 => if v4 = (60 : Int32) then if t6.1 ≤ v7 then k156 () else k152 () else if v4 = (62 : Int32) then if v7 ≤ t6.1 then k156 () else k152 () else if v7 = t6.1 then k152 () else k156 ()
def f_X12_compared_l63 (a1 : Int32) (k103 : (Int32 × Hp) → Option (Int32 × Hp)) (kl63 : (Int32 × Hp) → Option (Int32 × Hp)) (t11 : Int32 × Hp) : Option (Int32 × Hp) :=
  cr (f_X12_signOf a1 t11.2) fun v12 => cr (f_X12_isDigit v12) fun v13 => if v13 = 0 then k103 (t11.1, t11.2) else cr (f_X12_signOf a1 t11.2) fun v14 => lt ((((10 : Int32) * t11.1) + v14) - (48 : Int32)) fun x15 => lt (sI t11.2 86 43 ((t11.2.1 86 43) + (1 : Int32))) fun σ16 => kl63 (x15, σ16)
def f_X12_compared_j43 (a1 : Int32) (v1 : Int32) (t3 : Int32 × Hp) : Option (Int32 × Hp) :=
  cr (f_X12_signOf a1 t3.2) fun v4 => lt (sI t3.2 86 43 ((t3.2.1 86 43) + (1 : Int32))) fun σ5 => jn (f_X12_compared_j103 v1 t3 v4) fun k103 => lp (f_X12_compared_l63 a1 k103) FU ((0 : Int32), σ5)
def f_X12_compared (a1 : Int32) (σ : Hp) : Option (Int32 × Hp) :=
  cr (f_X12_signOf a1 σ) fun v1 => lt (sI σ 86 43 ((σ.1 86 43) + (1 : Int32))) fun σ2 => jn (f_X12_compared_j43 a1 v1) fun k43 => if v1 = (116 : Int32) then k43 ((0 : Int32), σ2) else cr (f_X12_signOf a1 σ2) fun v17 => lt (v17 - (48 : Int32)) fun x18 => lt (sI σ2 86 43 ((σ2.1 86 43) + (1 : Int32))) fun σ19 => k43 (x18, σ19)
def f_X12_sign_j24 (t1 : Int32) : Option (Int32) :=
  some t1
def f_X12_sign (σ : Hp) : Option (Int32) :=
  jn (f_X12_sign_j24) fun k24 => if (σ.1 86 37) ≤ (σ.1 86 39) then k24 (-1 : Int32) else ldI σ 115 40 (σ.1 86 39) fun v2 => k24 v2
def f_X12_digit (σ : Hp) : Option (Int32 × Hp) :=
  cr (f_X12_sign σ) fun v1 => cr (f_X12_isDigit v1) fun v2 => if v2 = 0 then ckZ (0 : Int32) (some ((0 : Int32), σ)) else lt (sI σ 86 39 ((σ.1 86 39) + (1 : Int32))) fun σ3 => ckZ (1 : Int32) (some ((1 : Int32), σ3))
def f_X12_compares_l112 (kl112 : (Int32 × Hp) → Option (Int32 × Hp)) (t10 : Int32 × Hp) : Option (Int32 × Hp) :=
  if (5 : Int32) ≤ t10.1 then ckZ (1 : Int32) (some ((1 : Int32), t10.2)) else cr (f_X12_sign t10.2) fun v11 => cr (f_X12_isDigit v11) fun v12 => if v12 = 0 then ckZ (1 : Int32) (some ((1 : Int32), t10.2)) else lt (sI t10.2 86 39 ((t10.2.1 86 39) + (1 : Int32))) fun σ13 => lt (t10.1 + (1 : Int32)) fun x14 => kl112 (x14, σ13)
def f_X12_compares_j91 (t4 : Hp) (t6 : Unit) : Option (Int32 × Hp) :=
  lt (sI t4 86 39 ((t4.1 86 39) + (1 : Int32))) fun σ7 => cl (f_X12_digit σ7) fun v8 σ9 => if v8 = 0 then ckZ (0 : Int32) (some ((0 : Int32), σ9)) else lp (f_X12_compares_l112) FU ((1 : Int32), σ9)
def f_X12_compares_j62 (t4 : Hp) : Option (Int32 × Hp) :=
  cr (f_X12_sign t4) fun v5 => jn (f_X12_compares_j91 t4) fun k91 => if v5 = (60 : Int32) then k91 () else cr (f_X12_sign t4) fun v15 => if v15 = (61 : Int32) then k91 () else cr (f_X12_sign t4) fun v16 => if v16 = (62 : Int32) then k91 () else ckZ (0 : Int32) (some ((0 : Int32), t4))
def f_X12_compares_j37 (σ : Hp) (v1 : Int32) (t2 : Unit) : Option (Int32 × Hp) :=
  lt (sI σ 86 39 ((σ.1 86 39) + (1 : Int32))) fun σ3 => jn (f_X12_compares_j62) fun k62 => if v1 = (116 : Int32) then k62 σ3 else cl (f_X12_digit σ3) fun v17 σ18 => if v17 = 0 then ckZ (0 : Int32) (some ((0 : Int32), σ18)) else k62 σ18
def f_X12_compares (σ : Hp) : Option (Int32 × Hp) :=
  cr (f_X12_sign σ) fun v1 => jn (f_X12_compares_j37 σ v1) fun k37 => if v1 = (116 : Int32) then k37 () else if v1 = (114 : Int32) then k37 () else if v1 = (119 : Int32) then k37 () else if v1 = (118 : Int32) then k37 () else if v1 = (112 : Int32) then k37 () else ckZ (0 : Int32) (some ((0 : Int32), σ))
def f_X12_copies_j235 (t4 : Int32 × Hp) (kl198 : (Int32 × Hp) → Option (Hp)) (t5 : Hp) : Option (Hp) :=
  lt (t4.1 + (1 : Int32)) fun x6 => kl198 (x6, t5)
def f_X12_copies_l198 (a1 : Int32) (kl198 : (Int32 × Hp) → Option (Hp)) (t4 : Int32 × Hp) : Option (Hp) :=
  if (8 : Int32) ≤ t4.1 then some t4.2 else jn (f_X12_copies_j235 t4 kl198) fun k235 => if a1 = 0 then ldI t4.2 114 8 t4.1 fun v7 => stZ t4.2 106 8 t4.1 v7 fun σ8 => k235 σ8 else ldI t4.2 106 8 t4.1 fun v9 => stZ t4.2 114 8 t4.1 v9 fun σ10 => k235 σ10
def f_X12_copies_j196 (a1 : Int32) (t3 : Hp) : Option (Hp) :=
  lp (f_X12_copies_l198 a1) FU ((0 : Int32), t3)
def f_X12_copies_j190 (t11 : Int32 × Hp) (kl123 : (Int32 × Hp) → Option (Hp)) (t13 : Hp) : Option (Hp) :=
  lt (t11.1 + (1 : Int32)) fun x14 => kl123 (x14, t13)
def f_X12_copies_j159 (a1 : Int32) (t11 : Int32 × Hp) (kl123 : (Int32 × Hp) → Option (Hp)) (t12 : Hp) : Option (Hp) :=
  jn (f_X12_copies_j190 t11 kl123) fun k190 => if a1 = 0 then ldI t12 113 3 t11.1 fun v15 => stI t12 103 3 t11.1 v15 fun σ16 => k190 σ16 else ldI t12 103 3 t11.1 fun v17 => stI t12 113 3 t11.1 v17 fun σ18 => k190 σ18
def f_X12_copies_l123 (a1 : Int32) (k196 : Hp → Option (Hp)) (kl123 : (Int32 × Hp) → Option (Hp)) (t11 : Int32 × Hp) : Option (Hp) :=
  if (3 : Int32) ≤ t11.1 then k196 t11.2 else jn (f_X12_copies_j159 a1 t11 kl123) fun k159 => if a1 = 0 then ldI t11.2 112 3 t11.1 fun v19 => stI t11.2 102 3 t11.1 v19 fun σ20 => k159 σ20 else ldI t11.2 102 3 t11.1 fun v21 => stI t11.2 112 3 t11.1 v21 fun σ22 => k159 σ22
def f_X12_copies_j121 (a1 : Int32) (t2 : Hp) : Option (Hp) :=
  jn (f_X12_copies_j196 a1) fun k196 => lp (f_X12_copies_l123 a1 k196) FU ((0 : Int32), t2)
def f_X12_copies_j115 (t23 : Int32 × Hp) (kl78 : (Int32 × Hp) → Option (Hp)) (t24 : Hp) : Option (Hp) :=
  lt (t23.1 + (1 : Int32)) fun x25 => kl78 (x25, t24)
def f_X12_copies_l78 (a1 : Int32) (k121 : Hp → Option (Hp)) (kl78 : (Int32 × Hp) → Option (Hp)) (t23 : Int32 × Hp) : Option (Hp) :=
  if (24 : Int32) ≤ t23.1 then k121 t23.2 else jn (f_X12_copies_j115 t23 kl78) fun k115 => if a1 = 0 then ldI t23.2 111 24 t23.1 fun v26 => stI t23.2 101 24 t23.1 v26 fun σ27 => k115 σ27 else ldI t23.2 101 24 t23.1 fun v28 => stI t23.2 111 24 t23.1 v28 fun σ29 => k115 σ29
def f_X12_copies_j76 (a1 : Int32) (t1 : Hp) : Option (Hp) :=
  jn (f_X12_copies_j121 a1) fun k121 => lp (f_X12_copies_l78 a1 k121) FU ((0 : Int32), t1)
def f_X12_copies_j70 (t30 : Int32 × Hp) (kl2 : (Int32 × Hp) → Option (Hp)) (t32 : Hp) : Option (Hp) :=
  lt (t30.1 + (1 : Int32)) fun x33 => kl2 (x33, t32)
def f_X12_copies_j39 (a1 : Int32) (t30 : Int32 × Hp) (kl2 : (Int32 × Hp) → Option (Hp)) (t31 : Hp) : Option (Hp) :=
  jn (f_X12_copies_j70 t30 kl2) fun k70 => if a1 = 0 then ldI t31 110 15 t30.1 fun v34 => stI t31 100 15 t30.1 v34 fun σ35 => k70 σ35 else ldI t31 100 15 t30.1 fun v36 => stI t31 110 15 t30.1 v36 fun σ37 => k70 σ37
def f_X12_copies_l2 (a1 : Int32) (k76 : Hp → Option (Hp)) (kl2 : (Int32 × Hp) → Option (Hp)) (t30 : Int32 × Hp) : Option (Hp) :=
  if (15 : Int32) ≤ t30.1 then k76 t30.2 else jn (f_X12_copies_j39 a1 t30 kl2) fun k39 => if a1 = 0 then ldI t30.2 109 15 t30.1 fun v38 => stI t30.2 99 15 t30.1 v38 fun σ39 => k39 σ39 else ldI t30.2 99 15 t30.1 fun v40 => stI t30.2 109 15 t30.1 v40 fun σ41 => k39 σ41
def f_X12_copies (a1 : Int32) (σ : Hp) : Option (Hp) :=
  jn (f_X12_copies_j76 a1) fun k76 => lp (f_X12_copies_l2 a1 k76) FU ((0 : Int32), σ)
def f_X12_count_j116 (t2 : Int32 × Int32) (kl93 : (Int32 × Int32) → Option (Int32)) (t4 : Int32) : Option (Int32) :=
  lt (t2.1 + t4) fun x5 => lt (t2.2 + (1 : Int32)) fun x6 => kl93 (x5, x6)
def f_X12_count_l93 (σ : Hp) (kl93 : (Int32 × Int32) → Option (Int32)) (t2 : Int32 × Int32) : Option (Int32) :=
  if (σ.1 86 21) ≤ t2.2 then some t2.1 else ldI σ 104 12 t2.2 fun v3 => jn (f_X12_count_j116 t2 kl93) fun k116 => if v3 = 0 then k116 (0 : Int32) else k116 (1 : Int32)
def f_X12_count_j156 (t7 : Int32 × Int32) (kl133 : (Int32 × Int32) → Option (Int32)) (t9 : Int32) : Option (Int32) :=
  lt (t7.1 + t9) fun x10 => lt (t7.2 + (1 : Int32)) fun x11 => kl133 (x10, x11)
def f_X12_count_l133 (σ : Hp) (kl133 : (Int32 × Int32) → Option (Int32)) (t7 : Int32 × Int32) : Option (Int32) :=
  if (σ.1 86 22) ≤ t7.2 then some t7.1 else ldI σ 105 8 t7.2 fun v8 => jn (f_X12_count_j156 t7 kl133) fun k156 => if v8 = 0 then k156 (0 : Int32) else k156 (1 : Int32)
def f_X12_count_j191 (t12 : Int32 × Int32) (kl168 : (Int32 × Int32) → Option (Int32)) (t14 : Int32) : Option (Int32) :=
  lt (t12.1 + t14) fun x15 => lt (t12.2 + (1 : Int32)) fun x16 => kl168 (x15, x16)
def f_X12_count_l168 (σ : Hp) (kl168 : (Int32 × Int32) → Option (Int32)) (t12 : Int32 × Int32) : Option (Int32) :=
  if (σ.1 86 38) ≤ t12.2 then some t12.1 else ldI σ 119 16 t12.2 fun v13 => jn (f_X12_count_j191 t12 kl168) fun k191 => if v13 = 0 then k191 (1 : Int32) else k191 (0 : Int32)
def f_X12_count (a1 : Int32) (σ : Hp) : Option (Int32) :=
  cr (f_X12_isIn a1.toInt64 (11 : Int64) (17 : Int64)) fun v1 => if v1 = 0 then if a1 = (0 : Int32) then some (σ.1 86 23) else if a1 = (1 : Int32) then some (σ.1 86 20) else if a1 = (2 : Int32) then some (σ.1 86 21) else if a1 = (3 : Int32) then lp (f_X12_count_l93 σ) FU ((0 : Int32), (0 : Int32)) else if a1 = (4 : Int32) then some (σ.1 86 22) else if a1 = (5 : Int32) then lp (f_X12_count_l133 σ) FU ((0 : Int32), (0 : Int32)) else if a1 = (6 : Int32) then lp (f_X12_count_l168 σ) FU ((0 : Int32), (0 : Int32)) else if a1 = (7 : Int32) then some (σ.1 86 50) else if a1 = (8 : Int32) then some (σ.1 86 37) else some (-9 : Int32) else ldI σ 87 8 (a1 - (10 : Int32)) fun v17 => some v17
def f_X12_divisor_l28 (kl28 : (Int64 × Int64) → Option (Int64)) (t3 : Int64 × Int64) : Option (Int64) :=
  if (lg_cmp t3.2 (0 : Int64)) = 0 then some t3.1 else dvJ t3.2 <| lt (t3.1 - t3.1 / t3.2 * t3.2) fun x4 => kl28 (t3.2, x4)
def f_X12_divisor_j26 (t1 : Int64) (t2 : Int64) : Option (Int64) :=
  lp (f_X12_divisor_l28) FU (t1, t2)
def f_X12_divisor_j12 (a2 : Int64) (t1 : Int64) : Option (Int64) :=
  jn (f_X12_divisor_j26 t1) fun k26 => if 0 ≤ (lg_cmp a2 (0 : Int64)) then k26 a2 else k26 (-a2)
def f_X12_divisor (a1 : Int64) (a2 : Int64) : Option (Int64) :=
  jn (f_X12_divisor_j12 a2) fun k12 => if 0 ≤ (lg_cmp a1 (0 : Int64)) then k12 a1 else k12 (-a1)
def f_X12_out_j24 (t1 : Int32) : Option (Int32) :=
  some t1
def f_X12_out (a1 : Int64) (a2 : Int64) (a3 : Int64) : Option (Int32) :=
  jn (f_X12_out_j24) fun k24 => if 0 ≤ (lg_cmp a1 a2) then if (lg_cmp a1 a3) ≤ 0 then k24 (0 : Int32) else k24 (-6 : Int32) else k24 (-4 : Int32)
def f_X12_feed_l46 (a1 : Int32) (a2 : Int64) (kl46 : (Int32 × Hp) → Option (Int32 × Hp)) (t3 : Int32 × Hp) : Option (Int32 × Hp) :=
  if a1 ≤ t3.1 then some ((t3.2.1 86 37), t3.2) else stI t3.2 115 40 (t3.2.1 86 37) ((a2 >>> (((8 : Int32) * t3.1).toInt64 &&& 63)) &&& (255 : Int64)).toInt32 fun σ4 => lt (sI σ4 86 37 ((σ4.1 86 37) + (1 : Int32))) fun σ5 => lt (t3.1 + (1 : Int32)) fun x6 => kl46 (x6, σ5)
def f_X12_feed_j31 (a1 : Int32) (a2 : Int64) (σ : Hp) (t2 : Int32) : Option (Int32 × Hp) :=
  if t2 = 0 then lp (f_X12_feed_l46 a1 a2) FU ((0 : Int32), σ) else cl (f_X12_no t2 σ) fun v7 σ8 => some (v7, σ8)
def f_X12_feed (a1 : Int32) (a2 : Int64) (σ : Hp) : Option (Int32 × Hp) :=
  cr (f_X12_out a1.toInt64 (1 : Int64) (8 : Int64)) fun v1 => jn (f_X12_feed_j31 a1 a2 σ) fun k31 => if v1 = 0 then if ((σ.1 86 37) + a1) ≤ (40 : Int32) then k31 v1 else k31 (-6 : Int32) else k31 v1
def f_X12_waitsFor (a1 : Int32) (σ : Hp) : Option (Hp) :=
  stI σ 120 40 (σ.1 86 44) a1 fun σ1 => lt (sI σ1 86 44 ((σ1.1 86 44) + (1 : Int32))) fun σ2 => some σ2
def f_X12_works_j144 (kl0 : Hp → Option (Hp)) (t5 : Hp) : Option (Hp) :=
  kl0 t5
def f_X12_works_j143 (k144 : Hp → Option (Hp)) (σ8 : Hp) (t9 : Int32) : Option (Hp) :=
  stI σ8 121 40 ((σ8.1 86 45) - (1 : Int32)) t9 fun σ10 => k144 σ10
def f_X12_works_l0 (a1 : Int32) (kl0 : Hp → Option (Hp)) (t1 : Hp) : Option (Hp) :=
  if (t1.1 86 44) ≤ 0 then some t1 else ldI t1 120 40 ((t1.1 86 44) - (1 : Int32)) fun v2 => if a1 < v2 then some t1 else lt (sI t1 86 44 ((t1.1 86 44) - (1 : Int32))) fun σ3 => ldI σ3 120 40 (σ3.1 86 44) fun v4 => jn (f_X12_works_j144 kl0) fun k144 => if v4 = 0 then ldI σ3 121 40 ((σ3.1 86 45) - (1 : Int32)) fun v6 => stI σ3 121 40 ((σ3.1 86 45) - (1 : Int32)) ((1 : Int32) - v6) fun σ7 => k144 σ7 else lt (sI σ3 86 45 ((σ3.1 86 45) - (1 : Int32))) fun σ8 => jn (f_X12_works_j143 k144 σ8) fun k143 => if v4 = (1 : Int32) then ldI σ8 121 40 ((σ8.1 86 45) - (1 : Int32)) fun v11 => ldI σ8 121 40 (σ8.1 86 45) fun v12 => k143 (v11 &&& v12) else ldI σ8 121 40 ((σ8.1 86 45) - (1 : Int32)) fun v13 => ldI σ8 121 40 (σ8.1 86 45) fun v14 => k143 (v13 ||| v14)
def f_X12_works (a1 : Int32) (σ : Hp) : Option (Hp) :=
  lp (f_X12_works_l0 a1) FU σ
def f_X12_holdsRule_j226 (σ5 : Hp) (t7 : Int32) : Option (Int32 × Hp) :=
  ckZ t7 (some (t7, σ5))
def f_X12_holdsRule_j206 (t4 : Hp) : Option (Int32 × Hp) :=
  cr (f_X12_works (2 : Int32) t4) fun σ5 => ldI σ5 121 40 (0 : Int32) fun v6 => jn (f_X12_holdsRule_j226 σ5) fun k226 => if v6 = (1 : Int32) then k226 (1 : Int32) else k226 (0 : Int32)
def f_X12_holdsRule_j193 (kl15 : Hp → Option (Int32 × Hp)) (t20 : Hp) : Option (Int32 × Hp) :=
  lt (sI t20 86 43 ((t20.1 86 43) + (1 : Int32))) fun σ21 => kl15 σ21
def f_X12_holdsRule_j173 (a1 : Int32) (kl15 : Hp → Option (Int32 × Hp)) (t18 : Hp) : Option (Int32 × Hp) :=
  cr (f_X12_signOf a1 t18) fun v19 => jn (f_X12_holdsRule_j193 kl15) fun k193 => if v19 = (124 : Int32) then cr (f_X12_works (2 : Int32) t18) fun σ22 => cr (f_X12_waitsFor (2 : Int32) σ22) fun σ23 => k193 σ23 else k193 t18
def f_X12_holdsRule_j153 (a1 : Int32) (kl15 : Hp → Option (Int32 × Hp)) (t16 : Hp) : Option (Int32 × Hp) :=
  cr (f_X12_signOf a1 t16) fun v17 => jn (f_X12_holdsRule_j173 a1 kl15) fun k173 => if v17 = (38 : Int32) then cr (f_X12_works (1 : Int32) t16) fun σ24 => cr (f_X12_waitsFor (1 : Int32) σ24) fun σ25 => k173 σ25 else k173 t16
def f_X12_holdsRule_l110 (a1 : Int32) (k153 : Hp → Option (Int32 × Hp)) (kl110 : Hp → Option (Int32 × Hp)) (t26 : Hp) : Option (Int32 × Hp) :=
  cr (f_X12_signOf a1 t26) fun v27 => if v27 = (41 : Int32) then cr (f_X12_works (2 : Int32) t26) fun σ28 => lt (sI σ28 86 44 ((σ28.1 86 44) - (1 : Int32))) fun σ29 => lt (sI σ29 86 43 ((σ29.1 86 43) + (1 : Int32))) fun σ30 => cr (f_X12_works (0 : Int32) σ30) fun σ31 => kl110 σ31 else k153 t26
def f_X12_holdsRule_j81 (a1 : Int32) (kl15 : Hp → Option (Int32 × Hp)) (t10 : Hp) : Option (Int32 × Hp) :=
  cl (f_X12_compared a1 t10) fun v11 σ12 => stI σ12 121 40 (t10.1 86 45) v11 fun σ13 => lt (sI σ13 86 45 ((σ13.1 86 45) + (1 : Int32))) fun σ14 => cr (f_X12_works (0 : Int32) σ14) fun σ15 => jn (f_X12_holdsRule_j153 a1 kl15) fun k153 => lp (f_X12_holdsRule_l110 a1 k153) FU σ15
def f_X12_holdsRule_j65 (t32 : Hp) (kl28 : Hp → Option (Int32 × Hp)) (t36 : Int32) : Option (Int32 × Hp) :=
  cr (f_X12_waitsFor t36 t32) fun σ37 => lt (sI σ37 86 43 ((σ37.1 86 43) + (1 : Int32))) fun σ38 => kl28 σ38
def f_X12_holdsRule_j48 (a1 : Int32) (t32 : Hp) (kl28 : Hp → Option (Int32 × Hp)) (t34 : Unit) : Option (Int32 × Hp) :=
  cr (f_X12_signOf a1 t32) fun v35 => jn (f_X12_holdsRule_j65 t32 kl28) fun k65 => if v35 = (33 : Int32) then k65 (0 : Int32) else k65 (9 : Int32)
def f_X12_holdsRule_l28 (a1 : Int32) (k81 : Hp → Option (Int32 × Hp)) (kl28 : Hp → Option (Int32 × Hp)) (t32 : Hp) : Option (Int32 × Hp) :=
  cr (f_X12_signOf a1 t32) fun v33 => jn (f_X12_holdsRule_j48 a1 t32 kl28) fun k48 => if v33 = (33 : Int32) then k48 () else cr (f_X12_signOf a1 t32) fun v39 => if v39 = (40 : Int32) then k48 () else k81 t32
def f_X12_holdsRule_l15 (a1 : Int32) (k206 : Hp → Option (Int32 × Hp)) (kl15 : Hp → Option (Int32 × Hp)) (t8 : Hp) : Option (Int32 × Hp) :=
  ldI t8 117 16 a1 fun v9 => if v9 ≤ (t8.1 86 43) then k206 t8 else jn (f_X12_holdsRule_j81 a1 kl15) fun k81 => lp (f_X12_holdsRule_l28 a1 k81) FU t8
def f_X12_holdsRule (a1 : Int32) (σ : Hp) : Option (Int32 × Hp) :=
  lt (sI σ 86 43 (3 : Int32)) fun σ1 => lt (sI σ1 86 44 (0 : Int32)) fun σ2 => lt (sI σ2 86 45 (0 : Int32)) fun σ3 => jn (f_X12_holdsRule_j206) fun k206 => lp (f_X12_holdsRule_l15 a1 k206) FU σ3
def f_X12_forbidden_j73 (t1 : Int32 × Hp) (kl2 : (Int32 × Hp) → Option (Int32 × Hp)) (t3 : Hp) : Option (Int32 × Hp) :=
  lt (t1.1 + (1 : Int32)) fun x4 => kl2 (x4, t3)
def f_X12_forbidden_j39 (a1 : Int32) (t1 : Int32 × Hp) (k73 : Hp → Option (Int32 × Hp)) (v5 : Int32) (t6 : Int32) : Option (Int32 × Hp) :=
  if v5 = t6 then ldI t1.2 116 640 (((40 : Int32) * t1.1) + (1 : Int32)) fun v7 => if v7 = ((48 : Int32) + a1) then cl (f_X12_holdsRule t1.1 t1.2) fun v8 σ9 => if v8 = 0 then k73 σ9 else some (t1.1, σ9) else k73 t1.2 else k73 t1.2
def f_X12_forbidden_l2 (a1 : Int32) (a2 : Int32) (kl2 : (Int32 × Hp) → Option (Int32 × Hp)) (t1 : Int32 × Hp) : Option (Int32 × Hp) :=
  if (t1.2.1 86 38) ≤ t1.1 then some ((-9 : Int32), t1.2) else ldI t1.2 119 16 t1.1 fun v2 => jn (f_X12_forbidden_j73 t1 kl2) fun k73 => if v2 = 0 then ldI t1.2 116 640 ((40 : Int32) * t1.1) fun v5 => jn (f_X12_forbidden_j39 a1 t1 k73 v5) fun k39 => if a2 = 0 then k39 (86 : Int32) else k39 (80 : Int32) else k73 t1.2
def f_X12_forbidden (a1 : Int32) (a2 : Int32) (σ : Hp) : Option (Int32 × Hp) :=
  lp (f_X12_forbidden_l2 a1 a2) FU ((0 : Int32), σ)
def f_X12_mayStart_j32 (t2 : Int32 × Hp) : Option (Int32 × Hp) :=
  ckZ t2.1 (some (t2.1, t2.2))
def f_X12_mayStart_j31 (k32 : (Int32 × Hp) → Option (Int32 × Hp)) (t3 : Hp) : Option (Int32 × Hp) :=
  k32 ((0 : Int32), t3)
def f_X12_mayStart (a1 : Int32) (σ : Hp) : Option (Int32 × Hp) :=
  ldI σ 105 8 a1 fun v1 => jn (f_X12_mayStart_j32) fun k32 => jn (f_X12_mayStart_j31 k32) fun k31 => if v1 = 0 then ldI σ 106 8 a1 fun v4 => if v4 = 0 then cl (f_X12_forbidden a1 (1 : Int32) σ) fun v5 σ6 => if 0 ≤ v5 then k31 σ6 else k32 ((1 : Int32), σ6) else k31 σ else k31 σ
def f_X12_findOrder_l176 (v1 : Int32) (t3 : Int32 × Hp) (kl176 : (Int32 × Hp) → Option (Int32 × Hp)) (t4 : Int32 × Hp) : Option (Int32 × Hp) :=
  if v1 ≤ t4.1 then ckZ t3.1 (some (t3.1, t4.2)) else if t3.1 = 0 then ckZ t3.1 (some (t3.1, t4.2)) else ldI t4.2 126 6 t4.1 fun v5 => stI t4.2 127 6 t4.1 v5 fun σ6 => ldI σ6 126 6 t4.1 fun v7 => stZ σ6 105 8 v7 (0 : Int32) fun σ8 => lt (t4.1 + (1 : Int32)) fun x9 => kl176 (x9, σ8)
def f_X12_findOrder_j173 (v1 : Int32) (t3 : Int32 × Hp) : Option (Int32 × Hp) :=
  lp (f_X12_findOrder_l176 v1 t3) FU ((0 : Int32), t3.2)
def f_X12_findOrder_j109 (v1 : Int32) (t10 : Int32 × Int32 × Hp) (kl17 : (Int32 × Int32 × Hp) → Option (Int32 × Hp)) (t15 : Hp) : Option (Int32 × Hp) :=
  ldI t15 126 6 t10.1 fun v16 => if v16 < (t15.1 86 22) then ldI t15 126 6 t10.1 fun v17 => stZ t15 105 8 v17 (1 : Int32) fun σ18 => if t10.1 = (v1 - (1 : Int32)) then kl17 (t10.1, (1 : Int32), σ18) else lt (t10.1 + (1 : Int32)) fun x19 => stI σ18 126 6 x19 (-1 : Int32) fun σ20 => kl17 (x19, t10.2.1, σ20) else stI t15 126 6 t10.1 (-1 : Int32) fun σ21 => lt (t10.1 + (-1 : Int32)) fun x22 => kl17 (x22, t10.2.1, σ21)
def f_X12_findOrder_j96 (t10 : Int32 × Int32 × Hp) (kl57 : Hp → Option (Int32 × Hp)) (t26 : Hp) : Option (Int32 × Hp) :=
  ldI t26 126 6 t10.1 fun v27 => stI t26 126 6 t10.1 (v27 + (1 : Int32)) fun σ28 => kl57 σ28
def f_X12_findOrder_l57 (a1 : Int32) (t10 : Int32 × Int32 × Hp) (k109 : Hp → Option (Int32 × Hp)) (kl57 : Hp → Option (Int32 × Hp)) (t23 : Hp) : Option (Int32 × Hp) :=
  ldI t23 126 6 t10.1 fun v24 => if (t23.1 86 22) ≤ v24 then k109 t23 else ldI t23 126 6 t10.1 fun v25 => jn (f_X12_findOrder_j96 t10 kl57) fun k96 => if ((a1 >>> (v25 &&& 31)) &&& (1 : Int32)) = 0 then k96 t23 else ldI t23 126 6 t10.1 fun v29 => cl (f_X12_mayStart v29 t23) fun v30 σ31 => if v30 = 0 then k96 σ31 else k109 σ31
def f_X12_findOrder_j47 (a1 : Int32) (v1 : Int32) (t10 : Int32 × Int32 × Hp) (kl17 : (Int32 × Int32 × Hp) → Option (Int32 × Hp)) (t12 : Hp) : Option (Int32 × Hp) :=
  ldI t12 126 6 t10.1 fun v13 => stI t12 126 6 t10.1 (v13 + (1 : Int32)) fun σ14 => jn (f_X12_findOrder_j109 v1 t10 kl17) fun k109 => lp (f_X12_findOrder_l57 a1 t10 k109) FU σ14
def f_X12_findOrder_l17 (a1 : Int32) (v1 : Int32) (k173 : (Int32 × Hp) → Option (Int32 × Hp)) (kl17 : (Int32 × Int32 × Hp) → Option (Int32 × Hp)) (t10 : Int32 × Int32 × Hp) : Option (Int32 × Hp) :=
  if t10.1 < 0 then k173 (t10.2.1, t10.2.2) else if t10.2.1 = 0 then ldI t10.2.2 126 6 t10.1 fun v11 => jn (f_X12_findOrder_j47 a1 v1 t10 kl17) fun k47 => if v11 < 0 then k47 t10.2.2 else ldI t10.2.2 126 6 t10.1 fun v32 => stZ t10.2.2 105 8 v32 (0 : Int32) fun σ33 => k47 σ33 else k173 (t10.2.1, t10.2.2)
def f_X12_findOrder (a1 : Int32) (σ : Hp) : Option (Int32 × Hp) :=
  cr (f_X12_bits a1) fun v1 => stI σ 126 6 (0 : Int32) (-1 : Int32) fun σ2 => jn (f_X12_findOrder_j173 v1) fun k173 => lp (f_X12_findOrder_l17 a1 v1 k173) FU ((0 : Int32), (0 : Int32), σ2)
def f_X12_findParts_j124 (t2 : Int32 × Hp) (kl25 : (Int32 × Hp) → Option (Hp)) (t3 : Hp) : Option (Hp) :=
  lt (t2.1 + (1 : Int32)) fun x4 => kl25 (x4, t3)
def f_X12_findParts_j118 (t5 : Int32 × Hp) (kl32 : (Int32 × Hp) → Option (Hp)) (t9 : Hp) : Option (Hp) :=
  lt (t5.1 + (1 : Int32)) fun x10 => kl32 (x10, t9)
def f_X12_findParts_j99 (t5 : Int32 × Hp) (v6 : Int32) (v7 : Int32) (k118 : Hp → Option (Hp)) (t13 : Int32) : Option (Hp) :=
  stI t5.2 129 5 v6 t13 fun σ14 => stI σ14 129 5 v7 t13 fun σ15 => k118 σ15
def f_X12_findParts_l32 (k124 : Hp → Option (Hp)) (kl32 : (Int32 × Hp) → Option (Hp)) (t5 : Int32 × Hp) : Option (Hp) :=
  if (t5.2.1 86 21) ≤ t5.1 then k124 t5.2 else ldI t5.2 92 12 t5.1 fun v6 => ldI t5.2 93 12 t5.1 fun v7 => ldI t5.2 104 12 t5.1 fun v8 => jn (f_X12_findParts_j118 t5 kl32) fun k118 => if v8 = 0 then k118 t5.2 else ldI t5.2 129 5 v6 fun v11 => ldI t5.2 129 5 v7 fun v12 => jn (f_X12_findParts_j99 t5 v6 v7 k118) fun k99 => if v12 ≤ v11 then ldI t5.2 129 5 v7 fun v16 => k99 v16 else ldI t5.2 129 5 v6 fun v17 => k99 v17
def f_X12_findParts_l25 (kl25 : (Int32 × Hp) → Option (Hp)) (t2 : Int32 × Hp) : Option (Hp) :=
  if (5 : Int32) ≤ t2.1 then some t2.2 else jn (f_X12_findParts_j124 t2 kl25) fun k124 => lp (f_X12_findParts_l32 k124) FU ((0 : Int32), t2.2)
def f_X12_findParts_j23 (t1 : Hp) : Option (Hp) :=
  lp (f_X12_findParts_l25) FU ((0 : Int32), t1)
def f_X12_findParts_l2 (k23 : Hp → Option (Hp)) (kl2 : (Int32 × Hp) → Option (Hp)) (t18 : Int32 × Hp) : Option (Hp) :=
  if (t18.2.1 86 20) ≤ t18.1 then k23 t18.2 else stI t18.2 129 5 t18.1 t18.1 fun σ19 => lt (t18.1 + (1 : Int32)) fun x20 => kl2 (x20, σ19)
def f_X12_findParts (σ : Hp) : Option (Hp) :=
  jn (f_X12_findParts_j23) fun k23 => lp (f_X12_findParts_l2 k23) FU ((0 : Int32), σ)
def f_X12_fits_j84 (σ : Hp) (t1 : Int32) (kl2 : Int32 → Option (Int32)) (t2 : Int32) : Option (Int32) :=
  ldI σ 148 20 t1 fun v3 => if t2 = v3 then lt (t1 + (1 : Int32)) fun x4 => kl2 x4 else ckZ (0 : Int32) (some (0 : Int32))
def f_X12_fits_j77 (t5 : Int32 × Int32) (kl15 : (Int32 × Int32) → Option (Int32)) (t6 : Int32) : Option (Int32) :=
  lt (t5.2 + (1 : Int32)) fun x7 => kl15 (t6, x7)
def f_X12_fits_j72 (k77 : Int32 → Option (Int32)) (t8 : Unit) : Option (Int32) :=
  k77 (1 : Int32)
def f_X12_fits_j76 (k77 : Int32 → Option (Int32)) (t10 : Unit) : Option (Int32) :=
  k77 (0 : Int32)
def f_X12_fits_l15 (a1 : Int32) (σ : Hp) (t1 : Int32) (k84 : Int32 → Option (Int32)) (kl15 : (Int32 × Int32) → Option (Int32)) (t5 : Int32 × Int32) : Option (Int32) :=
  if (σ.1 86 75) ≤ t5.2 then k84 t5.1 else jn (f_X12_fits_j77 t5 kl15) fun k77 => jn (f_X12_fits_j72 k77) fun k72 => if t5.1 = 0 then ldI σ 144 20 t5.2 fun v9 => jn (f_X12_fits_j76 k77) fun k76 => if ((a1 >>> (v9 &&& 31)) &&& (1 : Int32)) = (1 : Int32) then ldI σ 145 20 t5.2 fun v11 => ldI σ 144 20 t5.2 fun v12 => ldI σ 143 8 v12 fun v13 => ldI σ 146 20 t1 fun v14 => if (v11 + v13) = v14 then k72 () else k76 () else k76 () else k72 ()
def f_X12_fits_l2 (a1 : Int32) (σ : Hp) (kl2 : Int32 → Option (Int32)) (t1 : Int32) : Option (Int32) :=
  if (σ.1 86 76) ≤ t1 then ckZ (1 : Int32) (some (1 : Int32)) else jn (f_X12_fits_j84 σ t1 kl2) fun k84 => lp (f_X12_fits_l15 a1 σ t1 k84) FU ((0 : Int32), (0 : Int32))
def f_X12_fits (a1 : Int32) (σ : Hp) : Option (Int32) :=
  lp (f_X12_fits_l2 a1 σ) FU (0 : Int32)
def f_X12_moves_j20 (a1 : Int32) (a2 : Int32) (σ : Hp) (t2 : Int32) : Option (Hp) :=
  ldI σ 99 15 a1 fun v3 => stI σ 99 15 a1 (v3 - t2) fun σ4 => ldI σ4 99 15 a2 fun v5 => stI σ4 99 15 a2 (v5 + t2) fun σ6 => some σ6
def f_X12_moves (a1 : Int32) (a2 : Int32) (a3 : Int32) (σ : Hp) : Option (Hp) :=
  ldI σ 99 15 a1 fun v1 => jn (f_X12_moves_j20 a1 a2 σ) fun k20 => if v1 ≤ a3 then ldI σ 99 15 a1 fun v7 => k20 v7 else k20 a3
def f_X12_share (a1 : Int32) (a2 : Int32) (σ : Hp) : Option (Int32) :=
  ldI σ 99 15 a1 fun v1 => dvI (3 : Int32) <| ldI σ 88 5 (a1 / (3 : Int32)) fun v2 => dvJ ((100 : Int64) * v2.toInt64) <| some ((v1.toInt64 * a2.toInt64) / ((100 : Int64) * v2.toInt64)).toInt32
def f_X12_flows_j198 (t2 : Int32 × Hp) (kl100 : (Int32 × Hp) → Option (Hp)) (t3 : Hp) : Option (Hp) :=
  lt (t2.1 + (1 : Int32)) fun x4 => kl100 (x4, t3)
def f_X12_flows_l110 (t2 : Int32 × Hp) (k198 : Hp → Option (Hp)) (kl110 : (Int32 × Hp) → Option (Hp)) (t5 : Int32 × Hp) : Option (Hp) :=
  if (3 : Int32) ≤ t5.1 then k198 t5.2 else ldI t5.2 104 12 t2.1 fun v6 => if v6 = 0 then k198 t5.2 else ldI t5.2 92 12 t2.1 fun v7 => ldI t5.2 93 12 t2.1 fun v8 => ldI t5.2 107 36 (((3 : Int32) * t2.1) + t5.1) fun v9 => cr (f_X12_moves (((3 : Int32) * v7) + t5.1) (((3 : Int32) * v8) + t5.1) v9 t5.2) fun σ10 => ldI σ10 93 12 t2.1 fun v11 => ldI σ10 92 12 t2.1 fun v12 => ldI σ10 108 36 (((3 : Int32) * t2.1) + t5.1) fun v13 => cr (f_X12_moves (((3 : Int32) * v11) + t5.1) (((3 : Int32) * v12) + t5.1) v13 σ10) fun σ14 => lt (t5.1 + (1 : Int32)) fun x15 => kl110 (x15, σ14)
def f_X12_flows_l100 (kl100 : (Int32 × Hp) → Option (Hp)) (t2 : Int32 × Hp) : Option (Hp) :=
  if (t2.2.1 86 21) ≤ t2.1 then some t2.2 else jn (f_X12_flows_j198 t2 kl100) fun k198 => lp (f_X12_flows_l110 t2 k198) FU ((0 : Int32), t2.2)
def f_X12_flows_j98 (t1 : Hp) : Option (Hp) :=
  lp (f_X12_flows_l100) FU ((0 : Int32), t1)
def f_X12_flows_j92 (t16 : Int32 × Hp) (kl2 : (Int32 × Hp) → Option (Hp)) (t17 : Hp) : Option (Hp) :=
  lt (t16.1 + (1 : Int32)) fun x18 => kl2 (x18, t17)
def f_X12_flows_l12 (t16 : Int32 × Hp) (k92 : Hp → Option (Hp)) (kl12 : (Int32 × Hp) → Option (Hp)) (t19 : Int32 × Hp) : Option (Hp) :=
  if (3 : Int32) ≤ t19.1 then k92 t19.2 else ldI t19.2 104 12 t16.1 fun v20 => if v20 = 0 then k92 t19.2 else ldI t19.2 92 12 t16.1 fun v21 => ldI t19.2 94 12 t16.1 fun v22 => cr (f_X12_share (((3 : Int32) * v21) + t19.1) v22 t19.2) fun v23 => stI t19.2 107 36 (((3 : Int32) * t16.1) + t19.1) v23 fun σ24 => ldI σ24 93 12 t16.1 fun v25 => ldI σ24 94 12 t16.1 fun v26 => cr (f_X12_share (((3 : Int32) * v25) + t19.1) v26 σ24) fun v27 => stI σ24 108 36 (((3 : Int32) * t16.1) + t19.1) v27 fun σ28 => lt (t19.1 + (1 : Int32)) fun x29 => kl12 (x29, σ28)
def f_X12_flows_l2 (k98 : Hp → Option (Hp)) (kl2 : (Int32 × Hp) → Option (Hp)) (t16 : Int32 × Hp) : Option (Hp) :=
  if (t16.2.1 86 21) ≤ t16.1 then k98 t16.2 else jn (f_X12_flows_j92 t16 kl2) fun k92 => lp (f_X12_flows_l12 t16 k92) FU ((0 : Int32), t16.2)
def f_X12_flows (σ : Hp) : Option (Hp) :=
  jn (f_X12_flows_j98) fun k98 => lp (f_X12_flows_l2 k98) FU ((0 : Int32), σ)
def f_X12_forbids_j29 (a1 : Int32) (a2 : Int32) (σ : Hp) (t1 : Unit) : Option (Int32 × Hp) :=
  cl (f_X12_forbidden a1 a2 σ) fun v2 σ3 => some (v2, σ3)
def f_X12_forbids_j23 (σ : Hp) (t4 : Unit) : Option (Int32 × Hp) :=
  cl (f_X12_no (-1 : Int32) σ) fun v5 σ6 => some (v5, σ6)
def f_X12_forbids (a1 : Int32) (a2 : Int32) (σ : Hp) : Option (Int32 × Hp) :=
  jn (f_X12_forbids_j29 a1 a2 σ) fun k29 => jn (f_X12_forbids_j23 σ) fun k23 => if a2 = 0 then cr (f_X12_isPipe a1 σ) fun v7 => if v7 = 0 then k23 () else k29 () else cr (f_X12_isPump a1 σ) fun v8 => if v8 = 0 then k23 () else k29 ()
def f_X12_forgets (σ : Hp) : Option (Hp) :=
  lt (sI σ 86 50 (0 : Int32)) fun σ1 => lt (sI σ1 86 51 (0 : Int32)) fun σ2 => some σ2
def f_X12_gas_j15 (σ : Hp) (t2 : Unit) : Option (Int32 × Hp) :=
  cl (f_X12_no (-1 : Int32) σ) fun v3 σ4 => some (v3, σ4)
def f_X12_gas_j155 (t12 : Hp) (t13 : Int32) : Option (Int32 × Hp) :=
  some (t13, t12)
def f_X12_gas_j133 (a4 : Int32) (x7 : Int32) (t12 : Hp) : Option (Int32 × Hp) :=
  jn (f_X12_gas_j155 t12) fun k155 => if a4 = 0 then ldI t12 99 15 x7 fun v14 => k155 v14 else ldI t12 100 15 x7 fun v15 => k155 v15
def f_X12_gas_j77 (a2 : Int32) (a3 : Int32) (a4 : Int32) (σ : Hp) (x7 : Int32) (t8 : Int32) : Option (Int32 × Hp) :=
  if t8 = 0 then cr (f_X12_forgets σ) fun σ9 => ldI σ9 102 3 a2 fun v10 => stI σ9 102 3 a2 (v10 + a3) fun σ11 => jn (f_X12_gas_j133 a4 x7) fun k133 => if a4 = 0 then ldI σ11 99 15 x7 fun v16 => stI σ11 99 15 x7 (v16 + a3) fun σ17 => k133 σ17 else ldI σ11 100 15 x7 fun v18 => stI σ11 100 15 x7 (v18 + a3) fun σ19 => k133 σ19 else cl (f_X12_no t8 σ) fun v20 σ21 => some (v20, σ21)
def f_X12_gas_j66 (a3 : Int32) (v6 : Int32) (k77 : Int32 → Option (Int32 × Hp)) (t22 : Int32) : Option (Int32 × Hp) :=
  if (t22 + a3) ≤ (999999 : Int32) then k77 v6 else k77 (-6 : Int32)
def f_X12_gas (a1 : Int32) (a2 : Int32) (a3 : Int32) (a4 : Int32) (σ : Hp) : Option (Int32 × Hp) :=
  cr (f_X12_isRoom a1 σ) fun v1 => jn (f_X12_gas_j15 σ) fun k15 => if v1 = 0 then k15 () else cr (f_X12_isGas a2) fun v5 => if v5 = 0 then k15 () else cr (f_X12_out a3.toInt64 (1 : Int64) (99999 : Int64)) fun v6 => lt (((3 : Int32) * a1) + a2) fun x7 => jn (f_X12_gas_j77 a2 a3 a4 σ x7) fun k77 => if v6 = 0 then jn (f_X12_gas_j66 a3 v6 k77) fun k66 => if a4 = 0 then ldI σ 99 15 x7 fun v23 => k66 v23 else ldI σ 100 15 x7 fun v24 => k66 v24 else k77 v6
def f_X12_gives_j24 (σ : Hp) (t2 : Unit) : Option (Int32 × Hp) :=
  cl (f_X12_no (-1 : Int32) σ) fun v3 σ4 => some (v3, σ4)
def f_X12_gives (a1 : Int32) (a2 : Int32) (a3 : Int32) (σ : Hp) : Option (Int32 × Hp) :=
  cr (f_X12_isIn a1.toInt64 (0 : Int64) (3 : Int64)) fun v1 => jn (f_X12_gives_j24 σ) fun k24 => if v1 = 0 then k24 () else cr (f_X12_isIn a2.toInt64 (0 : Int64) (9 : Int64)) fun v5 => if v5 = 0 then k24 () else cr (f_X12_out a3.toInt64 (0 : Int64) (500 : Int64)) fun v6 => if v6 = 0 then cr (f_X12_forgets σ) fun σ7 => ldI σ7 91 40 (((10 : Int32) * a1) + a2) fun v8 => stI σ7 91 40 (((10 : Int32) * a1) + a2) a3 fun σ9 => some (v8, σ9) else cl (f_X12_no v6 σ) fun v10 σ11 => some (v10, σ11)
def f_X12_holds (a1 : Int32) (σ : Hp) : Option (Int32) :=
  ldI σ 101 24 ((3 : Int32) * a1) fun v1 => ldI σ 101 24 (((3 : Int32) * a1) + (1 : Int32)) fun v2 => ldI σ 101 24 (((3 : Int32) * a1) + (2 : Int32)) fun v3 => some ((v1 + v2) + v3)
def f_X12_givesBack_j63 (a1 : Int32) (t1 : Hp) : Option (Hp) :=
  cr (f_X12_holds a1 t1) fun v2 => if v2 = 0 then stZ t1 106 8 a1 (0 : Int32) fun σ3 => some σ3 else some t1
def f_X12_givesBack_l2 (a1 : Int32) (k63 : Hp → Option (Hp)) (kl2 : (Int32 × Hp) → Option (Hp)) (t4 : Int32 × Hp) : Option (Hp) :=
  if (3 : Int32) ≤ t4.1 then k63 t4.2 else ldI t4.2 101 24 (((3 : Int32) * a1) + t4.1) fun v5 => dvI (10 : Int32) <| lt ((v5 + (9 : Int32)) / (10 : Int32)) fun x6 => ldI t4.2 101 24 (((3 : Int32) * a1) + t4.1) fun v7 => stI t4.2 101 24 (((3 : Int32) * a1) + t4.1) (v7 - x6) fun σ8 => ldI σ8 95 8 a1 fun v9 => ldI σ8 99 15 (((3 : Int32) * v9) + t4.1) fun v10 => stI σ8 99 15 (((3 : Int32) * v9) + t4.1) (v10 + x6) fun σ11 => lt (t4.1 + (1 : Int32)) fun x12 => kl2 (x12, σ11)
def f_X12_givesBack (a1 : Int32) (σ : Hp) : Option (Hp) :=
  jn (f_X12_givesBack_j63 a1) fun k63 => lp (f_X12_givesBack_l2 a1 k63) FU ((0 : Int32), σ)
def f_X12_hidden_j72 (t1 : Int32 × Int32) (kl4 : (Int32 × Int32) → Option (Int32)) (t3 : Int32) : Option (Int32) :=
  lt (t1.1 ||| t3) fun x4 => lt (t1.2 + (1 : Int32)) fun x5 => kl4 (x4, x5)
def f_X12_hidden_j60 (t1 : Int32 × Int32) (kl4 : (Int32 × Int32) → Option (Int32)) (t2 : Int32) : Option (Int32) :=
  jn (f_X12_hidden_j72 t1 kl4) fun k72 => if t2 = 0 then k72 ((1 : Int32) <<< (t1.2 &&& 31)) else k72 (0 : Int32)
def f_X12_hidden_j53 (t6 : Int32 × Int32) (kl14 : (Int32 × Int32) → Option (Int32)) (t7 : Int32) : Option (Int32) :=
  lt (t6.2 + (1 : Int32)) fun x8 => kl14 (t7, x8)
def f_X12_hidden_j48 (k53 : Int32 → Option (Int32)) (t9 : Unit) : Option (Int32) :=
  k53 (1 : Int32)
def f_X12_hidden_j52 (k53 : Int32 → Option (Int32)) (t11 : Unit) : Option (Int32) :=
  k53 (0 : Int32)
def f_X12_hidden_l14 (σ : Hp) (t1 : Int32 × Int32) (k60 : Int32 → Option (Int32)) (kl14 : (Int32 × Int32) → Option (Int32)) (t6 : Int32 × Int32) : Option (Int32) :=
  if (3 : Int32) ≤ t6.2 then k60 t6.1 else jn (f_X12_hidden_j53 t6 kl14) fun k53 => jn (f_X12_hidden_j48 k53) fun k48 => if t6.1 = 0 then ldI σ 138 3 t6.2 fun v10 => jn (f_X12_hidden_j52 k53) fun k52 => if v10 < 0 then k52 () else ldI σ 137 9 (((3 : Int32) * t6.2) + t1.2) fun v12 => if v12 ≤ 0 then k52 () else k48 () else k48 ()
def f_X12_hidden_l4 (σ : Hp) (kl4 : (Int32 × Int32) → Option (Int32)) (t1 : Int32 × Int32) : Option (Int32) :=
  if (3 : Int32) ≤ t1.2 then some t1.1 else jn (f_X12_hidden_j60 t1 kl4) fun k60 => lp (f_X12_hidden_l14 σ t1 k60) FU ((0 : Int32), (0 : Int32))
def f_X12_hidden (σ : Hp) : Option (Int32) :=
  lp (f_X12_hidden_l4 σ) FU ((0 : Int32), (0 : Int32))
def f_X12_isLeakedInto_j47 (t1 : Int32 × Int32) (kl4 : (Int32 × Int32) → Option (Int32)) (t2 : Int32) : Option (Int32) :=
  lt (t1.2 + (1 : Int32)) fun x3 => kl4 (t2, x3)
def f_X12_isLeakedInto_j42 (k47 : Int32 → Option (Int32)) (t4 : Unit) : Option (Int32) :=
  k47 (1 : Int32)
def f_X12_isLeakedInto_j46 (k47 : Int32 → Option (Int32)) (t7 : Unit) : Option (Int32) :=
  k47 (0 : Int32)
def f_X12_isLeakedInto_l4 (a1 : Int32) (σ : Hp) (kl4 : (Int32 × Int32) → Option (Int32)) (t1 : Int32 × Int32) : Option (Int32) :=
  if (σ.1 86 20) ≤ t1.2 then ckZ t1.1 (some t1.1) else jn (f_X12_isLeakedInto_j47 t1 kl4) fun k47 => jn (f_X12_isLeakedInto_j42 k47) fun k42 => if t1.1 = 0 then ldI σ 129 5 t1.2 fun v5 => ldI σ 129 5 a1 fun v6 => jn (f_X12_isLeakedInto_j46 k47) fun k46 => if v5 = v6 then ldI σ 98 15 ((3 : Int32) * t1.2) fun v8 => if v8 ≤ 0 then k46 () else k42 () else k46 () else k42 ()
def f_X12_isLeakedInto (a1 : Int32) (σ : Hp) : Option (Int32) :=
  lp (f_X12_isLeakedInto_l4 a1 σ) FU ((0 : Int32), (0 : Int32))
def f_X12_shortens_l38 (a1 : Int32) (t1 : Int64) (kl38 : (Int32 × Hp) → Option (Hp)) (t2 : Int32 × Hp) : Option (Hp) :=
  if (6 : Int32) ≤ t2.1 then some t2.2 else if (lg_cmp t1 (1 : Int64)) ≤ 0 then some t2.2 else ldJ t2.2 128 30 (((6 : Int32) * a1) + t2.1) fun v3 => dvJ t1 <| stJ t2.2 128 30 (((6 : Int32) * a1) + t2.1) (v3 / t1) fun σ4 => lt (t2.1 + (1 : Int32)) fun x5 => kl38 (x5, σ4)
def f_X12_shortens_j35 (a1 : Int32) (σ : Hp) (t1 : Int64) : Option (Hp) :=
  lp (f_X12_shortens_l38 a1 t1) FU ((0 : Int32), σ)
def f_X12_shortens_l5 (a1 : Int32) (σ : Hp) (k35 : Int64 → Option (Hp)) (kl5 : (Int64 × Int32) → Option (Hp)) (t6 : Int64 × Int32) : Option (Hp) :=
  if (6 : Int32) ≤ t6.2 then k35 t6.1 else ldJ σ 128 30 (((6 : Int32) * a1) + t6.2) fun v7 => cr (f_X12_divisor t6.1 v7) fun v8 => lt (t6.2 + (1 : Int32)) fun x9 => kl5 (v8, x9)
def f_X12_shortens (a1 : Int32) (σ : Hp) : Option (Hp) :=
  jn (f_X12_shortens_j35 a1 σ) fun k35 => lp (f_X12_shortens_l5 a1 σ k35) FU ((0 : Int64), (0 : Int32))
def f_X12_speedAt_j56 (t2 : Int32 × Int32) (kl10 : (Int32 × Int32) → Option (Int32)) (t4 : Int32) : Option (Int32) :=
  lt (t2.1 + t4) fun x5 => lt (t2.2 + (1 : Int32)) fun x6 => kl10 (x5, x6)
def f_X12_speedAt_j55 (k56 : Int32 → Option (Int32)) (t7 : Unit) : Option (Int32) :=
  k56 (0 : Int32)
def f_X12_speedAt_l10 (a1 : Int32) (a2 : Int32) (σ : Hp) (kl10 : (Int32 × Int32) → Option (Int32)) (t2 : Int32 × Int32) : Option (Int32) :=
  if (σ.1 86 22) ≤ t2.2 then some t2.1 else ldI σ 105 8 t2.2 fun v3 => jn (f_X12_speedAt_j56 t2 kl10) fun k56 => jn (f_X12_speedAt_j55 k56) fun k55 => if v3 = 0 then k55 () else ldI σ 95 8 t2.2 fun v8 => if v8 = a1 then ldI σ 96 24 (((3 : Int32) * t2.2) + a2) fun v9 => k56 v9 else k55 ()
def f_X12_speedAt (a1 : Int32) (a2 : Int32) (σ : Hp) : Option (Int32) :=
  ldI σ 130 5 a1 fun v1 => lp (f_X12_speedAt_l10 a1 a2 σ) FU (v1, (0 : Int32))
def f_X12_solves_j461 (t6 : Int32 × Hp) (kl332 : (Int32 × Hp) → Option (Hp)) (t7 : Hp) : Option (Hp) :=
  lt (t6.1 + (1 : Int32)) fun x8 => kl332 (x8, t7)
def f_X12_solves_j455 (t9 : Int32 × Hp) (kl342 : (Int32 × Hp) → Option (Hp)) (t12 : Hp) : Option (Hp) :=
  lt (t9.1 + (1 : Int32)) fun x13 => kl342 (x13, t12)
def f_X12_solves_j450 (t9 : Int32 × Hp) (k455 : Hp → Option (Hp)) (t14 : Hp) : Option (Hp) :=
  cr (f_X12_shortens t9.1 t14) fun σ15 => k455 σ15
def f_X12_solves_l394 (t6 : Int32 × Hp) (t9 : Int32 × Hp) (v10 : Int64) (v11 : Int64) (k450 : Hp → Option (Hp)) (kl394 : (Int32 × Hp) → Option (Hp)) (t16 : Int32 × Hp) : Option (Hp) :=
  if (6 : Int32) ≤ t16.1 then k450 t16.2 else ldJ t16.2 128 30 (((6 : Int32) * t9.1) + t16.1) fun v17 => ldJ t16.2 128 30 (((6 : Int32) * t6.1) + t16.1) fun v18 => stJ t16.2 128 30 (((6 : Int32) * t9.1) + t16.1) ((v17 * v11) - (v18 * v10)) fun σ19 => lt (t16.1 + (1 : Int32)) fun x20 => kl394 (x20, σ19)
def f_X12_solves_l342 (t6 : Int32 × Hp) (k461 : Hp → Option (Hp)) (kl342 : (Int32 × Hp) → Option (Hp)) (t9 : Int32 × Hp) : Option (Hp) :=
  if (t9.2.1 86 20) ≤ t9.1 then k461 t9.2 else ldJ t9.2 128 30 (((6 : Int32) * t9.1) + t6.1) fun v10 => ldJ t9.2 128 30 (((6 : Int32) * t6.1) + t6.1) fun v11 => jn (f_X12_solves_j455 t9 kl342) fun k455 => if t9.1 = t6.1 then k455 t9.2 else if (lg_cmp v10 (0 : Int64)) = 0 then k455 t9.2 else jn (f_X12_solves_j450 t9 k455) fun k450 => lp (f_X12_solves_l394 t6 t9 v10 v11 k450) FU ((0 : Int32), t9.2)
def f_X12_solves_l332 (kl332 : (Int32 × Hp) → Option (Hp)) (t6 : Int32 × Hp) : Option (Hp) :=
  if (t6.2.1 86 20) ≤ t6.1 then some t6.2 else jn (f_X12_solves_j461 t6 kl332) fun k461 => lp (f_X12_solves_l342 t6 k461) FU ((0 : Int32), t6.2)
def f_X12_solves_j330 (t5 : Hp) : Option (Hp) :=
  lp (f_X12_solves_l332) FU ((0 : Int32), t5)
def f_X12_solves_j324 (t21 : Int32 × Hp) (kl192 : (Int32 × Hp) → Option (Hp)) (t25 : Hp) : Option (Hp) :=
  lt (t21.1 + (1 : Int32)) fun x26 => kl192 (x26, t25)
def f_X12_solves_l192 (k330 : Hp → Option (Hp)) (kl192 : (Int32 × Hp) → Option (Hp)) (t21 : Int32 × Hp) : Option (Hp) :=
  if (t21.2.1 86 21) ≤ t21.1 then k330 t21.2 else ldI t21.2 92 12 t21.1 fun v22 => ldI t21.2 93 12 t21.1 fun v23 => ldI t21.2 104 12 t21.1 fun v24 => jn (f_X12_solves_j324 t21 kl192) fun k324 => if v24 = 0 then k324 t21.2 else ldI t21.2 131 5 v22 fun v27 => if v27 = 0 then ldJ t21.2 128 30 (((6 : Int32) * v22) + v22) fun v28 => ldI t21.2 94 12 t21.1 fun v29 => stJ t21.2 128 30 (((6 : Int32) * v22) + v22) (v28 + v29.toInt64) fun σ30 => ldJ σ30 128 30 (((6 : Int32) * v22) + v23) fun v31 => ldI σ30 94 12 t21.1 fun v32 => stJ σ30 128 30 (((6 : Int32) * v22) + v23) (v31 - v32.toInt64) fun σ33 => ldJ σ33 128 30 (((6 : Int32) * v23) + v23) fun v34 => ldI σ33 94 12 t21.1 fun v35 => stJ σ33 128 30 (((6 : Int32) * v23) + v23) (v34 + v35.toInt64) fun σ36 => ldJ σ36 128 30 (((6 : Int32) * v23) + v22) fun v37 => ldI σ36 94 12 t21.1 fun v38 => stJ σ36 128 30 (((6 : Int32) * v23) + v22) (v37 - v38.toInt64) fun σ39 => k324 σ39 else k324 t21.2
def f_X12_solves_j190 (t4 : Hp) : Option (Hp) :=
  jn (f_X12_solves_j330) fun k330 => lp (f_X12_solves_l192 k330) FU ((0 : Int32), t4)
def f_X12_solves_j183 (t40 : Int32 × Hp) (kl110 : (Int32 × Hp) → Option (Hp)) (σ43 : Hp) (t45 : Int64) : Option (Hp) :=
  stJ σ43 128 30 (((6 : Int32) * t40.1) + (5 : Int32)) t45 fun σ46 => lt (t40.1 + (1 : Int32)) fun x47 => kl110 (x47, σ46)
def f_X12_solves_j148 (a1 : Int32) (t40 : Int32 × Hp) (kl110 : (Int32 × Hp) → Option (Hp)) (t42 : Int64) : Option (Hp) :=
  stJ t40.2 128 30 (((6 : Int32) * t40.1) + t40.1) t42 fun σ43 => ldI σ43 131 5 t40.1 fun v44 => jn (f_X12_solves_j183 t40 kl110 σ43) fun k183 => if v44 = 0 then ldI σ43 98 15 (((3 : Int32) * t40.1) + a1) fun v48 => k183 v48.toInt64 else k183 (0 : Int64)
def f_X12_solves_l110 (a1 : Int32) (k190 : Hp → Option (Hp)) (kl110 : (Int32 × Hp) → Option (Hp)) (t40 : Int32 × Hp) : Option (Hp) :=
  if (t40.2.1 86 20) ≤ t40.1 then k190 t40.2 else ldI t40.2 131 5 t40.1 fun v41 => jn (f_X12_solves_j148 a1 t40 kl110) fun k148 => if v41 = 0 then cr (f_X12_speedAt t40.1 a1 t40.2) fun v49 => k148 v49.toInt64 else k148 (1 : Int64)
def f_X12_solves_j108 (a1 : Int32) (t3 : Hp) : Option (Hp) :=
  jn (f_X12_solves_j190) fun k190 => lp (f_X12_solves_l110 a1 k190) FU ((0 : Int32), t3)
def f_X12_solves_l89 (k108 : Hp → Option (Hp)) (kl89 : (Int32 × Hp) → Option (Hp)) (t50 : Int32 × Hp) : Option (Hp) :=
  if (30 : Int32) ≤ t50.1 then k108 t50.2 else stJ t50.2 128 30 t50.1 (0 : Int64) fun σ51 => lt (t50.1 + (1 : Int32)) fun x52 => kl89 (x52, σ51)
def f_X12_solves_j87 (a1 : Int32) (t2 : Hp) : Option (Hp) :=
  jn (f_X12_solves_j108 a1) fun k108 => lp (f_X12_solves_l89 k108) FU ((0 : Int32), t2)
def f_X12_solves_j81 (t53 : Int32 × Hp) (kl6 : (Int32 × Hp) → Option (Hp)) (t55 : Hp) : Option (Hp) :=
  lt (t53.1 + (1 : Int32)) fun x56 => kl6 (x56, t55)
def f_X12_solves_j74 (t53 : Int32 × Hp) (t57 : Int32 × Hp) (kl23 : (Int32 × Hp) → Option (Hp)) (t59 : Int32) : Option (Hp) :=
  stZ t57.2 131 5 t53.1 t59 fun σ60 => lt (t57.1 + (1 : Int32)) fun x61 => kl23 (x61, σ60)
def f_X12_solves_j73 (k74 : Int32 → Option (Hp)) (t62 : Unit) : Option (Hp) :=
  k74 (0 : Int32)
def f_X12_solves_j69 (k74 : Int32 → Option (Hp)) (t65 : Unit) : Option (Hp) :=
  k74 (1 : Int32)
def f_X12_solves_l23 (a1 : Int32) (t53 : Int32 × Hp) (k81 : Hp → Option (Hp)) (kl23 : (Int32 × Hp) → Option (Hp)) (t57 : Int32 × Hp) : Option (Hp) :=
  if (t57.2.1 86 20) ≤ t57.1 then k81 t57.2 else ldI t57.2 131 5 t53.1 fun v58 => jn (f_X12_solves_j74 t53 t57 kl23) fun k74 => jn (f_X12_solves_j73 k74) fun k73 => if v58 = 0 then k73 () else ldI t57.2 129 5 t57.1 fun v63 => ldI t57.2 129 5 t53.1 fun v64 => jn (f_X12_solves_j69 k74) fun k69 => if v63 = v64 then cr (f_X12_speedAt t57.1 a1 t57.2) fun v66 => if v66 = 0 then k69 () else k73 () else k69 ()
def f_X12_solves_l6 (a1 : Int32) (k87 : Hp → Option (Hp)) (kl6 : (Int32 × Hp) → Option (Hp)) (t53 : Int32 × Hp) : Option (Hp) :=
  if (t53.2.1 86 20) ≤ t53.1 then k87 t53.2 else stZ t53.2 131 5 t53.1 (1 : Int32) fun σ54 => jn (f_X12_solves_j81 t53 kl6) fun k81 => lp (f_X12_solves_l23 a1 t53 k81) FU ((0 : Int32), σ54)
def f_X12_solves (a1 : Int32) (σ : Hp) : Option (Hp) :=
  cr (f_X12_findParts σ) fun σ1 => jn (f_X12_solves_j87 a1) fun k87 => lp (f_X12_solves_l6 a1 k87) FU ((0 : Int32), σ1)
def f_X12_holdsDown_j145 (σ3 : Hp) (t4 : Unit) : Option (Int32 × Hp) :=
  ckZ (0 : Int32) (some ((0 : Int32), σ3))
def f_X12_holdsDown_j161 (t5 : Int32) (kl69 : Int32 → Option (Int32 × Hp)) (t7 : Unit) : Option (Int32 × Hp) :=
  lt (t5 + (1 : Int32)) fun x8 => kl69 x8
def f_X12_holdsDown_l69 (a2 : Int32) (σ3 : Hp) (k145 : Unit → Option (Int32 × Hp)) (kl69 : Int32 → Option (Int32 × Hp)) (t5 : Int32) : Option (Int32 × Hp) :=
  if (σ3.1 86 20) ≤ t5 then ckZ (1 : Int32) (some ((1 : Int32), σ3)) else cr (f_X12_isLeakedInto t5 σ3) fun v6 => jn (f_X12_holdsDown_j161 t5 kl69) fun k161 => if v6 = 0 then k161 () else ldI σ3 131 5 t5 fun v9 => if v9 = 0 then ldJ σ3 128 30 (((6 : Int32) * t5) + (5 : Int32)) fun v10 => ldJ σ3 128 30 (((6 : Int32) * t5) + t5) fun v11 => if 0 ≤ (lg_cmp v11 (0 : Int64)) then if (lg_cmp v10 (v11 * a2.toInt64)) ≤ 0 then k161 () else ckZ (0 : Int32) (some ((0 : Int32), σ3)) else if (lg_cmp (-v10) ((-v11) * a2.toInt64)) ≤ 0 then k161 () else k145 () else ckZ (0 : Int32) (some ((0 : Int32), σ3))
def f_X12_holdsDown_j62 (a2 : Int32) (t2 : Hp) : Option (Int32 × Hp) :=
  cr (f_X12_solves (0 : Int32) t2) fun σ3 => jn (f_X12_holdsDown_j145 σ3) fun k145 => lp (f_X12_holdsDown_l69 a2 σ3 k145) FU (0 : Int32)
def f_X12_holdsDown_l22 (a1 : Int32) (k62 : Hp → Option (Int32 × Hp)) (kl22 : (Int32 × Hp) → Option (Int32 × Hp)) (t12 : Int32 × Hp) : Option (Int32 × Hp) :=
  if (t12.2.1 86 80) ≤ t12.1 then k62 t12.2 else ldI t12.2 149 6 t12.1 fun v13 => ldI t12.2 130 5 v13 fun v14 => ldI t12.2 150 6 t12.1 fun v15 => stI t12.2 130 5 v13 (v14 + (((a1 >>> (t12.1 &&& 31)) &&& (1 : Int32)) * v15)) fun σ16 => lt (t12.1 + (1 : Int32)) fun x17 => kl22 (x17, σ16)
def f_X12_holdsDown_j20 (a1 : Int32) (a2 : Int32) (t1 : Hp) : Option (Int32 × Hp) :=
  jn (f_X12_holdsDown_j62 a2) fun k62 => lp (f_X12_holdsDown_l22 a1 k62) FU ((0 : Int32), t1)
def f_X12_holdsDown_l2 (k20 : Hp → Option (Int32 × Hp)) (kl2 : (Int32 × Hp) → Option (Int32 × Hp)) (t18 : Int32 × Hp) : Option (Int32 × Hp) :=
  if (5 : Int32) ≤ t18.1 then k20 t18.2 else stI t18.2 130 5 t18.1 (0 : Int32) fun σ19 => lt (t18.1 + (1 : Int32)) fun x20 => kl2 (x20, σ19)
def f_X12_holdsDown (a1 : Int32) (a2 : Int32) (σ : Hp) : Option (Int32 × Hp) :=
  jn (f_X12_holdsDown_j20 a1 a2) fun k20 => lp (f_X12_holdsDown_l2 k20) FU ((0 : Int32), σ)
def f_X12_hunt_j298 (t5 : Int32 × Hp) (t7 : Int32) : Option (Int32 × Hp) :=
  some (t7, t5.2)
def f_X12_hunt_j269 (a1 : Int32) (t5 : Int32 × Hp) (t6 : Int32 × Int32 × Int32) : Option (Int32 × Hp) :=
  jn (f_X12_hunt_j298 t5) fun k298 => if a1 = 0 then k298 t5.1 else if a1 = (1 : Int32) then k298 t6.1 else if a1 = (2 : Int32) then k298 t6.2.1 else k298 t6.2.2
def f_X12_hunt_j263 (t8 : Int32 × Int32 × Int32 × Int32 × Int32) (kl128 : (Int32 × Int32 × Int32 × Int32 × Int32) → Option (Int32 × Hp)) (x11 : Int32) (x14 : Int32) (t19 : Int32 × Int32) : Option (Int32 × Hp) :=
  lt (t8.2.2.2.2 + (1 : Int32)) fun x20 => kl128 (x11, x14, t19.1, t19.2, x20)
def f_X12_hunt_j222 (t5 : Int32 × Hp) (t8 : Int32 × Int32 × Int32 × Int32 × Int32) (kl128 : (Int32 × Int32 × Int32 × Int32 × Int32) → Option (Int32 × Hp)) (x11 : Int32) (x14 : Int32) (t17 : Int32) : Option (Int32 × Hp) :=
  ldI t5.2 147 8 t8.2.2.2.2 fun v18 => jn (f_X12_hunt_j263 t8 kl128 x11 x14) fun k263 => if v18 = 0 then k263 (t8.2.2.1, t8.2.2.2.1) else ldI t5.2 147 8 t8.2.2.2.2 fun v21 => if v21 = t5.1 then k263 (t8.2.2.1, t8.2.2.2.1) else if t17 < t8.2.2.2.1 then k263 (t8.2.2.2.2, t17) else k263 (t8.2.2.1, t8.2.2.2.1)
def f_X12_hunt_j181 (t5 : Int32 × Hp) (t8 : Int32 × Int32 × Int32 × Int32 × Int32) (kl128 : (Int32 × Int32 × Int32 × Int32 × Int32) → Option (Int32 × Hp)) (x11 : Int32) (t13 : Int32) : Option (Int32 × Hp) :=
  lt (t8.2.1 ||| t13) fun x14 => ldI t5.2 147 8 t8.2.2.2.2 fun v15 => ldI t5.2 147 8 t8.2.2.2.2 fun v16 => jn (f_X12_hunt_j222 t5 t8 kl128 x11 x14) fun k222 => if v15 ≤ (t5.1 - v16) then ldI t5.2 147 8 t8.2.2.2.2 fun v22 => k222 (t5.1 - v22) else ldI t5.2 147 8 t8.2.2.2.2 fun v23 => k222 v23
def f_X12_hunt_j159 (t5 : Int32 × Hp) (t8 : Int32 × Int32 × Int32 × Int32 × Int32) (kl128 : (Int32 × Int32 × Int32 × Int32 × Int32) → Option (Int32 × Hp)) (t10 : Int32) : Option (Int32 × Hp) :=
  lt (t8.1 ||| t10) fun x11 => ldI t5.2 147 8 t8.2.2.2.2 fun v12 => jn (f_X12_hunt_j181 t5 t8 kl128 x11) fun k181 => if v12 = 0 then k181 ((1 : Int32) <<< (t8.2.2.2.2 &&& 31)) else k181 (0 : Int32)
def f_X12_hunt_l128 (t5 : Int32 × Hp) (k269 : (Int32 × Int32 × Int32) → Option (Int32 × Hp)) (kl128 : (Int32 × Int32 × Int32 × Int32 × Int32) → Option (Int32 × Hp)) (t8 : Int32 × Int32 × Int32 × Int32 × Int32) : Option (Int32 × Hp) :=
  if (8 : Int32) ≤ t8.2.2.2.2 then k269 (t8.1, t8.2.1, t8.2.2.1) else if t5.1 ≤ 0 then k269 (t8.1, t8.2.1, t8.2.2.1) else ldI t5.2 147 8 t8.2.2.2.2 fun v9 => jn (f_X12_hunt_j159 t5 t8 kl128) fun k159 => if v9 = t5.1 then k159 ((1 : Int32) <<< (t8.2.2.2.2 &&& 31)) else k159 (0 : Int32)
def f_X12_hunt_j111 (a1 : Int32) (t5 : Int32 × Hp) : Option (Int32 × Hp) :=
  jn (f_X12_hunt_j269 a1 t5) fun k269 => lp (f_X12_hunt_l128 t5 k269) FU ((0 : Int32), (0 : Int32), (-9 : Int32), (1000 : Int32), (0 : Int32))
def f_X12_hunt_j105 (t24 : Int32 × Int32 × Hp) (kl44 : (Int32 × Int32 × Hp) → Option (Int32 × Hp)) (t26 : Int32 × Hp) : Option (Int32 × Hp) :=
  lt (t24.2.1 + (1 : Int32)) fun x27 => kl44 (t26.1, x27, t26.2)
def f_X12_hunt_l76 (t24 : Int32 × Int32 × Hp) (k105 : (Int32 × Hp) → Option (Int32 × Hp)) (x29 : Int32) (kl76 : (Int32 × Hp) → Option (Int32 × Hp)) (t30 : Int32 × Hp) : Option (Int32 × Hp) :=
  if (8 : Int32) ≤ t30.1 then k105 (x29, t30.2) else ldI t30.2 147 8 t30.1 fun v31 => stI t30.2 147 8 t30.1 (v31 + ((t24.2.1 >>> (t30.1 &&& 31)) &&& (1 : Int32))) fun σ32 => lt (t30.1 + (1 : Int32)) fun x33 => kl76 (x33, σ32)
def f_X12_hunt_l44 (k111 : (Int32 × Hp) → Option (Int32 × Hp)) (kl44 : (Int32 × Int32 × Hp) → Option (Int32 × Hp)) (t24 : Int32 × Int32 × Hp) : Option (Int32 × Hp) :=
  if (256 : Int32) ≤ t24.2.1 then k111 (t24.1, t24.2.2) else cr (f_X12_bits t24.2.1) fun v25 => jn (f_X12_hunt_j105 t24 kl44) fun k105 => if (2 : Int32) < v25 then k105 (t24.1, t24.2.2) else cr (f_X12_fits t24.2.1 t24.2.2) fun v28 => if v28 = 0 then k105 (t24.1, t24.2.2) else lt (t24.1 + (1 : Int32)) fun x29 => lp (f_X12_hunt_l76 t24 k105 x29) FU ((0 : Int32), t24.2.2)
def f_X12_hunt_j42 (a1 : Int32) (t4 : Hp) : Option (Int32 × Hp) :=
  jn (f_X12_hunt_j111 a1) fun k111 => lp (f_X12_hunt_l44 k111) FU ((0 : Int32), (0 : Int32), t4)
def f_X12_hunt_l23 (k42 : Hp → Option (Int32 × Hp)) (kl23 : (Int32 × Hp) → Option (Int32 × Hp)) (t34 : Int32 × Hp) : Option (Int32 × Hp) :=
  if (8 : Int32) ≤ t34.1 then k42 t34.2 else stI t34.2 147 8 t34.1 (0 : Int32) fun σ35 => lt (t34.1 + (1 : Int32)) fun x36 => kl23 (x36, σ35)
def f_X12_hunt (a1 : Int32) (σ : Hp) : Option (Int32 × Hp) :=
  cr (f_X12_isIn a1.toInt64 (0 : Int64) (3 : Int64)) fun v1 => if v1 = 0 then cl (f_X12_no (-2 : Int32) σ) fun v2 σ3 => some (v2, σ3) else jn (f_X12_hunt_j42 a1) fun k42 => lp (f_X12_hunt_l23 k42) FU ((0 : Int32), σ)
def f_X12_in_j15 (σ : Hp) (t2 : Unit) : Option (Int32 × Hp) :=
  cl (f_X12_no (-1 : Int32) σ) fun v3 σ4 => some (v3, σ4)
def f_X12_in_j80 (σ : Hp) (t9 : Int32) : Option (Int32 × Hp) :=
  some (t9, σ)
def f_X12_in (a1 : Int32) (a2 : Int32) (a3 : Int32) (σ : Hp) : Option (Int32 × Hp) :=
  cr (f_X12_isRoom a1 σ) fun v1 => jn (f_X12_in_j15 σ) fun k15 => if v1 = 0 then k15 () else cr (f_X12_isGas a2) fun v5 => if v5 = 0 then k15 () else cr (f_X12_isIn a3.toInt64 (0 : Int64) (2 : Int64)) fun v6 => if v6 = 0 then cl (f_X12_no (-2 : Int32) σ) fun v7 σ8 => some (v7, σ8) else jn (f_X12_in_j80 σ) fun k80 => if a3 = 0 then ldI σ 99 15 (((3 : Int32) * a1) + a2) fun v10 => k80 v10 else if a3 = (1 : Int32) then ldI σ 100 15 (((3 : Int32) * a1) + a2) fun v11 => k80 v11 else cr (f_X12_push a1 σ) fun v12 => k80 v12
def f_X12_late (a1 : Int32) (a2 : Int32) (σ : Hp) : Option (Int32 × Hp) :=
  cr (f_X12_isIn a1.toInt64 (0 : Int64) (7 : Int64)) fun v1 => if v1 = 0 then cl (f_X12_no (-1 : Int32) σ) fun v2 σ3 => some (v2, σ3) else cr (f_X12_out a2.toInt64 (0 : Int64) (20 : Int64)) fun v4 => if v4 = 0 then ldI σ 143 8 a1 fun v5 => stI σ 143 8 a1 a2 fun σ6 => some (v5, σ6) else cl (f_X12_no v4 σ) fun v7 σ8 => some (v7, σ8)
def f_X12_leak_j15 (σ : Hp) (t2 : Unit) : Option (Int32 × Hp) :=
  cl (f_X12_no (-1 : Int32) σ) fun v3 σ4 => some (v3, σ4)
def f_X12_leak (a1 : Int32) (a2 : Int32) (a3 : Int32) (σ : Hp) : Option (Int32 × Hp) :=
  cr (f_X12_isRoom a1 σ) fun v1 => jn (f_X12_leak_j15 σ) fun k15 => if v1 = 0 then k15 () else cr (f_X12_isGas a2) fun v5 => if v5 = 0 then k15 () else cr (f_X12_out a3.toInt64 (0 : Int64) (999 : Int64)) fun v6 => if v6 = 0 then cr (f_X12_forgets σ) fun σ7 => ldI σ7 98 15 (((3 : Int32) * a1) + a2) fun v8 => stI σ7 98 15 (((3 : Int32) * a1) + a2) a3 fun σ9 => some (v8, σ9) else cl (f_X12_no v6 σ) fun v10 σ11 => some (v10, σ11)
def f_X12_left_j34 (a2 : Int32) (v1 : Int32) (v2 : Int32) (t3 : Int32) : Option (Int32) :=
  some ((v1 * (a2 - v2)) - t3)
def f_X12_left (a1 : Int32) (a2 : Int32) (a3 : Int32) (σ : Hp) : Option (Int32) :=
  ldI σ 140 4 a1 fun v1 => ldI σ 139 4 a1 fun v2 => jn (f_X12_left_j34 a2 v1 v2) fun k34 => if a3 ≤ a2 then k34 (0 : Int32) else ldI σ 141 4 a1 fun v4 => k34 (v4 * (a3 - a2))
def f_X12_rests_j50 (t1 : Int32 × Int32) (kl6 : (Int32 × Int32) → Option (Int32)) (t3 : Int32) : Option (Int32) :=
  if t3 ≤ (300 : Int32) then lt (t1.2 + (1 : Int32)) fun x4 => kl6 (t3, x4) else some (-9 : Int32)
def f_X12_rests_l19 (σ : Hp) (t1 : Int32 × Int32) (k50 : Int32 → Option (Int32)) (kl19 : Int32 → Option (Int32)) (t5 : Int32) : Option (Int32) :=
  if (300 : Int32) < t5 then k50 t5 else cr (f_X12_left t1.2 t5 t1.1 σ) fun v6 => ldI σ 142 4 t1.2 fun v7 => if v7 ≤ v6 then k50 t5 else lt (t5 + (1 : Int32)) fun x8 => kl19 x8
def f_X12_rests_l6 (a1 : Int32) (σ : Hp) (kl6 : (Int32 × Int32) → Option (Int32)) (t1 : Int32 × Int32) : Option (Int32) :=
  if a1 < t1.2 then some t1.1 else ldI σ 139 4 t1.2 fun v2 => jn (f_X12_rests_j50 t1 kl6) fun k50 => lp (f_X12_rests_l19 σ t1 k50) FU v2
def f_X12_rests (a1 : Int32) (σ : Hp) : Option (Int32) :=
  lp (f_X12_rests_l6 a1 σ) FU ((300 : Int32), (0 : Int32))
def f_X12_load_j111 (σ : Hp) (t8 : Int32) : Option (Int32 × Hp) :=
  some (t8, σ)
def f_X12_load_j55 (a1 : Int32) (a2 : Int32) (σ : Hp) (t5 : Int32) : Option (Int32 × Hp) :=
  if t5 < 0 then some ((-9 : Int32), σ) else ldI σ 139 4 a1 fun v6 => if v6 ≤ a2 then cr (f_X12_left a1 a2 t5 σ) fun v7 => jn (f_X12_load_j111 σ) fun k111 => if 0 ≤ v7 then if v7 ≤ (9999 : Int32) then k111 v7 else k111 (9999 : Int32) else k111 (-9 : Int32) else some ((-9 : Int32), σ)
def f_X12_load (a1 : Int32) (a2 : Int32) (σ : Hp) : Option (Int32 × Hp) :=
  cr (f_X12_isIn a1.toInt64 (0 : Int64) (3 : Int64)) fun v1 => if v1 = 0 then cl (f_X12_no (-1 : Int32) σ) fun v2 σ3 => some (v2, σ3) else cr (f_X12_out a2.toInt64 (0 : Int64) (300 : Int64)) fun v4 => if v4 = 0 then jn (f_X12_load_j55 a1 a2 σ) fun k55 => if a1 = 0 then k55 (300 : Int32) else cr (f_X12_rests (a1 - (1 : Int32)) σ) fun v9 => k55 v9 else cl (f_X12_no v4 σ) fun v10 σ11 => some (v10, σ11)
def f_X12_ways_l16 (a1 : Int32) (a2 : Int32) (kl16 : (Int64 × Int32) → Option (Int64)) (t1 : Int64 × Int32) : Option (Int64) :=
  if a2 ≤ t1.2 then some t1.1 else dvJ (t1.2 + (1 : Int32)).toInt64 <| lt ((t1.1 * (a1 - t1.2).toInt64) / (t1.2 + (1 : Int32)).toInt64) fun x2 => lt (t1.2 + (1 : Int32)) fun x3 => kl16 (x2, x3)
def f_X12_ways (a1 : Int32) (a2 : Int32) : Option (Int64) :=
  if a2 < 0 then some (0 : Int64) else if a2 ≤ a1 then lp (f_X12_ways_l16 a1 a2) FU ((1 : Int64), (0 : Int32)) else some (0 : Int64)
def f_X12_odds_l109 (a1 : Int32) (a2 : Int32) (a3 : Int32) (a4 : Int32) (σ : Hp) (kl109 : (Int64 × Int32) → Option (Int64 × Hp)) (t6 : Int64 × Int32) : Option (Int64 × Hp) :=
  if a4 < t6.2 then some (t6.1, σ) else cr (f_X12_ways a2 t6.2) fun v7 => cr (f_X12_ways (a1 - a2) (a3 - t6.2)) fun v8 => lt (t6.1 + (v7 * v8)) fun x9 => lt (t6.2 + (1 : Int32)) fun x10 => kl109 (x9, x10)
def f_X12_odds_j76 (a1 : Int32) (a2 : Int32) (a3 : Int32) (a4 : Int32) (a5 : Int32) (σ : Hp) (t4 : Int32) : Option (Int64 × Hp) :=
  if t4 = 0 then if a5 = (1 : Int32) then cr (f_X12_ways a1 a3) fun v5 => some (v5, σ) else lp (f_X12_odds_l109 a1 a2 a3 a4 σ) FU ((0 : Int64), (0 : Int32)) else cl (f_X12_no t4 σ) fun v11 σ12 => some (v11.toInt64, σ12)
def f_X12_odds_j37 (k76 : Int32 → Option (Int64 × Hp)) (t13 : Unit) : Option (Int64 × Hp) :=
  k76 (-4 : Int32)
def f_X12_odds_j70 (k76 : Int32 → Option (Int64 × Hp)) (t14 : Unit) : Option (Int64 × Hp) :=
  k76 (-6 : Int32)
def f_X12_odds (a1 : Int32) (a2 : Int32) (a3 : Int32) (a4 : Int32) (a5 : Int32) (σ : Hp) : Option (Int64 × Hp) :=
  cr (f_X12_isIn a5.toInt64 (0 : Int64) (1 : Int64)) fun v1 => if v1 = 0 then cl (f_X12_no (-2 : Int32) σ) fun v2 σ3 => some (v2.toInt64, σ3) else jn (f_X12_odds_j76 a1 a2 a3 a4 a5 σ) fun k76 => jn (f_X12_odds_j37 k76) fun k37 => if a1 < (1 : Int32) then k37 () else if a2 < 0 then k37 () else if a3 < 0 then k37 () else if 0 ≤ a4 then jn (f_X12_odds_j70 k76) fun k70 => if (30 : Int32) < a1 then k70 () else if a1 < a2 then k70 () else if (20 : Int32) < a3 then k70 () else if a1 < a3 then k70 () else if a4 ≤ a3 then k76 (0 : Int32) else k70 () else k37 ()
def f_X12_offer_j57 (a1 : Int32) (a2 : Int32) (a3 : Int32) (σ : Hp) (t4 : Int32) : Option (Int32 × Hp) :=
  if t4 = 0 then stI σ 149 6 (σ.1 86 80) a1 fun σ5 => stI σ5 150 6 (σ5.1 86 80) a2 fun σ6 => stI σ6 151 6 (σ6.1 86 80) a3 fun σ7 => lt (sI σ7 86 80 ((σ7.1 86 80) + (1 : Int32))) fun σ8 => some ((σ8.1 86 80), σ8) else cl (f_X12_no t4 σ) fun v9 σ10 => some (v9, σ10)
def f_X12_offer_j24 (k57 : Int32 → Option (Int32 × Hp)) (t11 : Unit) : Option (Int32 × Hp) :=
  k57 (-4 : Int32)
def f_X12_offer_j51 (k57 : Int32 → Option (Int32 × Hp)) (t12 : Unit) : Option (Int32 × Hp) :=
  k57 (-6 : Int32)
def f_X12_offer (a1 : Int32) (a2 : Int32) (a3 : Int32) (σ : Hp) : Option (Int32 × Hp) :=
  cr (f_X12_isRoom a1 σ) fun v1 => if v1 = 0 then cl (f_X12_no (-1 : Int32) σ) fun v2 σ3 => some (v2, σ3) else jn (f_X12_offer_j57 a1 a2 a3 σ) fun k57 => jn (f_X12_offer_j24 k57) fun k24 => if a2 < (1 : Int32) then k24 () else if (1 : Int32) ≤ a3 then jn (f_X12_offer_j51 k57) fun k51 => if (9 : Int32) < a2 then k51 () else if (999 : Int32) < a3 then k51 () else if (σ.1 86 80) = (6 : Int32) then k51 () else k57 (0 : Int32) else k24 ()
def f_X12_order_j143 (t5 : Int32 × Hp) : Option (Int32 × Hp) :=
  some (t5.1, t5.2)
def f_X12_order_j132 (k143 : (Int32 × Hp) → Option (Int32 × Hp)) (t6 : Hp) : Option (Int32 × Hp) :=
  k143 ((-9 : Int32), t6)
def f_X12_order_j102 (a1 : Int32) (a2 : Int32) (σ : Hp) (t3 : Int32) : Option (Int32 × Hp) :=
  if t3 = 0 then cr (f_X12_bits a1) fun v4 => jn (f_X12_order_j143) fun k143 => jn (f_X12_order_j132 k143) fun k132 => if v4 ≤ a2 then k132 σ else cl (f_X12_findOrder a1 σ) fun v7 σ8 => if v7 = 0 then k132 σ8 else ldI σ8 127 6 a2 fun v9 => k143 (v9, σ8) else cl (f_X12_no t3 σ) fun v10 σ11 => some (v10, σ11)
def f_X12_order_j68 (a1 : Int32) (a2 : Int32) (σ : Hp) (t2 : Int32) : Option (Int32 × Hp) :=
  if t2 = 0 then jn (f_X12_order_j102 a1 a2 σ) fun k102 => if 0 ≤ a2 then cr (f_X12_bits a1) fun v12 => if v12 ≤ (6 : Int32) then k102 (0 : Int32) else k102 (-6 : Int32) else k102 (-4 : Int32) else cl (f_X12_no (-1 : Int32) σ) fun v13 σ14 => some (v13, σ14)
def f_X12_order_j61 (t15 : Int32 × Int32) (kl23 : (Int32 × Int32) → Option (Int32 × Hp)) (t16 : Int32) : Option (Int32 × Hp) :=
  lt (t15.2 + (1 : Int32)) fun x17 => kl23 (t16, x17)
def f_X12_order_j60 (k61 : Int32 → Option (Int32 × Hp)) (t18 : Unit) : Option (Int32 × Hp) :=
  k61 (0 : Int32)
def f_X12_order_l23 (a1 : Int32) (σ : Hp) (k68 : Int32 → Option (Int32 × Hp)) (kl23 : (Int32 × Int32) → Option (Int32 × Hp)) (t15 : Int32 × Int32) : Option (Int32 × Hp) :=
  if (σ.1 86 22) ≤ t15.2 then k68 t15.1 else if t15.1 = 0 then jn (f_X12_order_j61 t15 kl23) fun k61 => jn (f_X12_order_j60 k61) fun k60 => if ((a1 >>> (t15.2 &&& 31)) &&& (1 : Int32)) = (1 : Int32) then ldI σ 105 8 t15.2 fun v19 => if v19 = 0 then k60 () else k61 (1 : Int32) else k60 () else k68 t15.1
def f_X12_order_j19 (a1 : Int32) (a2 : Int32) (σ : Hp) (t1 : Int32) : Option (Int32 × Hp) :=
  jn (f_X12_order_j68 a1 a2 σ) fun k68 => lp (f_X12_order_l23 a1 σ k68) FU (t1, (0 : Int32))
def f_X12_order_j14 (k19 : Int32 → Option (Int32 × Hp)) (t20 : Unit) : Option (Int32 × Hp) :=
  k19 (1 : Int32)
def f_X12_order (a1 : Int32) (a2 : Int32) (σ : Hp) : Option (Int32 × Hp) :=
  jn (f_X12_order_j19 a1 a2 σ) fun k19 => jn (f_X12_order_j14 k19) fun k14 => if a1 < 0 then k14 () else if a1 < ((1 : Int32) <<< ((σ.1 86 22) &&& 31)) then k19 (0 : Int32) else k14 ()
def f_X12_parses_j118 (t10 : Hp) (kl68 : Hp → Option (Int32 × Hp)) (t14 : Int32) : Option (Int32 × Hp) :=
  stI t10 118 8 (t10.1 86 40) t14 fun σ15 => lt (sI σ15 86 40 ((σ15.1 86 40) + (1 : Int32))) fun σ16 => lt (sI σ16 86 39 ((σ16.1 86 39) + (1 : Int32))) fun σ17 => kl68 σ17
def f_X12_parses_j86 (t10 : Hp) (kl68 : Hp → Option (Int32 × Hp)) (t12 : Unit) : Option (Int32 × Hp) :=
  if (t10.1 86 40) = (4 : Int32) then ckZ (0 : Int32) (some ((0 : Int32), t10)) else cr (f_X12_sign t10) fun v13 => jn (f_X12_parses_j118 t10 kl68) fun k118 => if v13 = (33 : Int32) then k118 (1 : Int32) else k118 (2 : Int32)
def f_X12_parses_j235 (kl68 : Hp → Option (Int32 × Hp)) (t22 : Hp) (t26 : Unit) : Option (Int32 × Hp) :=
  lt (sI t22 86 39 ((t22.1 86 39) + (1 : Int32))) fun σ27 => kl68 σ27
def f_X12_parses_j215 (kl68 : Hp → Option (Int32 × Hp)) (t22 : Hp) (t24 : Unit) : Option (Int32 × Hp) :=
  cr (f_X12_sign t22) fun v25 => jn (f_X12_parses_j235 kl68 t22) fun k235 => if v25 = (124 : Int32) then k235 () else cr (f_X12_sign t22) fun v28 => if v28 = (38 : Int32) then k235 () else ckZ (0 : Int32) (some ((0 : Int32), t22))
def f_X12_parses_j198 (kl68 : Hp → Option (Int32 × Hp)) (t22 : Hp) : Option (Int32 × Hp) :=
  cr (f_X12_sign t22) fun v23 => jn (f_X12_parses_j215 kl68 t22) fun k215 => if v23 = (-1 : Int32) then if (t22.1 86 40) = 0 then ckZ (1 : Int32) (some ((1 : Int32), t22)) else k215 () else k215 ()
def f_X12_parses_l155 (k198 : Hp → Option (Int32 × Hp)) (kl155 : Hp → Option (Int32 × Hp)) (t29 : Hp) : Option (Int32 × Hp) :=
  cr (f_X12_sign t29) fun v30 => if v30 = (41 : Int32) then if (t29.1 86 40) ≤ 0 then k198 t29 else lt (sI t29 86 39 ((t29.1 86 39) + (1 : Int32))) fun σ31 => lt (sI σ31 86 40 ((σ31.1 86 40) - (1 : Int32))) fun σ32 => cr (f_X12_closes σ32) fun σ33 => kl155 σ33 else k198 t29
def f_X12_parses_l68 (kl68 : Hp → Option (Int32 × Hp)) (t10 : Hp) : Option (Int32 × Hp) :=
  cr (f_X12_sign t10) fun v11 => jn (f_X12_parses_j86 t10 kl68) fun k86 => if v11 = (33 : Int32) then k86 () else cr (f_X12_sign t10) fun v18 => if v18 = (40 : Int32) then k86 () else cl (f_X12_compares t10) fun v19 σ20 => if v19 = 0 then ckZ (0 : Int32) (some ((0 : Int32), σ20)) else cr (f_X12_closes σ20) fun σ21 => jn (f_X12_parses_j198 kl68) fun k198 => lp (f_X12_parses_l155 k198) FU σ21
def f_X12_parses_j30 (σ2 : Hp) (t4 : Unit) : Option (Int32 × Hp) :=
  lt (sI σ2 86 39 ((σ2.1 86 39) + (1 : Int32))) fun σ5 => cl (f_X12_digit σ5) fun v6 σ7 => if v6 = 0 then ckZ (0 : Int32) (some ((0 : Int32), σ7)) else cr (f_X12_sign σ7) fun v8 => if v8 = (58 : Int32) then lt (sI σ7 86 39 ((σ7.1 86 39) + (1 : Int32))) fun σ9 => lp (f_X12_parses_l68) FU σ9 else ckZ (0 : Int32) (some ((0 : Int32), σ7))
def f_X12_parses (σ : Hp) : Option (Int32 × Hp) :=
  lt (sI σ 86 39 (0 : Int32)) fun σ1 => lt (sI σ1 86 40 (0 : Int32)) fun σ2 => cr (f_X12_sign σ2) fun v3 => jn (f_X12_parses_j30 σ2) fun k30 => if v3 = (86 : Int32) then k30 () else cr (f_X12_sign σ2) fun v34 => if v34 = (80 : Int32) then k30 () else ckZ (0 : Int32) (some ((0 : Int32), σ2))
def f_X12_sucks_j140 (t1 : Int32 × Hp) (kl2 : (Int32 × Hp) → Option (Hp)) (t15 : Hp) : Option (Hp) :=
  lt (t1.1 + (1 : Int32)) fun x16 => kl2 (x16, t15)
def f_X12_sucks_j94 (a1 : Int32) (t1 : Int32 × Hp) (kl2 : (Int32 × Hp) → Option (Hp)) (x3 : Int32) (t9 : Int32) : Option (Hp) :=
  ldI t1.2 99 15 x3 fun v10 => stI t1.2 99 15 x3 (v10 - t9) fun σ11 => ldI σ11 101 24 (((3 : Int32) * a1) + t1.1) fun v12 => stI σ11 101 24 (((3 : Int32) * a1) + t1.1) (v12 + t9) fun σ13 => ldI σ13 97 8 a1 fun v14 => jn (f_X12_sucks_j140 t1 kl2) fun k140 => if v14 = 0 then ldI σ13 103 3 t1.1 fun v17 => stI σ13 103 3 t1.1 (v17 + t9) fun σ18 => k140 σ18 else k140 σ13
def f_X12_sucks_j54 (a1 : Int32) (t1 : Int32 × Hp) (kl2 : (Int32 × Hp) → Option (Hp)) (x3 : Int32) (t7 : Int32) : Option (Hp) :=
  ldI t1.2 97 8 a1 fun v8 => jn (f_X12_sucks_j94 a1 t1 kl2 x3) fun k94 => if v8 ≤ 0 then k94 t7 else ldI t1.2 97 8 a1 fun v19 => cr (f_X12_holds a1 t1.2) fun v20 => if t7 ≤ (v19 - v20) then k94 t7 else ldI t1.2 97 8 a1 fun v21 => cr (f_X12_holds a1 t1.2) fun v22 => lt (v21 - v22) fun x23 => k94 x23
def f_X12_sucks_l2 (a1 : Int32) (kl2 : (Int32 × Hp) → Option (Hp)) (t1 : Int32 × Hp) : Option (Hp) :=
  if (3 : Int32) ≤ t1.1 then some t1.2 else ldI t1.2 95 8 a1 fun v2 => lt (((3 : Int32) * v2) + t1.1) fun x3 => ldI t1.2 96 24 (((3 : Int32) * a1) + t1.1) fun v4 => cr (f_X12_share x3 v4 t1.2) fun v5 => ldI t1.2 99 15 x3 fun v6 => jn (f_X12_sucks_j54 a1 t1 kl2 x3) fun k54 => if v5 ≤ v6 then k54 v5 else ldI t1.2 99 15 x3 fun v24 => k54 v24
def f_X12_sucks (a1 : Int32) (σ : Hp) : Option (Hp) :=
  lp (f_X12_sucks_l2 a1) FU ((0 : Int32), σ)
def f_X12_passes_j192 (t5 : Hp) : Option (Hp) :=
  lt (sI t5 86 23 ((t5.1 86 23) + (1 : Int32))) fun σ6 => some σ6
def f_X12_passes_j186 (t7 : Int32 × Hp) (kl164 : (Int32 × Hp) → Option (Hp)) (t9 : Hp) : Option (Hp) :=
  lt (t7.1 + (1 : Int32)) fun x10 => kl164 (x10, t9)
def f_X12_passes_l164 (k192 : Hp → Option (Hp)) (kl164 : (Int32 × Hp) → Option (Hp)) (t7 : Int32 × Hp) : Option (Hp) :=
  if (t7.2.1 86 22) ≤ t7.1 then k192 t7.2 else ldI t7.2 106 8 t7.1 fun v8 => jn (f_X12_passes_j186 t7 kl164) fun k186 => if v8 = 0 then k186 t7.2 else cr (f_X12_givesBack t7.1 t7.2) fun σ11 => k186 σ11
def f_X12_passes_j162 (t4 : Hp) : Option (Hp) :=
  jn (f_X12_passes_j192) fun k192 => lp (f_X12_passes_l164 k192) FU ((0 : Int32), t4)
def f_X12_passes_j156 (t12 : Int32 × Hp) (kl134 : (Int32 × Hp) → Option (Hp)) (t14 : Hp) : Option (Hp) :=
  lt (t12.1 + (1 : Int32)) fun x15 => kl134 (x15, t14)
def f_X12_passes_l134 (k162 : Hp → Option (Hp)) (kl134 : (Int32 × Hp) → Option (Hp)) (t12 : Int32 × Hp) : Option (Hp) :=
  if (t12.2.1 86 22) ≤ t12.1 then k162 t12.2 else ldI t12.2 105 8 t12.1 fun v13 => jn (f_X12_passes_j156 t12 kl134) fun k156 => if v13 = 0 then k156 t12.2 else cr (f_X12_sucks t12.1 t12.2) fun σ16 => k156 σ16
def f_X12_passes_j128 (t2 : Hp) : Option (Hp) :=
  cr (f_X12_flows t2) fun σ3 => jn (f_X12_passes_j162) fun k162 => lp (f_X12_passes_l134 k162) FU ((0 : Int32), σ3)
def f_X12_passes_l80 (k128 : Hp → Option (Hp)) (kl80 : (Int32 × Hp) → Option (Hp)) (t17 : Int32 × Hp) : Option (Hp) :=
  if ((3 : Int32) * (t17.2.1 86 20)) ≤ t17.1 then k128 t17.2 else ldI t17.2 99 15 t17.1 fun v18 => ldI t17.2 98 15 t17.1 fun v19 => stI t17.2 99 15 t17.1 (v18 + v19) fun σ20 => dvI (3 : Int32) <| ldI σ20 102 3 (t17.1 - t17.1 / (3 : Int32) * (3 : Int32)) fun v21 => ldI σ20 98 15 t17.1 fun v22 => stI σ20 102 3 (t17.1 - t17.1 / (3 : Int32) * (3 : Int32)) (v21 + v22) fun σ23 => lt (t17.1 + (1 : Int32)) fun x24 => kl80 (x24, σ23)
def f_X12_passes_j78 (t1 : Hp) : Option (Hp) :=
  jn (f_X12_passes_j128) fun k128 => lp (f_X12_passes_l80 k128) FU ((0 : Int32), t1)
def f_X12_passes_l2 (k78 : Hp → Option (Hp)) (kl2 : (Int32 × Hp) → Option (Hp)) (t25 : Int32 × Hp) : Option (Hp) :=
  if ((3 : Int32) * (t25.2.1 86 20)) ≤ t25.1 then k78 t25.2 else ldI t25.2 100 15 t25.1 fun v26 => dvI (3 : Int32) <| ldI t25.2 89 5 (t25.1 / (3 : Int32)) fun v27 => dvI (3 : Int32) <| ldI t25.2 90 5 (t25.1 / (3 : Int32)) fun v28 => ldI t25.2 91 40 (((10 : Int32) * v27) + v28) fun v29 => dvJ (1000 : Int64) <| lt ((v26.toInt64 * v29.toInt64) / (1000 : Int64)).toInt32 fun x30 => ldI t25.2 100 15 t25.1 fun v31 => stI t25.2 100 15 t25.1 (v31 - x30) fun σ32 => ldI σ32 99 15 t25.1 fun v33 => stI σ32 99 15 t25.1 (v33 + x30) fun σ34 => lt (t25.1 + (1 : Int32)) fun x35 => kl2 (x35, σ34)
def f_X12_passes (σ : Hp) : Option (Hp) :=
  jn (f_X12_passes_j78) fun k78 => lp (f_X12_passes_l2 k78) FU ((0 : Int32), σ)
def f_X12_pipe_j21 (σ : Hp) (t2 : Unit) : Option (Int32 × Hp) :=
  cl (f_X12_no (-1 : Int32) σ) fun v3 σ4 => some (v3, σ4)
def f_X12_pipe_j56 (a1 : Int32) (a2 : Int32) (a3 : Int32) (σ : Hp) (t7 : Int32) : Option (Int32 × Hp) :=
  if t7 = 0 then cr (f_X12_forgets σ) fun σ8 => stI σ8 92 12 (σ8.1 86 21) a1 fun σ9 => stI σ9 93 12 (σ9.1 86 21) a2 fun σ10 => stI σ10 94 12 (σ10.1 86 21) a3 fun σ11 => lt (sI σ11 86 21 ((σ11.1 86 21) + (1 : Int32))) fun σ12 => some (((σ12.1 86 21) - (1 : Int32)), σ12) else cl (f_X12_no t7 σ) fun v13 σ14 => some (v13, σ14)
def f_X12_pipe (a1 : Int32) (a2 : Int32) (a3 : Int32) (σ : Hp) : Option (Int32 × Hp) :=
  cr (f_X12_isRoom a1 σ) fun v1 => jn (f_X12_pipe_j21 σ) fun k21 => if v1 = 0 then k21 () else cr (f_X12_isRoom a2 σ) fun v5 => if v5 = 0 then k21 () else if a1 = a2 then k21 () else cr (f_X12_out a3.toInt64 (1 : Int64) (9 : Int64)) fun v6 => jn (f_X12_pipe_j56 a1 a2 a3 σ) fun k56 => if v6 = 0 then if (σ.1 86 21) = (12 : Int32) then k56 (-6 : Int32) else k56 v6 else k56 v6
def f_X12_plan_j158 (t5 : Int32 × Int32 × Hp) (t6 : Int32) : Option (Int32 × Hp) :=
  some (t6, t5.2.2)
def f_X12_plan_j137 (a2 : Int32) (t5 : Int32 × Int32 × Hp) : Option (Int32 × Hp) :=
  jn (f_X12_plan_j158 t5) fun k158 => if 0 ≤ t5.1 then if a2 = 0 then k158 t5.2.1 else k158 t5.1 else k158 (-9 : Int32)
def f_X12_plan_j131 (t7 : Int32 × Int32 × Int32 × Hp) (kl46 : (Int32 × Int32 × Int32 × Hp) → Option (Int32 × Hp)) (t9 : Int32 × Int32 × Hp) : Option (Int32 × Hp) :=
  lt (t7.2.2.1 + (1 : Int32)) fun x10 => kl46 (t9.1, t9.2.1, x10, t9.2.2)
def f_X12_plan_j110 (a1 : Int32) (t7 : Int32 × Int32 × Int32 × Hp) (t8 : Int32) (k131 : (Int32 × Int32 × Hp) → Option (Int32 × Hp)) (t11 : Unit) : Option (Int32 × Hp) :=
  cl (f_X12_holdsDown t7.2.2.1 a1 t7.2.2.2) fun v12 σ13 => if v12 = 0 then k131 (t7.1, t7.2.1, σ13) else k131 (t7.2.2.1, t8, σ13)
def f_X12_plan_j98 (a1 : Int32) (t7 : Int32 × Int32 × Int32 × Hp) (kl46 : (Int32 × Int32 × Int32 × Hp) → Option (Int32 × Hp)) (t8 : Int32) : Option (Int32 × Hp) :=
  jn (f_X12_plan_j131 t7 kl46) fun k131 => jn (f_X12_plan_j110 a1 t7 t8 k131) fun k110 => if t7.1 < 0 then k110 () else if t7.2.1 ≤ t8 then k131 (t7.1, t7.2.1, t7.2.2.2) else k110 ()
def f_X12_plan_l63 (t7 : Int32 × Int32 × Int32 × Hp) (k98 : Int32 → Option (Int32 × Hp)) (kl63 : (Int32 × Int32) → Option (Int32 × Hp)) (t14 : Int32 × Int32) : Option (Int32 × Hp) :=
  if (t7.2.2.2.1 86 80) ≤ t14.2 then k98 t14.1 else ldI t7.2.2.2 151 6 t14.2 fun v15 => lt (t14.1 + (((t7.2.2.1 >>> (t14.2 &&& 31)) &&& (1 : Int32)) * v15)) fun x16 => lt (t14.2 + (1 : Int32)) fun x17 => kl63 (x16, x17)
def f_X12_plan_l46 (a1 : Int32) (k137 : (Int32 × Int32 × Hp) → Option (Int32 × Hp)) (kl46 : (Int32 × Int32 × Int32 × Hp) → Option (Int32 × Hp)) (t7 : Int32 × Int32 × Int32 × Hp) : Option (Int32 × Hp) :=
  if ((1 : Int32) <<< ((t7.2.2.2.1 86 80) &&& 31)) ≤ t7.2.2.1 then k137 (t7.1, t7.2.1, t7.2.2.2) else jn (f_X12_plan_j98 a1 t7 kl46) fun k98 => lp (f_X12_plan_l63 t7 k98) FU ((0 : Int32), (0 : Int32))
def f_X12_plan (a1 : Int32) (a2 : Int32) (σ : Hp) : Option (Int32 × Hp) :=
  cr (f_X12_isIn a2.toInt64 (0 : Int64) (1 : Int64)) fun v1 => if v1 = 0 then cl (f_X12_no (-2 : Int32) σ) fun v2 σ3 => some (v2, σ3) else cr (f_X12_out a1.toInt64 (0 : Int64) (9999 : Int64)) fun v4 => if v4 = 0 then jn (f_X12_plan_j137 a2) fun k137 => lp (f_X12_plan_l46 a1 k137) FU ((-1 : Int32), (0 : Int32), (0 : Int32), σ) else cl (f_X12_no v4 σ) fun v18 σ19 => some (v18, σ19)
def f_X12_pump_j78 (a1 : Int32) (a2 : Int32) (a3 : Int32) (a4 : Int32) (a5 : Int32) (σ : Hp) (t4 : Int32) : Option (Int32 × Hp) :=
  if t4 = 0 then cr (f_X12_forgets σ) fun σ5 => stI σ5 95 8 (σ5.1 86 22) a1 fun σ6 => stI σ6 96 24 ((3 : Int32) * (σ6.1 86 22)) a2 fun σ7 => stI σ7 96 24 (((3 : Int32) * (σ7.1 86 22)) + (1 : Int32)) a3 fun σ8 => stI σ8 96 24 (((3 : Int32) * (σ8.1 86 22)) + (2 : Int32)) a4 fun σ9 => stI σ9 97 8 (σ9.1 86 22) a5 fun σ10 => lt (sI σ10 86 22 ((σ10.1 86 22) + (1 : Int32))) fun σ11 => some (((σ11.1 86 22) - (1 : Int32)), σ11) else cl (f_X12_no t4 σ) fun v12 σ13 => some (v12, σ13)
def f_X12_pump_j32 (k78 : Int32 → Option (Int32 × Hp)) (t14 : Unit) : Option (Int32 × Hp) :=
  k78 (-4 : Int32)
def f_X12_pump_j72 (k78 : Int32 → Option (Int32 × Hp)) (t15 : Unit) : Option (Int32 × Hp) :=
  k78 (-6 : Int32)
def f_X12_pump (a1 : Int32) (a2 : Int32) (a3 : Int32) (a4 : Int32) (a5 : Int32) (σ : Hp) : Option (Int32 × Hp) :=
  cr (f_X12_isRoom a1 σ) fun v1 => if v1 = 0 then cl (f_X12_no (-1 : Int32) σ) fun v2 σ3 => some (v2, σ3) else jn (f_X12_pump_j78 a1 a2 a3 a4 a5 σ) fun k78 => jn (f_X12_pump_j32 k78) fun k32 => if a2 < 0 then k32 () else if a3 < 0 then k32 () else if a4 < 0 then k32 () else if 0 ≤ a5 then jn (f_X12_pump_j72 k78) fun k72 => if (9 : Int32) < a2 then k72 () else if (9 : Int32) < a3 then k72 () else if (9 : Int32) < a4 then k72 () else if (99999 : Int32) < a5 then k72 () else if (σ.1 86 22) = (8 : Int32) then k72 () else k78 (0 : Int32) else k32 ()
def f_X12_pumpOf_j102 (σ : Hp) (t7 : Int32) : Option (Int32 × Hp) :=
  some (t7, σ)
def f_X12_pumpOf (a1 : Int32) (a2 : Int32) (σ : Hp) : Option (Int32 × Hp) :=
  cr (f_X12_isPump a1 σ) fun v1 => if v1 = 0 then cl (f_X12_no (-1 : Int32) σ) fun v2 σ3 => some (v2, σ3) else cr (f_X12_isIn a2.toInt64 (0 : Int64) (5 : Int64)) fun v4 => if v4 = 0 then cl (f_X12_no (-2 : Int32) σ) fun v5 σ6 => some (v5, σ6) else jn (f_X12_pumpOf_j102 σ) fun k102 => if a2 = 0 then ldI σ 105 8 a1 fun v8 => if v8 = 0 then k102 (0 : Int32) else k102 (1 : Int32) else if a2 = (4 : Int32) then ldI σ 106 8 a1 fun v9 => if v9 = 0 then k102 (0 : Int32) else k102 (1 : Int32) else if a2 = (5 : Int32) then ldI σ 97 8 a1 fun v10 => k102 v10 else ldI σ 101 24 ((((3 : Int32) * a1) + a2) - (1 : Int32)) fun v11 => k102 v11
def f_X12_reading (a1 : Int32) (a2 : Int32) (σ : Hp) : Option (Int32 × Hp) :=
  cr (f_X12_isIn a1.toInt64 (0 : Int64) (2 : Int64)) fun v1 => if v1 = 0 then cl (f_X12_no (-1 : Int32) σ) fun v2 σ3 => some (v2, σ3) else cr (f_X12_out a2.toInt64 (-1 : Int64) (9999 : Int64)) fun v4 => if v4 = 0 then stI σ 138 3 a1 a2 fun σ5 => some ((1 : Int32), σ5) else cl (f_X12_no v4 σ) fun v6 σ7 => some (v6, σ7)
def f_X12_readsBy (a1 : Int32) (a2 : Int64) (a3 : Int64) (a4 : Int64) (σ : Hp) : Option (Int32) :=
  ldI σ 137 9 ((3 : Int32) * a1) fun v1 => ldI σ 137 9 (((3 : Int32) * a1) + (1 : Int32)) fun v2 => ldI σ 137 9 (((3 : Int32) * a1) + (2 : Int32)) fun v3 => dvJ (10 : Int64) <| cr (f_X12_least ((((v1.toInt64 * a2) + (v2.toInt64 * a3)) + (v3.toInt64 * a4)) / (10 : Int64))) fun v4 => some v4
def f_X12_reads_j20 (σ : Hp) (t2 : Unit) : Option (Int32 × Hp) :=
  cl (f_X12_no (-1 : Int32) σ) fun v3 σ4 => some (v3, σ4)
def f_X12_reads (a1 : Int32) (a2 : Int32) (σ : Hp) : Option (Int32 × Hp) :=
  cr (f_X12_isIn a1.toInt64 (0 : Int64) (2 : Int64)) fun v1 => jn (f_X12_reads_j20 σ) fun k20 => if v1 = 0 then k20 () else cr (f_X12_isRoom a2 σ) fun v5 => if v5 = 0 then k20 () else ldI σ 99 15 ((3 : Int32) * a2) fun v6 => ldI σ 99 15 (((3 : Int32) * a2) + (1 : Int32)) fun v7 => ldI σ 99 15 (((3 : Int32) * a2) + (2 : Int32)) fun v8 => cr (f_X12_readsBy a1 v6.toInt64 v7.toInt64 v8.toInt64 σ) fun v9 => some (v9, σ)
def f_X12_redo (σ : Hp) : Option (Int32 × Hp) :=
  if (σ.1 86 51) = 0 then cl (f_X12_no (-3 : Int32) σ) fun v1 σ2 => some (v1, σ2) else ldI σ 122 30 (σ.1 86 50) fun v3 => ldI σ 123 30 (σ.1 86 50) fun v4 => ldI σ 125 30 (σ.1 86 50) fun v5 => cr (f_X12_becomes v3 v4 v5 σ) fun σ6 => lt (sI σ6 86 50 ((σ6.1 86 50) + (1 : Int32))) fun σ7 => lt (sI σ7 86 51 ((σ7.1 86 51) - (1 : Int32))) fun σ8 => some ((1 : Int32), σ8)
def f_X12_rest_j15 (σ : Hp) (t2 : Unit) : Option (Int64 × Hp) :=
  cl (f_X12_no (-1 : Int32) σ) fun v3 σ4 => some (v3.toInt64, σ4)
def f_X12_rest_j145 (σ10 : Hp) (t16 : Int64) : Option (Int64 × Hp) :=
  some (t16, σ10)
def f_X12_rest_j128 (a3 : Int32) (σ10 : Hp) (v12 : Int64) (v13 : Int64) (t15 : Int64) : Option (Int64 × Hp) :=
  jn (f_X12_rest_j145 σ10) fun k145 => if a3 = 0 then dvJ t15 <| k145 (v12 / t15) else dvJ t15 <| k145 (v13 / t15)
def f_X12_rest_j63 (a1 : Int32) (a2 : Int32) (a3 : Int32) (t9 : Hp) : Option (Int64 × Hp) :=
  cr (f_X12_solves a2 t9) fun σ10 => ldI σ10 131 5 a1 fun v11 => if v11 = 0 then ldJ σ10 128 30 (((6 : Int32) * a1) + (5 : Int32)) fun v12 => ldJ σ10 128 30 (((6 : Int32) * a1) + a1) fun v13 => cr (f_X12_divisor v12 v13) fun v14 => jn (f_X12_rest_j128 a3 σ10 v12 v13) fun k128 => if 0 ≤ (lg_cmp v13 (0 : Int64)) then k128 v14 else lt (-v14) fun x17 => k128 x17 else some ((-9 : Int64), σ10)
def f_X12_rest_l43 (k63 : Hp → Option (Int64 × Hp)) (kl43 : (Int32 × Hp) → Option (Int64 × Hp)) (t18 : Int32 × Hp) : Option (Int64 × Hp) :=
  if (5 : Int32) ≤ t18.1 then k63 t18.2 else stI t18.2 130 5 t18.1 (0 : Int32) fun σ19 => lt (t18.1 + (1 : Int32)) fun x20 => kl43 (x20, σ19)
def f_X12_rest (a1 : Int32) (a2 : Int32) (a3 : Int32) (σ : Hp) : Option (Int64 × Hp) :=
  cr (f_X12_isRoom a1 σ) fun v1 => jn (f_X12_rest_j15 σ) fun k15 => if v1 = 0 then k15 () else cr (f_X12_isGas a2) fun v5 => if v5 = 0 then k15 () else cr (f_X12_isIn a3.toInt64 (0 : Int64) (1 : Int64)) fun v6 => if v6 = 0 then cl (f_X12_no (-2 : Int32) σ) fun v7 σ8 => some (v7.toInt64, σ8) else jn (f_X12_rest_j63 a1 a2 a3) fun k63 => lp (f_X12_rest_l43 k63) FU ((0 : Int32), σ)
def f_X12_restCold_j25 (t2 : Int32 × Hp) : Option (Int32 × Hp) :=
  some (t2.1, t2.2)
def f_X12_restCold (a1 : Int32) (σ : Hp) : Option (Int32 × Hp) :=
  cr (f_X12_isIn a1.toInt64 (0 : Int64) (3 : Int64)) fun v1 => jn (f_X12_restCold_j25) fun k25 => if v1 = 0 then cl (f_X12_no (-1 : Int32) σ) fun v3 σ4 => k25 (v3, σ4) else cr (f_X12_rests a1 σ) fun v5 => k25 (v5, σ)
def f_X12_room_j43 (a1 : Int32) (a2 : Int32) (σ : Hp) (t5 : Int32) : Option (Int32 × Hp) :=
  if t5 = 0 then cr (f_X12_forgets σ) fun σ6 => stI σ6 88 5 (σ6.1 86 20) a1 fun σ7 => stI σ7 89 5 (σ7.1 86 20) a2 fun σ8 => stI σ8 90 5 (σ8.1 86 20) (5 : Int32) fun σ9 => lt (sI σ9 86 20 ((σ9.1 86 20) + (1 : Int32))) fun σ10 => some (((σ10.1 86 20) - (1 : Int32)), σ10) else cl (f_X12_no t5 σ) fun v11 σ12 => some (v11, σ12)
def f_X12_room (a1 : Int32) (a2 : Int32) (σ : Hp) : Option (Int32 × Hp) :=
  cr (f_X12_isIn a2.toInt64 (0 : Int64) (3 : Int64)) fun v1 => if v1 = 0 then cl (f_X12_no (-1 : Int32) σ) fun v2 σ3 => some (v2, σ3) else cr (f_X12_out a1.toInt64 (1 : Int64) (99 : Int64)) fun v4 => jn (f_X12_room_j43 a1 a2 σ) fun k43 => if v4 = 0 then if (σ.1 86 20) = (5 : Int32) then k43 (-6 : Int32) else k43 v4 else k43 v4
def f_X12_rule_j76 (x5 : Int32) (t7 : Hp) : Option (Int32 × Hp) :=
  stI t7 117 16 (t7.1 86 38) x5 fun σ8 => stZ σ8 119 16 (σ8.1 86 38) (0 : Int32) fun σ9 => lt (sI σ9 86 38 ((σ9.1 86 38) + (1 : Int32))) fun σ10 => some (((σ10.1 86 38) - (1 : Int32)), σ10)
def f_X12_rule_l45 (x5 : Int32) (k76 : Hp → Option (Int32 × Hp)) (kl45 : (Int32 × Hp) → Option (Int32 × Hp)) (t11 : Int32 × Hp) : Option (Int32 × Hp) :=
  if x5 ≤ t11.1 then k76 t11.2 else ldI t11.2 115 40 t11.1 fun v12 => stI t11.2 116 640 (((40 : Int32) * (t11.2.1 86 38)) + t11.1) v12 fun σ13 => lt (t11.1 + (1 : Int32)) fun x14 => kl45 (x14, σ13)
def f_X12_rule (σ : Hp) : Option (Int32 × Hp) :=
  if (σ.1 86 38) = (16 : Int32) then cl (f_X12_no (-6 : Int32) σ) fun v1 σ2 => some (v1, σ2) else cl (f_X12_parses σ) fun v3 σ4 => lt (σ4.1 86 37) fun x5 => lt (sI σ4 86 37 (0 : Int32)) fun σ6 => if v3 = 0 then some (((-20 : Int32) - (σ6.1 86 39)), σ6) else jn (f_X12_rule_j76 x5) fun k76 => lp (f_X12_rule_l45 x5 k76) FU ((0 : Int32), σ6)
def f_X12_seen_j26 (a1 : Int32) (a2 : Int32) (σ : Hp) (t2 : Int32) : Option (Int32 × Hp) :=
  if t2 = 0 then stI σ 146 20 (σ.1 86 76) a1 fun σ3 => stZ σ3 148 20 (σ3.1 86 76) a2 fun σ4 => lt (sI σ4 86 76 ((σ4.1 86 76) + (1 : Int32))) fun σ5 => some ((σ5.1 86 76), σ5) else cl (f_X12_no t2 σ) fun v6 σ7 => some (v6, σ7)
def f_X12_seen (a1 : Int32) (a2 : Int32) (σ : Hp) : Option (Int32 × Hp) :=
  cr (f_X12_out a1.toInt64 (0 : Int64) (9999 : Int64)) fun v1 => jn (f_X12_seen_j26 a1 a2 σ) fun k26 => if v1 = 0 then if (σ.1 86 76) = (20 : Int32) then k26 (-6 : Int32) else k26 v1 else k26 v1
def f_X12_sees_j19 (σ : Hp) (t2 : Unit) : Option (Int32 × Hp) :=
  cl (f_X12_no (-1 : Int32) σ) fun v3 σ4 => some (v3, σ4)
def f_X12_sees (a1 : Int32) (a2 : Int32) (a3 : Int32) (σ : Hp) : Option (Int32 × Hp) :=
  cr (f_X12_isIn a1.toInt64 (0 : Int64) (2 : Int64)) fun v1 => jn (f_X12_sees_j19 σ) fun k19 => if v1 = 0 then k19 () else cr (f_X12_isGas a2) fun v5 => if v5 = 0 then k19 () else cr (f_X12_out a3.toInt64 (0 : Int64) (9 : Int64)) fun v6 => if v6 = 0 then ldI σ 137 9 (((3 : Int32) * a1) + a2) fun v7 => stI σ 137 9 (((3 : Int32) * a1) + a2) a3 fun σ8 => some (v7, σ8) else cl (f_X12_no v6 σ) fun v9 σ10 => some (v9, σ10)
def f_X12_spray_j44 (a1 : Int32) (a2 : Int32) (σ : Hp) (t5 : Int32) : Option (Int32 × Hp) :=
  if t5 = 0 then stI σ 144 20 (σ.1 86 75) a1 fun σ6 => stI σ6 145 20 (σ6.1 86 75) a2 fun σ7 => lt (sI σ7 86 75 ((σ7.1 86 75) + (1 : Int32))) fun σ8 => some ((σ8.1 86 75), σ8) else cl (f_X12_no t5 σ) fun v9 σ10 => some (v9, σ10)
def f_X12_spray (a1 : Int32) (a2 : Int32) (σ : Hp) : Option (Int32 × Hp) :=
  cr (f_X12_isIn a1.toInt64 (0 : Int64) (7 : Int64)) fun v1 => if v1 = 0 then cl (f_X12_no (-1 : Int32) σ) fun v2 σ3 => some (v2, σ3) else cr (f_X12_out a2.toInt64 (0 : Int64) (9999 : Int64)) fun v4 => jn (f_X12_spray_j44 a1 a2 σ) fun k44 => if v4 = 0 then if (σ.1 86 75) = (20 : Int32) then k44 (-6 : Int32) else k44 v4 else k44 v4
def f_X12_square_j24 (σ : Hp) (t2 : Unit) : Option (Int32 × Hp) :=
  cl (f_X12_no (-1 : Int32) σ) fun v3 σ4 => some (v3, σ4)
def f_X12_square_j49 (a1 : Int32) (a2 : Int32) (a3 : Int32) (σ : Hp) (t7 : Int32) : Option (Int32 × Hp) :=
  stZ σ 132 25 (((5 : Int32) * a1) + a2) a3 fun σ8 => some (t7, σ8)
def f_X12_square (a1 : Int32) (a2 : Int32) (a3 : Int32) (σ : Hp) : Option (Int32 × Hp) :=
  cr (f_X12_isIn a1.toInt64 (0 : Int64) (4 : Int64)) fun v1 => jn (f_X12_square_j24 σ) fun k24 => if v1 = 0 then k24 () else cr (f_X12_isIn a2.toInt64 (0 : Int64) (4 : Int64)) fun v5 => if v5 = 0 then k24 () else ldI σ 132 25 (((5 : Int32) * a1) + a2) fun v6 => jn (f_X12_square_j49 a1 a2 a3 σ) fun k49 => if v6 = a3 then k49 (0 : Int32) else k49 (1 : Int32)
def f_X12_stage_j76 (a1 : Int32) (a2 : Int32) (a3 : Int32) (a4 : Int32) (a5 : Int32) (σ : Hp) (t4 : Int32) : Option (Int32 × Hp) :=
  if t4 = 0 then stI σ 139 4 a1 a2 fun σ5 => stI σ5 140 4 a1 a3 fun σ6 => stI σ6 141 4 a1 a4 fun σ7 => stI σ7 142 4 a1 a5 fun σ8 => some ((1 : Int32), σ8) else cl (f_X12_no t4 σ) fun v9 σ10 => some (v9, σ10)
def f_X12_stage_j37 (k76 : Int32 → Option (Int32 × Hp)) (t11 : Unit) : Option (Int32 × Hp) :=
  k76 (-4 : Int32)
def f_X12_stage_j70 (k76 : Int32 → Option (Int32 × Hp)) (t12 : Unit) : Option (Int32 × Hp) :=
  k76 (-6 : Int32)
def f_X12_stage (a1 : Int32) (a2 : Int32) (a3 : Int32) (a4 : Int32) (a5 : Int32) (σ : Hp) : Option (Int32 × Hp) :=
  cr (f_X12_isIn a1.toInt64 (0 : Int64) (3 : Int64)) fun v1 => if v1 = 0 then cl (f_X12_no (-1 : Int32) σ) fun v2 σ3 => some (v2, σ3) else jn (f_X12_stage_j76 a1 a2 a3 a4 a5 σ) fun k76 => jn (f_X12_stage_j37 k76) fun k37 => if a2 < 0 then k37 () else if a3 < (1 : Int32) then k37 () else if a4 < 0 then k37 () else if 0 ≤ a5 then jn (f_X12_stage_j70 k76) fun k70 => if (299 : Int32) < a2 then k70 () else if (99 : Int32) < a3 then k70 () else if (99 : Int32) < a4 then k70 () else if a5 ≤ (9999 : Int32) then k76 (0 : Int32) else k70 () else k37 ()
def f_X12_start_j78 (a1 : Int32) (t6 : Hp) (t7 : Int32) : Option (Int32 × Hp) :=
  cl (f_X12_acts (1 : Int32) a1 t7 t6) fun v8 σ9 => some (v8, σ9)
def f_X12_start_j66 (a1 : Int32) (a2 : Int32) (t6 : Hp) : Option (Int32 × Hp) :=
  jn (f_X12_start_j78 a1 t6) fun k78 => if a2 = 0 then k78 (0 : Int32) else k78 (1 : Int32)
def f_X12_start_j46 (a1 : Int32) (a2 : Int32) (σ : Hp) (t5 : Unit) : Option (Int32 × Hp) :=
  jn (f_X12_start_j66 a1 a2) fun k66 => if a2 = 0 then k66 σ else cl (f_X12_forbidden a1 (1 : Int32) σ) fun v10 σ11 => if v10 < 0 then k66 σ11 else cl (f_X12_no (-7 : Int32) σ11) fun v12 σ13 => some (v12, σ13)
def f_X12_start (a1 : Int32) (a2 : Int32) (σ : Hp) : Option (Int32 × Hp) :=
  cr (f_X12_isPump a1 σ) fun v1 => if v1 = 0 then cl (f_X12_no (-1 : Int32) σ) fun v2 σ3 => some (v2, σ3) else ldI σ 105 8 a1 fun v4 => if v4 = a2 then some ((0 : Int32), σ) else jn (f_X12_start_j46 a1 a2 σ) fun k46 => if a2 = 0 then k46 () else ldI σ 106 8 a1 fun v14 => if v14 = 0 then k46 () else cl (f_X12_no (-3 : Int32) σ) fun v15 σ16 => some (v15, σ16)
def f_X12_ticks_l52 (a1 : Int32) (kl52 : (Int32 × Hp) → Option (Int32 × Hp)) (t3 : Int32 × Hp) : Option (Int32 × Hp) :=
  if a1 ≤ t3.1 then some ((t3.2.1 86 23), t3.2) else cr (f_X12_passes t3.2) fun σ4 => lt (t3.1 + (1 : Int32)) fun x5 => kl52 (x5, σ4)
def f_X12_ticks_j35 (a1 : Int32) (σ : Hp) (t1 : Int32) : Option (Int32 × Hp) :=
  if t1 = 0 then cr (f_X12_forgets σ) fun σ2 => lp (f_X12_ticks_l52 a1) FU ((0 : Int32), σ2) else cl (f_X12_no t1 σ) fun v6 σ7 => some (v6, σ7)
def f_X12_ticks_j29 (k35 : Int32 → Option (Int32 × Hp)) (t8 : Unit) : Option (Int32 × Hp) :=
  k35 (-6 : Int32)
def f_X12_ticks (a1 : Int32) (σ : Hp) : Option (Int32 × Hp) :=
  jn (f_X12_ticks_j35 a1 σ) fun k35 => if (1 : Int32) ≤ a1 then jn (f_X12_ticks_j29 k35) fun k29 => if (200 : Int32) < a1 then k29 () else if ((σ.1 86 23) + a1) ≤ (5000 : Int32) then k35 (0 : Int32) else k29 () else k35 (-4 : Int32)
def f_X12_trueGas_j281 (σ : Hp) (t7 : Int32) : Option (Int32 × Hp) :=
  some (t7, σ)
def f_X12_trueGas_j260 (a2 : Int32) (σ : Hp) (t6 : Int32 × Int32 × Int32) : Option (Int32 × Hp) :=
  jn (f_X12_trueGas_j281 σ) fun k281 => if a2 = 0 then k281 t6.1 else if (4 : Int32) ≤ a2 then k281 t6.2.2 else k281 t6.2.1
def f_X12_trueGas_j254 (t8 : Int32 × Int32 × Int32 × Int32) (kl64 : (Int32 × Int32 × Int32 × Int32) → Option (Int32 × Hp)) (t13 : Int32 × Int32 × Int32) : Option (Int32 × Hp) :=
  lt (t8.2.2.2 + (1 : Int32)) fun x14 => kl64 (t13.1, t13.2.1, t13.2.2, x14)
def f_X12_trueGas_j249 (t8 : Int32 × Int32 × Int32 × Int32) (k254 : (Int32 × Int32 × Int32) → Option (Int32 × Hp)) (t16 : Int32) (t17 : Int32) : Option (Int32 × Hp) :=
  lt (t8.1 + (1 : Int32)) fun x18 => k254 (x18, t16, t17)
def f_X12_trueGas_j233 (t8 : Int32 × Int32 × Int32 × Int32) (k254 : (Int32 × Int32 × Int32) → Option (Int32 × Hp)) (t15 : Int32) (t16 : Int32) : Option (Int32 × Hp) :=
  jn (f_X12_trueGas_j249 t8 k254 t16) fun k249 => if t15 ≤ t8.2.2.1 then k249 t8.2.2.1 else k249 t15
def f_X12_trueGas_j226 (t15 : Int32) (k233 : Int32 → Option (Int32 × Hp)) (t19 : Unit) : Option (Int32 × Hp) :=
  k233 t15
def f_X12_trueGas_j212 (t8 : Int32 × Int32 × Int32 × Int32) (k254 : (Int32 × Int32 × Int32) → Option (Int32 × Hp)) (t15 : Int32) : Option (Int32 × Hp) :=
  jn (f_X12_trueGas_j233 t8 k254 t15) fun k233 => jn (f_X12_trueGas_j226 t15 k233) fun k226 => if t8.1 = 0 then k226 () else if t8.2.1 ≤ t15 then k233 t8.2.1 else k226 ()
def f_X12_trueGas_j190 (x9 : Int32) (k212 : Int32 → Option (Int32 × Hp)) (t20 : Unit) : Option (Int32 × Hp) :=
  k212 x9
def f_X12_trueGas_j205 (x10 : Int32) (k212 : Int32 → Option (Int32 × Hp)) (t21 : Unit) : Option (Int32 × Hp) :=
  k212 x10
def f_X12_trueGas_j172 (a2 : Int32) (t8 : Int32 × Int32 × Int32 × Int32) (kl64 : (Int32 × Int32 × Int32 × Int32) → Option (Int32 × Hp)) (x9 : Int32) (x10 : Int32) (x11 : Int32) (t12 : Int32) : Option (Int32 × Hp) :=
  jn (f_X12_trueGas_j254 t8 kl64) fun k254 => if t12 = 0 then k254 (t8.1, t8.2.1, t8.2.2.1) else jn (f_X12_trueGas_j212 t8 k254) fun k212 => jn (f_X12_trueGas_j190 x9 k212) fun k190 => if a2 = (1 : Int32) then k190 () else if a2 = (4 : Int32) then k190 () else jn (f_X12_trueGas_j205 x10 k212) fun k205 => if a2 = (2 : Int32) then k205 () else if a2 = (5 : Int32) then k205 () else k212 x11
def f_X12_trueGas_j164 (t22 : Int32 × Int32) (kl103 : (Int32 × Int32) → Option (Int32 × Hp)) (t23 : Int32) : Option (Int32 × Hp) :=
  lt (t22.2 + (1 : Int32)) fun x24 => kl103 (t23, x24)
def f_X12_trueGas_j163 (k164 : Int32 → Option (Int32 × Hp)) (t25 : Unit) : Option (Int32 × Hp) :=
  k164 (0 : Int32)
def f_X12_trueGas_j159 (k164 : Int32 → Option (Int32 × Hp)) (t27 : Unit) : Option (Int32 × Hp) :=
  k164 (1 : Int32)
def f_X12_trueGas_l103 (a1 : Int32) (σ : Hp) (x9 : Int32) (x10 : Int32) (x11 : Int32) (k172 : Int32 → Option (Int32 × Hp)) (kl103 : (Int32 × Int32) → Option (Int32 × Hp)) (t22 : Int32 × Int32) : Option (Int32 × Hp) :=
  if (3 : Int32) ≤ t22.2 then k172 t22.1 else jn (f_X12_trueGas_j164 t22 kl103) fun k164 => jn (f_X12_trueGas_j163 k164) fun k163 => if t22.1 = 0 then k163 () else ldI σ 138 3 t22.2 fun v26 => jn (f_X12_trueGas_j159 k164) fun k159 => if v26 < 0 then k159 () else cr (f_X12_readsBy t22.2 x9.toInt64 x10.toInt64 x11.toInt64 σ) fun v28 => ldI σ 138 3 t22.2 fun v29 => cr (f_X12_isIn (v28 - v29).toInt64 (-a1).toInt64 a1.toInt64) fun v30 => if v30 = 0 then k163 () else k159 ()
def f_X12_trueGas_l64 (a1 : Int32) (a2 : Int32) (σ : Hp) (k260 : (Int32 × Int32 × Int32) → Option (Int32 × Hp)) (kl64 : (Int32 × Int32 × Int32 × Int32) → Option (Int32 × Hp)) (t8 : Int32 × Int32 × Int32 × Int32) : Option (Int32 × Hp) :=
  if (68921 : Int32) ≤ t8.2.2.2 then k260 (t8.1, t8.2.1, t8.2.2.1) else dvI (1681 : Int32) <| lt (t8.2.2.2 / (1681 : Int32)) fun x9 => dvI (41 : Int32) <| dvI (41 : Int32) <| lt ((t8.2.2.2 / (41 : Int32)) - (t8.2.2.2 / (41 : Int32)) / (41 : Int32) * (41 : Int32)) fun x10 => dvI (41 : Int32) <| lt (t8.2.2.2 - t8.2.2.2 / (41 : Int32) * (41 : Int32)) fun x11 => jn (f_X12_trueGas_j172 a2 t8 kl64 x9 x10 x11) fun k172 => lp (f_X12_trueGas_l103 a1 σ x9 x10 x11 k172) FU ((1 : Int32), (0 : Int32))
def f_X12_trueGas (a1 : Int32) (a2 : Int32) (σ : Hp) : Option (Int32 × Hp) :=
  cr (f_X12_isIn a2.toInt64 (0 : Int64) (7 : Int64)) fun v1 => if v1 = 0 then cl (f_X12_no (-2 : Int32) σ) fun v2 σ3 => some (v2, σ3) else cr (f_X12_out a1.toInt64 (0 : Int64) (9 : Int64)) fun v4 => if v4 = 0 then if a2 = (7 : Int32) then cr (f_X12_hidden σ) fun v5 => some (v5, σ) else jn (f_X12_trueGas_j260 a2 σ) fun k260 => lp (f_X12_trueGas_l64 a1 a2 σ k260) FU ((0 : Int32), (-9 : Int32), (-9 : Int32), (0 : Int32)) else cl (f_X12_no v4 σ) fun v31 σ32 => some (v31, σ32)
def f_X12_undo (σ : Hp) : Option (Int32 × Hp) :=
  if (σ.1 86 50) = 0 then cl (f_X12_no (-3 : Int32) σ) fun v1 σ2 => some (v1, σ2) else lt (sI σ 86 50 ((σ.1 86 50) - (1 : Int32))) fun σ3 => lt (sI σ3 86 51 ((σ3.1 86 51) + (1 : Int32))) fun σ4 => ldI σ4 122 30 (σ4.1 86 50) fun v5 => ldI σ4 123 30 (σ4.1 86 50) fun v6 => ldI σ4 124 30 (σ4.1 86 50) fun v7 => cr (f_X12_becomes v5 v6 v7 σ4) fun σ8 => some ((1 : Int32), σ8)
def f_X12_unrule_j25 (σ : Hp) (t2 : Unit) : Option (Int32 × Hp) :=
  cl (f_X12_no (-1 : Int32) σ) fun v3 σ4 => some (v3, σ4)
def f_X12_unrule (a1 : Int32) (σ : Hp) : Option (Int32 × Hp) :=
  cr (f_X12_isIn a1.toInt64 (0 : Int64) ((σ.1 86 38) - (1 : Int32)).toInt64) fun v1 => jn (f_X12_unrule_j25 σ) fun k25 => if v1 = 0 then k25 () else ldI σ 119 16 a1 fun v5 => if v5 = 0 then stZ σ 119 16 a1 (1 : Int32) fun σ6 => some ((1 : Int32), σ6) else k25 ()
def f_X12_valve_j58 (a1 : Int32) (t5 : Hp) (t6 : Int32) : Option (Int32 × Hp) :=
  cl (f_X12_acts (0 : Int32) a1 t6 t5) fun v7 σ8 => some (v7, σ8)
def f_X12_valve_j46 (a1 : Int32) (a2 : Int32) (t5 : Hp) : Option (Int32 × Hp) :=
  jn (f_X12_valve_j58 a1 t5) fun k58 => if a2 = 0 then k58 (0 : Int32) else k58 (1 : Int32)
def f_X12_valve (a1 : Int32) (a2 : Int32) (σ : Hp) : Option (Int32 × Hp) :=
  cr (f_X12_isPipe a1 σ) fun v1 => if v1 = 0 then cl (f_X12_no (-1 : Int32) σ) fun v2 σ3 => some (v2, σ3) else ldI σ 104 12 a1 fun v4 => if v4 = a2 then some ((0 : Int32), σ) else jn (f_X12_valve_j46 a1 a2) fun k46 => if a2 = 0 then k46 σ else cl (f_X12_forbidden a1 (0 : Int32) σ) fun v9 σ10 => if v9 < 0 then k46 σ10 else cl (f_X12_no (-7 : Int32) σ10) fun v11 σ12 => some (v11, σ12)
def f_X12_walks_j430 (t9 : Int32 × Int32 × Hp) (t11 : Int32) : Option (Int32 × Hp) :=
  some (t11, t9.2.2)
def f_X12_walks_j409 (a3 : Int32) (t9 : Int32 × Int32 × Hp) (t10 : Int32) : Option (Int32 × Hp) :=
  jn (f_X12_walks_j430 t9) fun k430 => if a3 = 0 then k430 t9.1 else if a3 = (1 : Int32) then k430 t9.2.1 else k430 t10
def f_X12_walks_l384 (t9 : Int32 × Int32 × Hp) (k409 : Int32 → Option (Int32 × Hp)) (kl384 : (Int32 × Int32) → Option (Int32 × Hp)) (t12 : Int32 × Int32) : Option (Int32 × Hp) :=
  if (25 : Int32) ≤ t12.2 then k409 t12.1 else ldI t9.2.2 133 25 t12.2 fun v13 => lt (t12.1 + v13) fun x14 => lt (t12.2 + (1 : Int32)) fun x15 => kl384 (x14, x15)
def f_X12_walks_j378 (a3 : Int32) (t9 : Int32 × Int32 × Hp) : Option (Int32 × Hp) :=
  jn (f_X12_walks_j409 a3 t9) fun k409 => lp (f_X12_walks_l384 t9 k409) FU ((0 : Int32), (0 : Int32))
def f_X12_walks_j372 (t16 : Int32 × Int32 × Int32 × Hp) (kl103 : (Int32 × Int32 × Int32 × Hp) → Option (Int32 × Hp)) (t20 : Int32 × Int32 × Hp) (t21 : Hp) : Option (Int32 × Hp) :=
  lt (t16.2.2.1 + (1 : Int32)) fun x22 => kl103 (t20.1, t20.2.1, x22, t21)
def f_X12_walks_l345 (k372 : Hp → Option (Int32 × Hp)) (kl345 : (Int32 × Hp) → Option (Int32 × Hp)) (t23 : Int32 × Hp) : Option (Int32 × Hp) :=
  if (25 : Int32) ≤ t23.1 then k372 t23.2 else ldI t23.2 134 25 t23.1 fun v24 => stI t23.2 133 25 t23.1 v24 fun σ25 => lt (t23.1 + (1 : Int32)) fun x26 => kl345 (x26, σ25)
def f_X12_walks_j342 (t16 : Int32 × Int32 × Int32 × Hp) (kl103 : (Int32 × Int32 × Int32 × Hp) → Option (Int32 × Hp)) (t20 : Int32 × Int32 × Hp) : Option (Int32 × Hp) :=
  jn (f_X12_walks_j372 t16 kl103 t20) fun k372 => lp (f_X12_walks_l345 k372) FU ((0 : Int32), t20.2.2)
def f_X12_walks_j336 (t27 : Int32 × Int32 × Int32 × Hp) (kl148 : (Int32 × Int32 × Int32 × Hp) → Option (Int32 × Hp)) (t28 : Int32 × Int32 × Hp) : Option (Int32 × Hp) :=
  lt (t27.2.2.1 + (1 : Int32)) fun x29 => kl148 (t28.1, t28.2.1, x29, t28.2.2)
def f_X12_walks_j330 (t30 : Int32 × Int32 × Int32 × Hp) (kl158 : (Int32 × Int32 × Int32 × Hp) → Option (Int32 × Hp)) (t36 : Int32 × Int32 × Hp) : Option (Int32 × Hp) :=
  lt (t30.2.2.1 + (1 : Int32)) fun x37 => kl158 (t36.1, t36.2.1, x37, t36.2.2)
def f_X12_walks_j288 (t27 : Int32 × Int32 × Int32 × Hp) (t30 : Int32 × Int32 × Int32 × Hp) (k330 : (Int32 × Int32 × Hp) → Option (Int32 × Hp)) (t38 : Unit) : Option (Int32 × Hp) :=
  ldI t30.2.2.2 134 25 t27.2.2.1 fun v39 => ldI t30.2.2.2 133 25 t27.2.2.1 fun v40 => stI t30.2.2.2 134 25 t27.2.2.1 (v39 + v40) fun σ41 => k330 (t30.1, t30.2.1, σ41)
def f_X12_walks_l158 (a1 : Int32) (t27 : Int32 × Int32 × Int32 × Hp) (k336 : (Int32 × Int32 × Hp) → Option (Int32 × Hp)) (kl158 : (Int32 × Int32 × Int32 × Hp) → Option (Int32 × Hp)) (t30 : Int32 × Int32 × Int32 × Hp) : Option (Int32 × Hp) :=
  if (4 : Int32) ≤ t30.2.2.1 then k336 (t30.1, t30.2.1, t30.2.2.2) else dvI (5 : Int32) <| ldI t30.2.2.2 135 4 t30.2.2.1 fun v31 => lt ((t27.2.2.1 / (5 : Int32)) + v31) fun x32 => dvI (5 : Int32) <| ldI t30.2.2.2 136 4 t30.2.2.1 fun v33 => lt ((t27.2.2.1 - t27.2.2.1 / (5 : Int32) * (5 : Int32)) + v33) fun x34 => ldI t30.2.2.2 132 25 a1 fun v35 => jn (f_X12_walks_j330 t30 kl158) fun k330 => if v35 = 0 then if 0 ≤ x32 then if x32 ≤ (4 : Int32) then jn (f_X12_walks_j288 t27 t30 k330) fun k288 => if x34 < 0 then k288 () else if (4 : Int32) < x34 then k288 () else ldI t30.2.2.2 132 25 (((5 : Int32) * x32) + x34) fun v42 => if v42 = 0 then ldI t30.2.2.2 134 25 (((5 : Int32) * x32) + x34) fun v43 => ldI t30.2.2.2 133 25 t27.2.2.1 fun v44 => stI t30.2.2.2 134 25 (((5 : Int32) * x32) + x34) (v43 + v44) fun σ45 => k330 (t30.1, t30.2.1, σ45) else k288 () else ldI t30.2.2.2 133 25 t27.2.2.1 fun v46 => lt (t30.1 + v46) fun x47 => k330 (x47, t30.2.1, t30.2.2.2) else ldI t30.2.2.2 133 25 t27.2.2.1 fun v48 => lt (t30.2.1 + v48) fun x49 => k330 (t30.1, x49, t30.2.2.2) else ldI t30.2.2.2 134 25 t27.2.2.1 fun v50 => ldI t30.2.2.2 133 25 t27.2.2.1 fun v51 => stI t30.2.2.2 134 25 t27.2.2.1 (v50 + v51) fun σ52 => k330 (t30.1, t30.2.1, σ52)
def f_X12_walks_l148 (a1 : Int32) (k342 : (Int32 × Int32 × Hp) → Option (Int32 × Hp)) (kl148 : (Int32 × Int32 × Int32 × Hp) → Option (Int32 × Hp)) (t27 : Int32 × Int32 × Int32 × Hp) : Option (Int32 × Hp) :=
  if (25 : Int32) ≤ t27.2.2.1 then k342 (t27.1, t27.2.1, t27.2.2.2) else jn (f_X12_walks_j336 t27 kl148) fun k336 => lp (f_X12_walks_l158 a1 t27 k336) FU (t27.1, t27.2.1, (0 : Int32), t27.2.2.2)
def f_X12_walks_j145 (a1 : Int32) (t16 : Int32 × Int32 × Int32 × Hp) (kl103 : (Int32 × Int32 × Int32 × Hp) → Option (Int32 × Hp)) (x17 : Int32) (x18 : Int32) (t19 : Hp) : Option (Int32 × Hp) :=
  jn (f_X12_walks_j342 t16 kl103) fun k342 => lp (f_X12_walks_l148 a1 k342) FU (x17, x18, (0 : Int32), t19)
def f_X12_walks_l124 (k145 : Hp → Option (Int32 × Hp)) (kl124 : (Int32 × Hp) → Option (Int32 × Hp)) (t53 : Int32 × Hp) : Option (Int32 × Hp) :=
  if (25 : Int32) ≤ t53.1 then k145 t53.2 else stI t53.2 134 25 t53.1 (0 : Int32) fun σ54 => lt (t53.1 + (1 : Int32)) fun x55 => kl124 (x55, σ54)
def f_X12_walks_l103 (a1 : Int32) (a2 : Int32) (k378 : (Int32 × Int32 × Hp) → Option (Int32 × Hp)) (kl103 : (Int32 × Int32 × Int32 × Hp) → Option (Int32 × Hp)) (t16 : Int32 × Int32 × Int32 × Hp) : Option (Int32 × Hp) :=
  if a2 ≤ t16.2.2.1 then k378 (t16.1, t16.2.1, t16.2.2.2) else lt (t16.1 * (4 : Int32)) fun x17 => lt (t16.2.1 * (4 : Int32)) fun x18 => jn (f_X12_walks_j145 a1 t16 kl103 x17 x18) fun k145 => lp (f_X12_walks_l124 k145) FU ((0 : Int32), t16.2.2.2)
def f_X12_walks_j100 (a1 : Int32) (a2 : Int32) (a3 : Int32) (t8 : Hp) : Option (Int32 × Hp) :=
  jn (f_X12_walks_j378 a3) fun k378 => lp (f_X12_walks_l103 a1 a2 k378) FU ((0 : Int32), (0 : Int32), (0 : Int32), t8)
def f_X12_walks_j93 (t56 : Int32 × Hp) (kl69 : (Int32 × Hp) → Option (Int32 × Hp)) (t57 : Int32) : Option (Int32 × Hp) :=
  stI t56.2 133 25 t56.1 t57 fun σ58 => lt (t56.1 + (1 : Int32)) fun x59 => kl69 (x59, σ58)
def f_X12_walks_l69 (a1 : Int32) (k100 : Hp → Option (Int32 × Hp)) (kl69 : (Int32 × Hp) → Option (Int32 × Hp)) (t56 : Int32 × Hp) : Option (Int32 × Hp) :=
  if (25 : Int32) ≤ t56.1 then k100 t56.2 else jn (f_X12_walks_j93 t56 kl69) fun k93 => if t56.1 = a1 then k93 (1 : Int32) else k93 (0 : Int32)
def f_X12_walks (a1 : Int32) (a2 : Int32) (a3 : Int32) (σ : Hp) : Option (Int32 × Hp) :=
  cr (f_X12_isIn a1.toInt64 (0 : Int64) (4 : Int64)) fun v1 => if v1 = 0 then cl (f_X12_no (-1 : Int32) σ) fun v2 σ3 => some (v2, σ3) else cr (f_X12_isIn a3.toInt64 (0 : Int64) (2 : Int64)) fun v4 => if v4 = 0 then cl (f_X12_no (-2 : Int32) σ) fun v5 σ6 => some (v5, σ6) else cr (f_X12_out a2.toInt64 (1 : Int64) (12 : Int64)) fun v7 => if v7 = 0 then jn (f_X12_walks_j100 a1 a2 a3) fun k100 => lp (f_X12_walks_l69 a1 k100) FU ((0 : Int32), σ) else cl (f_X12_no v7 σ) fun v60 σ61 => some (v60, σ61)
def f_X12_warm (a1 : Int32) (a2 : Int32) (σ : Hp) : Option (Int32 × Hp) :=
  cr (f_X12_isRoom a1 σ) fun v1 => if v1 = 0 then cl (f_X12_no (-1 : Int32) σ) fun v2 σ3 => some (v2, σ3) else cr (f_X12_out a2.toInt64 (0 : Int64) (9 : Int64)) fun v4 => if v4 = 0 then cr (f_X12_forgets σ) fun σ5 => ldI σ5 90 5 a1 fun v6 => stI σ5 90 5 a1 a2 fun σ7 => some (v6, σ7) else cl (f_X12_no v4 σ) fun v8 σ9 => some (v8, σ9)
def f_X12_warmUp_j50 (t8 : Int32 × Hp) : Option (Int32 × Hp) :=
  some (t8.1, t8.2)
def f_X12_warmUp (a1 : Int32) (σ : Hp) : Option (Int32 × Hp) :=
  cr (f_X12_isPump a1 σ) fun v1 => if v1 = 0 then cl (f_X12_no (-1 : Int32) σ) fun v2 σ3 => some (v2, σ3) else ldI σ 97 8 a1 fun v4 => if v4 = 0 then cl (f_X12_no (-3 : Int32) σ) fun v5 σ6 => some (v5, σ6) else ldI σ 106 8 a1 fun v7 => jn (f_X12_warmUp_j50) fun k50 => if v7 = 0 then cl (f_X12_acts (2 : Int32) a1 (2 : Int32) σ) fun v9 σ10 => k50 (v9, σ10) else k50 ((0 : Int32), σ)
def f_X12_when_j125 (x6 : Int32) (t7 : Int32 × Hp) : Option (Int32 × Hp) :=
  lt (sI t7.2 86 23 x6) fun σ8 => cr (f_X12_copies (0 : Int32) σ8) fun σ9 => some (t7.1, σ9)
def f_X12_when_j119 (t10 : Int32 × Int32 × Hp) (kl79 : (Int32 × Int32 × Hp) → Option (Int32 × Hp)) (σ11 : Hp) (t13 : Int32) : Option (Int32 × Hp) :=
  lt (t10.2.1 + (1 : Int32)) fun x14 => kl79 (t13, x14, σ11)
def f_X12_when_l79 (a1 : Int32) (a2 : Int32) (a3 : Int32) (k125 : (Int32 × Hp) → Option (Int32 × Hp)) (kl79 : (Int32 × Int32 × Hp) → Option (Int32 × Hp)) (t10 : Int32 × Int32 × Hp) : Option (Int32 × Hp) :=
  if a3 ≤ t10.2.1 then k125 (t10.1, t10.2.2) else if (5000 : Int32) ≤ (t10.2.2.1 86 23) then k125 (t10.1, t10.2.2) else if 0 ≤ t10.1 then k125 (t10.1, t10.2.2) else cr (f_X12_passes t10.2.2) fun σ11 => cr (f_X12_push a1 σ11) fun v12 => jn (f_X12_when_j119 t10 kl79 σ11) fun k119 => if a2 ≤ v12 then k119 t10.1 else lt (σ11.1 86 23) fun x15 => k119 x15
def f_X12_when_j47 (a1 : Int32) (a2 : Int32) (a3 : Int32) (σ : Hp) (t4 : Int32) : Option (Int32 × Hp) :=
  if t4 = 0 then cr (f_X12_copies (1 : Int32) σ) fun σ5 => lt (σ5.1 86 23) fun x6 => jn (f_X12_when_j125 x6) fun k125 => lp (f_X12_when_l79 a1 a2 a3 k125) FU ((-9 : Int32), (0 : Int32), σ5) else cl (f_X12_no t4 σ) fun v16 σ17 => some (v16, σ17)
def f_X12_when_j23 (k47 : Int32 → Option (Int32 × Hp)) (t18 : Unit) : Option (Int32 × Hp) :=
  k47 (-4 : Int32)
def f_X12_when_j41 (k47 : Int32 → Option (Int32 × Hp)) (t19 : Unit) : Option (Int32 × Hp) :=
  k47 (-6 : Int32)
def f_X12_when (a1 : Int32) (a2 : Int32) (a3 : Int32) (σ : Hp) : Option (Int32 × Hp) :=
  cr (f_X12_isRoom a1 σ) fun v1 => if v1 = 0 then cl (f_X12_no (-1 : Int32) σ) fun v2 σ3 => some (v2, σ3) else jn (f_X12_when_j47 a1 a2 a3 σ) fun k47 => jn (f_X12_when_j23 k47) fun k23 => if a2 < 0 then k23 () else if (1 : Int32) ≤ a3 then jn (f_X12_when_j41 k47) fun k41 => if (999999 : Int32) < a2 then k41 () else if a3 ≤ (300 : Int32) then k47 (0 : Int32) else k41 () else k23 ()
