/-! ===== how great the products may be ===== -/
theorem sq4 (a b : Nat) : 4 * (a * b) ≤ (a + b) * (a + b) := by
  rcases Nat.le_total a b with h | h
  · obtain ⟨k, rfl⟩ := Nat.exists_eq_add_of_le h
    have e : (a + (a + k)) * (a + (a + k)) = 4 * (a * (a + k)) + k * k := by
      simp only [Nat.mul_add, Nat.add_mul, Nat.mul_comm k a]
      omega
    omega
  · obtain ⟨k, rfl⟩ := Nat.exists_eq_add_of_le h
    have e : ((b + k) + b) * ((b + k) + b) = 4 * ((b + k) * b) + k * k := by
      simp only [Nat.mul_add, Nat.add_mul, Nat.mul_comm k b]
      omega
    omega
theorem sq_m {a b : Nat} (h : a ≤ b) : a * a ≤ b * b := Nat.mul_le_mul h h
/-- four numbers -/
theorem amgm4 (p q s t M : Nat) (h : p + q + s + t ≤ M) : 256 * (p * q * s * t) ≤ (M * M) * (M * M) := by
  have h1 := sq4 p q
  have h2 := sq4 s t
  have h3 := sq4 ((p + q)) ((s + t))
  have h4 := sq_m (show p + q + (s + t) ≤ M by omega)
  have h5 : (4 * (p * q)) * (4 * (s * t)) ≤ ((p + q) * (p + q)) * ((s + t) * (s + t)) := Nat.mul_le_mul h1 h2
  have h6 : 4 * ((p + q) * (s + t)) ≤ M * M := Nat.le_trans h3 h4
  have h7 : (4 * ((p + q) * (s + t))) * (4 * ((p + q) * (s + t))) ≤ (M * M) * (M * M) := Nat.mul_le_mul h6 h6
  have e1 : (4 * (p * q)) * (4 * (s * t)) = 16 * (p * q * s * t) := by
    rw [Nat.mul_assoc (p * q) s t]
    generalize p * q = A
    generalize s * t = B
    rw [Nat.mul_assoc, Nat.mul_left_comm A 4 B]
    omega
  have e2 : (4 * ((p + q) * (s + t))) * (4 * ((p + q) * (s + t))) = 16 * (((p + q) * (p + q)) * ((s + t) * (s + t))) := by
    generalize p + q = x
    generalize s + t = y
    have : 4 * (x * y) * (4 * (x * y)) = 16 * ((x * y) * (x * y)) := by
      generalize x * y = z
      rw [Nat.mul_assoc, Nat.mul_left_comm z 4 z]
      omega
    rw [this]
    congr 1
    simp only [Nat.mul_assoc, Nat.mul_left_comm, Nat.mul_comm]
  rw [e1] at h5
  rw [e2] at h7
  omega
/-- (u v w)(u v w x y) -/
theorem amgm_Q (u v w x y : Nat) (h : u + v + w + x + y ≤ 347) : (u * v * w) * (u * v * w * x * y) ≤ 801900000000000 := by
  have h1 := amgm4 (u + v) (u + w) (v + w) (2 * x + 2 * y) 694 (by omega)
  have a1 := sq4 u v
  have a2 := sq4 u w
  have a3 := sq4 v w
  have a4 := sq4 (2 * x) (2 * y)
  generalize hp : u + v = p at *
  generalize hq : u + w = q at *
  generalize hs : v + w = s at *
  generalize ht : 2 * x + 2 * y = t at *
  have hb : p * q * s * t ≤ 906145456 := by omega
  have h2 : (4 * (u * v)) * (4 * (u * w)) * ((4 * (v * w)) * (4 * (2 * x * (2 * y)))) ≤ (p * p) * (q * q) * ((s * s) * (t * t)) := Nat.mul_le_mul (Nat.mul_le_mul a1 a2) (Nat.mul_le_mul a3 a4)
  have e1 : (p * p) * (q * q) * ((s * s) * (t * t)) = (p * q * s * t) * (p * q * s * t) := by simp only [Nat.mul_assoc, Nat.mul_left_comm, Nat.mul_comm]
  have e2 : (4 * (u * v)) * (4 * (u * w)) * ((4 * (v * w)) * (4 * (2 * x * (2 * y)))) = 1024 * ((u * v * w) * (u * v * w * x * y)) := by
    have e3 : (u * v * w) * (u * v * w * x * y) = (u * v) * ((u * w) * ((v * w) * (x * y))) := by simp only [Nat.mul_assoc, Nat.mul_left_comm, Nat.mul_comm]
    have e4 : 2 * x * (2 * y) = 4 * (x * y) := by
      rw [Nat.mul_assoc, Nat.mul_left_comm x 2 y]
      omega
    rw [e3, e4]
    generalize u * v = A
    generalize u * w = B
    generalize v * w = C
    generalize x * y = D
    have f1 : 4 * (4 * D) = 16 * D := by omega
    have f2 : 4 * C * (16 * D) = 64 * (C * D) := by rw [Nat.mul_assoc, Nat.mul_left_comm C 16 D]; omega
    have f3 : 4 * A * (4 * B) = 16 * (A * B) := by rw [Nat.mul_assoc, Nat.mul_left_comm A 4 B]; omega
    rw [f1, f2, f3, Nat.mul_assoc 16, Nat.mul_left_comm (A * B) 64, Nat.mul_assoc A B]
    omega
  rw [e1, e2] at h2
  have h3 := sq_m hb
  omega
theorem amgm_P (u v w x y : Nat) (h : u + v + w + x + y ≤ 347) : u * v * w * x * y ≤ 1700000000 := by
  have h1 := amgm4 (u + v) (w + x) (y + 69) 138 554 (by omega)
  have a1 := sq4 u v
  have a2 := sq4 w x
  have a3 := sq4 y 69
  generalize hp : u + v = p at *
  generalize hq : w + x = q at *
  generalize hs : y + 69 = s at *
  have hb : p * q * s ≤ 2666368 := by omega
  have h2 : (4 * (u * v)) * (4 * (w * x)) * (4 * (y * 69)) ≤ (p * p) * (q * q) * (s * s) := Nat.mul_le_mul (Nat.mul_le_mul a1 a2) a3
  have e1 : (p * p) * (q * q) * (s * s) = (p * q * s) * (p * q * s) := by simp only [Nat.mul_assoc, Nat.mul_left_comm, Nat.mul_comm]
  have e2 : (4 * (u * v)) * (4 * (w * x)) * (4 * (y * 69)) = 4416 * (u * v * w * x * y) := by
    have e3 : u * v * w * x * y = (u * v) * ((w * x) * y) := by simp only [Nat.mul_assoc]
    rw [e3]
    generalize u * v = A
    generalize w * x = B
    have f3 : 4 * A * (4 * B) = 16 * (A * B) := by rw [Nat.mul_assoc, Nat.mul_left_comm A 4 B]; omega
    have f4 : 4 * (y * 69) = 276 * y := by omega
    rw [f3, f4, Nat.mul_assoc 16, Nat.mul_left_comm (A * B) 276, Nat.mul_assoc A B]
    omega
  rw [e1, e2] at h2
  have h3 := sq_m hb
  omega
section BND
variable {d : Nat → Int}
theorem im_le {a b c e : Int} (h1 : a ≤ b) (h2 : c ≤ e) (ha : 0 ≤ b) (hc : 0 ≤ c) : a * c ≤ b * e :=
  Int.le_trans (Int.mul_le_mul_of_nonneg_right h1 hc) (Int.mul_le_mul_of_nonneg_left h2 ha)
theorem prT_1 (hd : ∀ i, i < 5 → 1 ≤ d i) (T : Nat) : 1 ≤ prT d T := by
  have hf : ∀ i, i < 5 → 1 ≤ (if T.testBit i then d i else 1) := fun i hi => by
    have := hd i hi
    split <;> omega
  have hm : ∀ a b : Int, 1 ≤ a → 1 ≤ b → 1 ≤ a * b := fun a b ha hb => by
    have := Int.mul_le_mul_of_nonneg_left hb (show 0 ≤ a by omega)
    omega
  unfold prT
  exact hm _ _ (hf 0 (by omega)) (hm _ _ (hf 1 (by omega)) (hm _ _ (hf 2 (by omega)) (hm _ _ (hf 3 (by omega)) (hf 4 (by omega)))))
theorem prT_le (hd : ∀ i, i < 5 → 1 ≤ d i) {T T' : Nat} (h : ∀ i, i < 5 → T.testBit i = true → T'.testBit i = true) : prT d T ≤ prT d T' := by
  have hf : ∀ i, i < 5 → 1 ≤ (if T.testBit i then d i else 1) ∧ (if T.testBit i then d i else 1) ≤ (if T'.testBit i then d i else 1) := fun i hi => by
    have h1 := hd i hi
    by_cases e : T.testBit i = true
    · rw [if_pos e, if_pos (h i hi e)]; omega
    · rw [if_neg e]
      split <;> omega
  have h1 : ∀ a b : Int, 1 ≤ a → 1 ≤ b → 1 ≤ a * b := fun a b ha hb => by
    have := Int.mul_le_mul_of_nonneg_left hb (show 0 ≤ a by omega)
    omega
  unfold prT
  obtain ⟨a0, b0⟩ := hf 0 (by omega)
  obtain ⟨a1, b1⟩ := hf 1 (by omega)
  obtain ⟨a2, b2⟩ := hf 2 (by omega)
  obtain ⟨a3, b3⟩ := hf 3 (by omega)
  obtain ⟨a4, b4⟩ := hf 4 (by omega)
  have c3 := h1 _ _ a3 a4
  have c2 := h1 _ _ a2 c3
  have c1 := h1 _ _ a1 c2
  exact im_le b0 (im_le b1 (im_le b2 (im_le b3 b4 (by omega) (by omega)) (by omega) (by omega)) (by omega) (by omega)) (by omega) (by omega)
theorem cast5 (u v w x y : Nat) : ((u * v * w * x * y : Nat) : Int) = (u : Int) * ((v : Int) * ((w : Int) * ((x : Int) * (y : Int)))) := by
  simp only [Int.natCast_mul, Int.mul_assoc]
/-- the product of all -/
theorem prT_31 (hd : ∀ i, i < 5 → 1 ≤ d i) (hs : a5 d ≤ 347) : prT d 31 ≤ 1700000000 := by
  have e : prT d 31 = d 0 * (d 1 * (d 2 * (d 3 * d 4))) := rfl
  simp only [a5] at hs
  have h0 := hd 0 (by omega)
  have h1 := hd 1 (by omega)
  have h2 := hd 2 (by omega)
  have h3 := hd 3 (by omega)
  have h4 := hd 4 (by omega)
  obtain ⟨u, hu⟩ := Int.eq_ofNat_of_zero_le (show 0 ≤ d 0 by omega)
  obtain ⟨v, hv⟩ := Int.eq_ofNat_of_zero_le (show 0 ≤ d 1 by omega)
  obtain ⟨w, hw⟩ := Int.eq_ofNat_of_zero_le (show 0 ≤ d 2 by omega)
  obtain ⟨x, hx⟩ := Int.eq_ofNat_of_zero_le (show 0 ≤ d 3 by omega)
  obtain ⟨y, hy⟩ := Int.eq_ofNat_of_zero_le (show 0 ≤ d 4 by omega)
  rw [e, hu, hv, hw, hx, hy, ← cast5]
  have := amgm_P u v w x y (by omega)
  omega
theorem castQ (u v w x y : Nat) : (((u * v * w) * (u * v * w * x * y) : Nat) : Int) = ((u : Int) * ((v : Int) * (w : Int))) * ((u : Int) * ((v : Int) * ((w : Int) * ((x : Int) * (y : Int))))) := by
  simp only [Int.natCast_mul, Int.mul_assoc]
theorem Q_le (u v w x y : Int) (h0 : 0 ≤ u) (h1 : 0 ≤ v) (h2 : 0 ≤ w) (h3 : 0 ≤ x) (h4 : 0 ≤ y) (hs : u + v + w + x + y ≤ 347) : (u * (v * w)) * (u * (v * (w * (x * y)))) ≤ 801900000000000 := by
  obtain ⟨u, rfl⟩ := Int.eq_ofNat_of_zero_le h0
  obtain ⟨v, rfl⟩ := Int.eq_ofNat_of_zero_le h1
  obtain ⟨w, rfl⟩ := Int.eq_ofNat_of_zero_le h2
  obtain ⟨x, rfl⟩ := Int.eq_ofNat_of_zero_le h3
  obtain ⟨y, rfl⟩ := Int.eq_ofNat_of_zero_le h4
  rw [← castQ]
  have := amgm_Q u v w x y (by omega)
  omega
theorem prT_Q1 (hd : ∀ i, i < 5 → 1 ≤ d i) {T U : Nat} {x y u v w : Int} (hU : ∀ i, i < 5 → T.testBit i = true → Nat.testBit U i = true) (e1 : prT d U = u * (v * w)) (e2 : d 0 * (d 1 * (d 2 * (d 3 * d 4))) = u * (v * (w * (x * y)))) (g0 : 1 ≤ u) (g1 : 1 ≤ v) (g2 : 1 ≤ w) (g3 : 1 ≤ x) (g4 : 1 ≤ y) (g5 : u + v + w + x + y ≤ 347) : prT d T * prT d 31 ≤ 801900000000000 := by
  have hP := prT_1 hd 31
  have h1 := Int.mul_le_mul_of_nonneg_right (prT_le hd hU) (show 0 ≤ prT d 31 by omega)
  have hq := Q_le u v w x y (by omega) (by omega) (by omega) (by omega) (by omega) g5
  have e31 : prT d 31 = u * (v * (w * (x * y))) := e2
  rw [e1, e31] at h1
  rw [e31]
  exact Int.le_trans h1 hq
theorem prT_01 (d : Nat → Int) : prT d 28 = d 2 * (d 3 * d 4) := by
  show 1 * (1 * (d 2 * (d 3 * d 4))) = _
  simp only [Int.one_mul, Int.mul_one]
theorem prM_01 (d : Nat → Int) : d 0 * (d 1 * (d 2 * (d 3 * d 4))) = d 2 * (d 3 * (d 4 * (d 0 * d 1))) := by
  generalize d 0 = a
  generalize d 1 = b
  generalize d 2 = c
  generalize d 3 = e
  generalize d 4 = f
  simp only [Int.mul_assoc, Int.mul_left_comm, Int.mul_comm]
theorem prT_02 (d : Nat → Int) : prT d 26 = d 1 * (d 3 * d 4) := by
  show 1 * (d 1 * (1 * (d 3 * d 4))) = _
  simp only [Int.one_mul, Int.mul_one]
theorem prM_02 (d : Nat → Int) : d 0 * (d 1 * (d 2 * (d 3 * d 4))) = d 1 * (d 3 * (d 4 * (d 0 * d 2))) := by
  generalize d 0 = a
  generalize d 1 = b
  generalize d 2 = c
  generalize d 3 = e
  generalize d 4 = f
  simp only [Int.mul_assoc, Int.mul_left_comm, Int.mul_comm]
theorem prT_03 (d : Nat → Int) : prT d 22 = d 1 * (d 2 * d 4) := by
  show 1 * (d 1 * (d 2 * (1 * d 4))) = _
  simp only [Int.one_mul, Int.mul_one]
theorem prM_03 (d : Nat → Int) : d 0 * (d 1 * (d 2 * (d 3 * d 4))) = d 1 * (d 2 * (d 4 * (d 0 * d 3))) := by
  generalize d 0 = a
  generalize d 1 = b
  generalize d 2 = c
  generalize d 3 = e
  generalize d 4 = f
  simp only [Int.mul_assoc, Int.mul_left_comm, Int.mul_comm]
theorem prT_04 (d : Nat → Int) : prT d 14 = d 1 * (d 2 * d 3) := by
  show 1 * (d 1 * (d 2 * (d 3 * 1))) = _
  simp only [Int.one_mul, Int.mul_one]
theorem prM_04 (d : Nat → Int) : d 0 * (d 1 * (d 2 * (d 3 * d 4))) = d 1 * (d 2 * (d 3 * (d 0 * d 4))) := by
  generalize d 0 = a
  generalize d 1 = b
  generalize d 2 = c
  generalize d 3 = e
  generalize d 4 = f
  simp only [Int.mul_assoc, Int.mul_left_comm, Int.mul_comm]
theorem prT_12 (d : Nat → Int) : prT d 25 = d 0 * (d 3 * d 4) := by
  show d 0 * (1 * (1 * (d 3 * d 4))) = _
  simp only [Int.one_mul, Int.mul_one]
theorem prM_12 (d : Nat → Int) : d 0 * (d 1 * (d 2 * (d 3 * d 4))) = d 0 * (d 3 * (d 4 * (d 1 * d 2))) := by
  generalize d 0 = a
  generalize d 1 = b
  generalize d 2 = c
  generalize d 3 = e
  generalize d 4 = f
  simp only [Int.mul_assoc, Int.mul_left_comm, Int.mul_comm]
theorem prT_13 (d : Nat → Int) : prT d 21 = d 0 * (d 2 * d 4) := by
  show d 0 * (1 * (d 2 * (1 * d 4))) = _
  simp only [Int.one_mul, Int.mul_one]
theorem prM_13 (d : Nat → Int) : d 0 * (d 1 * (d 2 * (d 3 * d 4))) = d 0 * (d 2 * (d 4 * (d 1 * d 3))) := by
  generalize d 0 = a
  generalize d 1 = b
  generalize d 2 = c
  generalize d 3 = e
  generalize d 4 = f
  simp only [Int.mul_assoc, Int.mul_left_comm, Int.mul_comm]
theorem prT_14 (d : Nat → Int) : prT d 13 = d 0 * (d 2 * d 3) := by
  show d 0 * (1 * (d 2 * (d 3 * 1))) = _
  simp only [Int.one_mul, Int.mul_one]
theorem prM_14 (d : Nat → Int) : d 0 * (d 1 * (d 2 * (d 3 * d 4))) = d 0 * (d 2 * (d 3 * (d 1 * d 4))) := by
  generalize d 0 = a
  generalize d 1 = b
  generalize d 2 = c
  generalize d 3 = e
  generalize d 4 = f
  simp only [Int.mul_assoc, Int.mul_left_comm, Int.mul_comm]
theorem prT_23 (d : Nat → Int) : prT d 19 = d 0 * (d 1 * d 4) := by
  show d 0 * (d 1 * (1 * (1 * d 4))) = _
  simp only [Int.one_mul, Int.mul_one]
theorem prM_23 (d : Nat → Int) : d 0 * (d 1 * (d 2 * (d 3 * d 4))) = d 0 * (d 1 * (d 4 * (d 2 * d 3))) := by
  generalize d 0 = a
  generalize d 1 = b
  generalize d 2 = c
  generalize d 3 = e
  generalize d 4 = f
  simp only [Int.mul_assoc, Int.mul_left_comm, Int.mul_comm]
theorem prT_24 (d : Nat → Int) : prT d 11 = d 0 * (d 1 * d 3) := by
  show d 0 * (d 1 * (1 * (d 3 * 1))) = _
  simp only [Int.one_mul, Int.mul_one]
theorem prM_24 (d : Nat → Int) : d 0 * (d 1 * (d 2 * (d 3 * d 4))) = d 0 * (d 1 * (d 3 * (d 2 * d 4))) := by
  generalize d 0 = a
  generalize d 1 = b
  generalize d 2 = c
  generalize d 3 = e
  generalize d 4 = f
  simp only [Int.mul_assoc, Int.mul_left_comm, Int.mul_comm]
theorem prT_34 (d : Nat → Int) : prT d 7 = d 0 * (d 1 * d 2) := by
  show d 0 * (d 1 * (d 2 * (1 * 1))) = _
  simp only [Int.one_mul, Int.mul_one]
theorem prM_34 (d : Nat → Int) : d 0 * (d 1 * (d 2 * (d 3 * d 4))) = d 0 * (d 1 * (d 2 * (d 3 * d 4))) := by
  generalize d 0 = a
  generalize d 1 = b
  generalize d 2 = c
  generalize d 3 = e
  generalize d 4 = f
  simp only [Int.mul_assoc, Int.mul_left_comm, Int.mul_comm]
/-- the other three times all -/
theorem prT_Q (hd : ∀ i, i < 5 → 1 ≤ d i) (hs : a5 d ≤ 347) {r c : Nat} (hr : r < 5) (hc : c < 5) (hrc : r ≠ c) {T : Nat} (hT : ∀ i, i < 5 → T.testBit i = true → i ≠ r ∧ i ≠ c) : prT d T * prT d 31 ≤ 801900000000000 := by
  have hs' : d 0 + d 1 + d 2 + d 3 + d 4 ≤ 347 := hs
  have mem : ∀ U : Nat, (∀ i, i < 5 → (decide (i = r) || (decide (i = c) || Nat.testBit U i)) = true) → ∀ i, i < 5 → T.testBit i = true → Nat.testBit U i = true := fun U h i hi ht => by
    have := h i hi
    rw [decide_eq_false (hT i hi ht).1, decide_eq_false (hT i hi ht).2, Bool.false_or, Bool.false_or] at this
    exact this
  have n0 := hd 0 (by omega)
  have n1 := hd 1 (by omega)
  have n2 := hd 2 (by omega)
  have n3 := hd 3 (by omega)
  have n4 := hd 4 (by omega)
  rcases (show r = 0 ∨ r = 1 ∨ r = 2 ∨ r = 3 ∨ r = 4 by omega) with rfl | rfl | rfl | rfl | rfl
  · rcases (show c = 0 ∨ c = 1 ∨ c = 2 ∨ c = 3 ∨ c = 4 by omega) with rfl | rfl | rfl | rfl | rfl
    · exact absurd rfl hrc
    · exact prT_Q1 hd (mem 28 (by decide)) (prT_01 d) (prM_01 d) n2 n3 n4 n0 n1 (by omega)
    · exact prT_Q1 hd (mem 26 (by decide)) (prT_02 d) (prM_02 d) n1 n3 n4 n0 n2 (by omega)
    · exact prT_Q1 hd (mem 22 (by decide)) (prT_03 d) (prM_03 d) n1 n2 n4 n0 n3 (by omega)
    · exact prT_Q1 hd (mem 14 (by decide)) (prT_04 d) (prM_04 d) n1 n2 n3 n0 n4 (by omega)
  · rcases (show c = 0 ∨ c = 1 ∨ c = 2 ∨ c = 3 ∨ c = 4 by omega) with rfl | rfl | rfl | rfl | rfl
    · exact prT_Q1 hd (mem 28 (by decide)) (prT_01 d) (prM_01 d) n2 n3 n4 n0 n1 (by omega)
    · exact absurd rfl hrc
    · exact prT_Q1 hd (mem 25 (by decide)) (prT_12 d) (prM_12 d) n0 n3 n4 n1 n2 (by omega)
    · exact prT_Q1 hd (mem 21 (by decide)) (prT_13 d) (prM_13 d) n0 n2 n4 n1 n3 (by omega)
    · exact prT_Q1 hd (mem 13 (by decide)) (prT_14 d) (prM_14 d) n0 n2 n3 n1 n4 (by omega)
  · rcases (show c = 0 ∨ c = 1 ∨ c = 2 ∨ c = 3 ∨ c = 4 by omega) with rfl | rfl | rfl | rfl | rfl
    · exact prT_Q1 hd (mem 26 (by decide)) (prT_02 d) (prM_02 d) n1 n3 n4 n0 n2 (by omega)
    · exact prT_Q1 hd (mem 25 (by decide)) (prT_12 d) (prM_12 d) n0 n3 n4 n1 n2 (by omega)
    · exact absurd rfl hrc
    · exact prT_Q1 hd (mem 19 (by decide)) (prT_23 d) (prM_23 d) n0 n1 n4 n2 n3 (by omega)
    · exact prT_Q1 hd (mem 11 (by decide)) (prT_24 d) (prM_24 d) n0 n1 n3 n2 n4 (by omega)
  · rcases (show c = 0 ∨ c = 1 ∨ c = 2 ∨ c = 3 ∨ c = 4 by omega) with rfl | rfl | rfl | rfl | rfl
    · exact prT_Q1 hd (mem 22 (by decide)) (prT_03 d) (prM_03 d) n1 n2 n4 n0 n3 (by omega)
    · exact prT_Q1 hd (mem 21 (by decide)) (prT_13 d) (prM_13 d) n0 n2 n4 n1 n3 (by omega)
    · exact prT_Q1 hd (mem 19 (by decide)) (prT_23 d) (prM_23 d) n0 n1 n4 n2 n3 (by omega)
    · exact absurd rfl hrc
    · exact prT_Q1 hd (mem 7 (by decide)) (prT_34 d) (prM_34 d) n0 n1 n2 n3 n4 (by omega)
  · rcases (show c = 0 ∨ c = 1 ∨ c = 2 ∨ c = 3 ∨ c = 4 by omega) with rfl | rfl | rfl | rfl | rfl
    · exact prT_Q1 hd (mem 14 (by decide)) (prT_04 d) (prM_04 d) n1 n2 n3 n0 n4 (by omega)
    · exact prT_Q1 hd (mem 13 (by decide)) (prT_14 d) (prM_14 d) n0 n2 n3 n1 n4 (by omega)
    · exact prT_Q1 hd (mem 11 (by decide)) (prT_24 d) (prM_24 d) n0 n1 n3 n2 n4 (by omega)
    · exact prT_Q1 hd (mem 7 (by decide)) (prT_34 d) (prM_34 d) n0 n1 n2 n3 n4 (by omega)
    · exact absurd rfl hrc
end BND
