theorem i32_add_lt {a b : Int32} (h1 : 0 ≤ a.toInt) (h2 : 0 ≤ b.toInt) (h : a.toInt + b.toInt < 2147483648) : (a + b).toInt = a.toInt + b.toInt := addI (by omega) h
theorem sm3_nn {f : Nat → Int32} (g : Nat) (h : ∀ k, 0 ≤ (f k).toInt) : ∀ m, 0 ≤ sm3 f g m
  | 0 => Int.le_refl 0
  | m + 1 => by
    have := sm3_nn g h m
    have := h (3 * m + g)
    show 0 ≤ sm3 f g m + _
    omega
theorem sm3_le {f : Nat → Int32} (g : Nat) (h : ∀ k, 0 ≤ (f k).toInt) {m : Nat} : ∀ d, sm3 f g m ≤ sm3 f g (m + d)
  | 0 => Int.le_refl _
  | d + 1 => by
    have := sm3_le (f := f) g h (m := m) d
    have := h (3 * (m + d) + g)
    show sm3 f g m ≤ sm3 f g (m + d) + (f (3 * (m + d) + g)).toInt
    omega
theorem sm3_one {f : Nat → Int32} (g : Nat) (h : ∀ k, 0 ≤ (f k).toInt) {m k : Nat} (hk : k < m) : (f (3 * k + g)).toInt ≤ sm3 f g m := by
  have h1 := sm3_le (f := f) g h (m := k + 1) (m - (k + 1))
  rw [show k + 1 + (m - (k + 1)) = m by omega] at h1
  have h2 := sm3_nn (f := f) g h k
  have h3 : sm3 f g (k + 1) = sm3 f g k + (f (3 * k + g)).toInt := rfl
  omega
theorem sm3_upd {f : Nat → Int32} {g : Nat} (hg : g < 3) (j : Nat) (v : Int32) (g' : Nat) (hg' : g' < 3) : ∀ m, sm3 (upd f (3 * j + g) v) g' m = sm3 f g' m + (if g' = g ∧ j < m then v.toInt - (f (3 * j + g)).toInt else 0)
  | 0 => by rw [if_neg (by omega)]; rfl
  | m + 1 => by
    show sm3 (upd f (3 * j + g) v) g' m + (upd f (3 * j + g) v (3 * m + g')).toInt = sm3 f g' m + (f (3 * m + g')).toInt + _
    rw [sm3_upd hg j v g' hg' m]
    by_cases h1 : g' = g
    · subst h1
      by_cases h2 : j = m
      · subst h2
        rw [if_neg (by omega), if_pos ⟨rfl, by omega⟩]
        unfold upd
        rw [if_pos rfl]
        omega
      · have e : upd f (3 * j + g') v (3 * m + g') = f (3 * m + g') := if_neg (by omega)
        rw [e]
        by_cases h3 : j < m
        · rw [if_pos ⟨rfl, h3⟩, if_pos ⟨rfl, by omega⟩]; omega
        · rw [if_neg (fun h => h3 h.2), if_neg (fun h => by omega)]; omega
    · have e : upd f (3 * j + g) v (3 * m + g') = f (3 * m + g') := if_neg (by omega)
      rw [e, if_neg (fun h => h1 h.1), if_neg (fun h => h1 h.1)]
      omega
