/-! ===== bits counted ===== -/
def bcN (m : Nat) : Nat :=
  let x1 := m - ((m / 2) &&& 1431655765)
  let x2 := (x1 &&& 858993459) + ((x1 / 4) &&& 858993459)
  let x3 := (x2 + x2 / 16) &&& 252645135
  let x4 := x3 + x3 / 256
  let x5 := x4 + x4 / 65536
  x5 &&& 63
/-- how many of the first bits are set -/
def pcN (m : Nat) : Nat → Nat
  | 0 => 0
  | k + 1 => pcN m k + (if m.testBit k then 1 else 0)
theorem bc_0 : ∀ a, a < 16 → ∀ b, b < 256 → bcN (256 * (0 + a) + b) = pcN (256 * (0 + a) + b) 16 := by decide +kernel
theorem bc_1 : ∀ a, a < 16 → ∀ b, b < 256 → bcN (256 * (16 + a) + b) = pcN (256 * (16 + a) + b) 16 := by decide +kernel
theorem bc_2 : ∀ a, a < 16 → ∀ b, b < 256 → bcN (256 * (32 + a) + b) = pcN (256 * (32 + a) + b) 16 := by decide +kernel
theorem bc_3 : ∀ a, a < 16 → ∀ b, b < 256 → bcN (256 * (48 + a) + b) = pcN (256 * (48 + a) + b) 16 := by decide +kernel
theorem bc_4 : ∀ a, a < 16 → ∀ b, b < 256 → bcN (256 * (64 + a) + b) = pcN (256 * (64 + a) + b) 16 := by decide +kernel
theorem bc_5 : ∀ a, a < 16 → ∀ b, b < 256 → bcN (256 * (80 + a) + b) = pcN (256 * (80 + a) + b) 16 := by decide +kernel
theorem bc_6 : ∀ a, a < 16 → ∀ b, b < 256 → bcN (256 * (96 + a) + b) = pcN (256 * (96 + a) + b) 16 := by decide +kernel
theorem bc_7 : ∀ a, a < 16 → ∀ b, b < 256 → bcN (256 * (112 + a) + b) = pcN (256 * (112 + a) + b) 16 := by decide +kernel
theorem bc_8 : ∀ a, a < 16 → ∀ b, b < 256 → bcN (256 * (128 + a) + b) = pcN (256 * (128 + a) + b) 16 := by decide +kernel
theorem bc_9 : ∀ a, a < 16 → ∀ b, b < 256 → bcN (256 * (144 + a) + b) = pcN (256 * (144 + a) + b) 16 := by decide +kernel
theorem bc_10 : ∀ a, a < 16 → ∀ b, b < 256 → bcN (256 * (160 + a) + b) = pcN (256 * (160 + a) + b) 16 := by decide +kernel
theorem bc_11 : ∀ a, a < 16 → ∀ b, b < 256 → bcN (256 * (176 + a) + b) = pcN (256 * (176 + a) + b) 16 := by decide +kernel
theorem bc_12 : ∀ a, a < 16 → ∀ b, b < 256 → bcN (256 * (192 + a) + b) = pcN (256 * (192 + a) + b) 16 := by decide +kernel
theorem bc_13 : ∀ a, a < 16 → ∀ b, b < 256 → bcN (256 * (208 + a) + b) = pcN (256 * (208 + a) + b) 16 := by decide +kernel
theorem bc_14 : ∀ a, a < 16 → ∀ b, b < 256 → bcN (256 * (224 + a) + b) = pcN (256 * (224 + a) + b) 16 := by decide +kernel
theorem bc_15 : ∀ a, a < 16 → ∀ b, b < 256 → bcN (256 * (240 + a) + b) = pcN (256 * (240 + a) + b) 16 := by decide +kernel
theorem bc_pc (a : Nat) (ha : a < 256) (b : Nat) (hb : b < 256) : bcN (256 * a + b) = pcN (256 * a + b) 16 := by
  rcases (by omega : (a / 16 = 0) ∨ (a / 16 = 1) ∨ (a / 16 = 2) ∨ (a / 16 = 3) ∨ (a / 16 = 4) ∨ (a / 16 = 5) ∨ (a / 16 = 6) ∨ (a / 16 = 7) ∨ (a / 16 = 8) ∨ (a / 16 = 9) ∨ (a / 16 = 10) ∨ (a / 16 = 11) ∨ (a / 16 = 12) ∨ (a / 16 = 13) ∨ (a / 16 = 14) ∨ (a / 16 = 15)) with h | h | h | h | h | h | h | h | h | h | h | h | h | h | h | h
  · have e := bc_0 (a - 0) (by omega) b hb
    rw [show 0 + (a - 0) = a by omega] at e
    exact e
  · have e := bc_1 (a - 16) (by omega) b hb
    rw [show 16 + (a - 16) = a by omega] at e
    exact e
  · have e := bc_2 (a - 32) (by omega) b hb
    rw [show 32 + (a - 32) = a by omega] at e
    exact e
  · have e := bc_3 (a - 48) (by omega) b hb
    rw [show 48 + (a - 48) = a by omega] at e
    exact e
  · have e := bc_4 (a - 64) (by omega) b hb
    rw [show 64 + (a - 64) = a by omega] at e
    exact e
  · have e := bc_5 (a - 80) (by omega) b hb
    rw [show 80 + (a - 80) = a by omega] at e
    exact e
  · have e := bc_6 (a - 96) (by omega) b hb
    rw [show 96 + (a - 96) = a by omega] at e
    exact e
  · have e := bc_7 (a - 112) (by omega) b hb
    rw [show 112 + (a - 112) = a by omega] at e
    exact e
  · have e := bc_8 (a - 128) (by omega) b hb
    rw [show 128 + (a - 128) = a by omega] at e
    exact e
  · have e := bc_9 (a - 144) (by omega) b hb
    rw [show 144 + (a - 144) = a by omega] at e
    exact e
  · have e := bc_10 (a - 160) (by omega) b hb
    rw [show 160 + (a - 160) = a by omega] at e
    exact e
  · have e := bc_11 (a - 176) (by omega) b hb
    rw [show 176 + (a - 176) = a by omega] at e
    exact e
  · have e := bc_12 (a - 192) (by omega) b hb
    rw [show 192 + (a - 192) = a by omega] at e
    exact e
  · have e := bc_13 (a - 208) (by omega) b hb
    rw [show 208 + (a - 208) = a by omega] at e
    exact e
  · have e := bc_14 (a - 224) (by omega) b hb
    rw [show 224 + (a - 224) = a by omega] at e
    exact e
  · have e := bc_15 (a - 240) (by omega) b hb
    rw [show 240 + (a - 240) = a by omega] at e
    exact e
