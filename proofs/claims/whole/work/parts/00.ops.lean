/-! ===== the pure heap: every cell of both objects by its number in the table LAY; int rows, long rows ===== -/
abbrev Hp : Type := (Nat → Nat → Int32) × (Nat → Nat → Int64)
def sR (σ : Hp) (k : Nat) (f : Nat → Int32) : Hp := (fun a => if a = k then f else σ.1 a, σ.2)
def sL (σ : Hp) (k : Nat) (f : Nat → Int64) : Hp := (σ.1, fun a => if a = k then f else σ.2 a)
def sI (σ : Hp) (k j : Nat) (v : Int32) : Hp := sR σ k (upd (σ.1 k) j v)
def sJ (σ : Hp) (k j : Nat) (v : Int64) : Hp := sL σ k (vp_updL (σ.2 k) j v)
section OPS
variable {α β ρ : Type}
def ldI (σ : Hp) (k n : Nat) (i : Int32) (f : Int32 → Option α) : Option α := if i < 0 ∨ n ≤ i.toNatClampNeg then none else f (σ.1 k i.toNatClampNeg)
def ldJ (σ : Hp) (k n : Nat) (i : Int32) (f : Int64 → Option α) : Option α := if i < 0 ∨ n ≤ i.toNatClampNeg then none else f (σ.2 k i.toNatClampNeg)
def ldA (k n : Nat) (i : Int32) (f : Nat → Option α) : Option α := if i < 0 ∨ n ≤ i.toNatClampNeg then none else f (k + 1 + i.toNatClampNeg)
def stI (σ : Hp) (k n : Nat) (i v : Int32) (f : Hp → Option α) : Option α := if i < 0 ∨ n ≤ i.toNatClampNeg then none else f (sI σ k i.toNatClampNeg v)
def stZ (σ : Hp) (k n : Nat) (i v : Int32) (f : Hp → Option α) : Option α := if i < 0 ∨ n ≤ i.toNatClampNeg then none else f (sI σ k i.toNatClampNeg (vp_nar .boolean v))
def stJ (σ : Hp) (k n : Nat) (i : Int32) (v : Int64) (f : Hp → Option α) : Option α := if i < 0 ∨ n ≤ i.toNatClampNeg then none else f (sJ σ k i.toNatClampNeg v)
def lt (e : β) (f : β → Option α) : Option α := f e
def jn (A : β → Option α) (F : (β → Option α) → Option α) : Option α := F A
def lp (F : (β → Option α) → β → Option α) : Nat → β → Option α
  | 0, _ => none
  | n + 1, s => F (lp F n) s
def cl (x : Option (ρ × Hp)) (f : ρ → Hp → Option α) : Option α := x.bind fun t => f t.1 t.2
def cr (x : Option ρ) (f : ρ → Option α) : Option α := x.bind f
def dvI (y : Int32) (x : Option α) : Option α := if y = 0 then none else x
def dvJ (y : Int64) (x : Option α) : Option α := if y = 0 then none else x
def ckZ (v : Int32) (x : Option α) : Option α := if v = 0 ∨ v = 1 then x else none
def cpI (σ : Hp) (ks ns kd nd : Nat) (sp dp n : Int32) (f : Hp → Option α) : Option α :=
  if sp < 0 ∨ dp < 0 ∨ n < 0 ∨ ns < sp.toNatClampNeg + n.toNatClampNeg ∨ nd < dp.toNatClampNeg + n.toNatClampNeg then none else f (sR σ kd (va_cpy (σ.1 ks) (σ.1 kd) sp.toNatClampNeg dp.toNatClampNeg n.toNatClampNeg))
/-- the longest that any loop here may run -/
def FU : Nat := 1099511627776
end OPS
