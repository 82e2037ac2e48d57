/-! ===== the law: both heaps, and the script ===== -/
def ldS {α : Type} (xs : Nat → Int32) (N : Nat) (i : Int32) (f : Int32 → Option α) : Option α := if i < 0 ∨ N ≤ i.toNatClampNeg then none else f (xs i.toNatClampNeg)
def KS {α : Type} (κ : KT (Hp × Hp) α) (b N : Nat) (xs : Nat → Int32) : Prop :=
  match κ with
  | ((p, l, e, R, s, m, args, below, meth, c), Q, A, H0, (nL, nc, ns), emb, r0) => emb = (fun q => eb true q.2 q.1) ∧ va_X b N xs s H0 ∧ b < H0.size ∧ ¬ A b
def kC {α : Type} (κ : KT (Hp × Hp) α) (τ : Hp) : KT Hp α := (κ.1, κ.2.1, κ.2.2.1, κ.2.2.2.1, κ.2.2.2.2.1, eb true τ, κ.2.2.2.2.2.2)
def kM {α : Type} (κ : KT (Hp × Hp) α) (τ : Hp) : KT Hp α := (κ.1, κ.2.1, κ.2.2.1, κ.2.2.2.1, κ.2.2.2.2.1, eb false τ, κ.2.2.2.2.2.2)
section VLW
variable {α : Type} {G : GT} {cc : ByteArray} {own : String} {lv pc b N : Nat} {xs : Nat → Int32} {L : List (Option Value)} {st : List Value} {κ : KT (Hp × Hp) α} {x : Option α} {σc σm : Hp}
theorem hkC {τ : Hp} (hk : KO G κ cc own lv) : KO G (kC κ τ) cc own lv := by
  obtain ⟨⟨p, l, e, R, s, m, args, below, meth, c⟩, Q, A, H0, ⟨nL, nc, ns⟩, emb, r0⟩ := κ
  exact hk
theorem hkM {τ : Hp} (hk : KO G κ cc own lv) : KO G (kM κ τ) cc own lv := by
  obtain ⟨⟨p, l, e, R, s, m, args, below, meth, c⟩, Q, A, H0, ⟨nL, nc, ns⟩, emb, r0⟩ := κ
  exact hk
theorem heC {τ : Hp} (hs : KS κ b N xs) : KE true (kC κ τ) := ⟨τ, rfl⟩
theorem heM {τ : Hp} (hs : KS κ b N xs) : KE false (kM κ τ) := ⟨τ, rfl⟩
theorem vv_toC (hs : KS κ b N xs) (k : VV G (kC κ σm) x σc pc L st) : VV G κ x (σc, σm) pc L st := by
  obtain ⟨⟨p, l, e, R, s, m, args, below, meth, c⟩, Q, A, H0, ⟨nL, nc, ns⟩, emb, r0⟩ := κ
  obtain ⟨rfl, -⟩ := hs
  exact k
theorem vv_ofC (hs : KS κ b N xs) (k : VV G κ x (σc, σm) pc L st) : VV G (kC κ σm) x σc pc L st := by
  obtain ⟨⟨p, l, e, R, s, m, args, below, meth, c⟩, Q, A, H0, ⟨nL, nc, ns⟩, emb, r0⟩ := κ
  obtain ⟨rfl, -⟩ := hs
  exact k
theorem vv_toM (hs : KS κ b N xs) (k : VV G (kM κ σc) x σm pc L st) : VV G κ x (σc, σm) pc L st := by
  obtain ⟨⟨p, l, e, R, s, m, args, below, meth, c⟩, Q, A, H0, ⟨nL, nc, ns⟩, emb, r0⟩ := κ
  obtain ⟨rfl, -⟩ := hs
  have e1 : eb true σm σc = eb false σc σm := eb_sw true σm σc
  intro hx0 H locs ls h hP hD hS
  refine k hx0 H locs ls h ?_ ?_ hS
  · show va_P _ _ (wsG G (eb false σc σm)) H
    rw [← e1]; exact hP
  · show va_D _ (wsG G (eb false σc σm))
    rw [← e1]; exact hD
theorem vv_ofM (hs : KS κ b N xs) (k : VV G κ x (σc, σm) pc L st) : VV G (kM κ σc) x σm pc L st := by
  obtain ⟨⟨p, l, e, R, s, m, args, below, meth, c⟩, Q, A, H0, ⟨nL, nc, ns⟩, emb, r0⟩ := κ
  obtain ⟨rfl, -⟩ := hs
  have e1 : eb true σm σc = eb false σc σm := eb_sw true σm σc
  intro hx0 H locs ls h hP hD hS
  refine k hx0 H locs ls h ?_ ?_ hS
  · show va_P _ _ (wsG G (eb true σm σc)) H
    rw [e1]; exact hP
  · show va_D _ (wsG G (eb true σm σc))
    rw [e1]; exact hD
theorem vv_slen {σ : Hp × Hp} (q : Nat) (hk : KO G κ cc own lv) (hs : KS κ b N xs) (d : decode cc pc = .ok (.arraylength, 1)) (hq : pc + 1 = q) (k : VV G κ x σ q L (.int (Int32.ofNat N) :: st)) : VV G κ x σ pc L (.ref b :: st) := by
  obtain ⟨⟨p, l, e, R, s, m, args, below, meth, c⟩, Q, A, H0, ⟨nL, nc, ns⟩, emb, r0⟩ := κ
  obtain ⟨hx, hb, hml, hown, hts, hK, hA, hcs, hR, hNw⟩ := hk
  obtain ⟨-, hX, hbl, hbA⟩ := hs
  subst hq
  exact fun hx0 H locs ls h hP hD hS => va_slen hx hb hX hbl hbA hS d (k hx0 H locs ls h hP hD hS)
theorem vv_sld {σ : Hp × Hp} {i : Int32} {f : Int32 → Option α} (q : Nat) (hk : KO G κ cc own lv) (hs : KS κ b N xs) (d : decode cc pc = .ok (.iaload, 1)) (hq : pc + 1 = q) (k : ∀ v, VV G κ (f v) σ q L (.int v :: st)) : VV G κ (ldS xs N i f) σ pc L (.int i :: .ref b :: st) := by
  obtain ⟨⟨p, l, e, R, s, m, args, below, meth, c⟩, Q, A, H0, ⟨nL, nc, ns⟩, emb, r0⟩ := κ
  obtain ⟨hx, hb, hml, hown, hts, hK, hA, hcs, hR, hNw⟩ := hk
  obtain ⟨-, hX, hbl, hbA⟩ := hs
  subst hq
  intro hx0 H locs ls h hP hD hS
  unfold ldS at hx0
  split at hx0
  · cases hx0
  · rename_i hin
    exact va_sld hx hb hX hbl hbA hS (in_of hin) d (k _ hx0 H locs ls h hP hD hS)
end VLW
def f_law_j1763 (t1 : Int32 × Hp × Hp) (kl18 : (Int32 × Hp × Hp) → Option (Int32)) (t3 : Hp × Hp) : Option (Int32) :=
  lt (t1.1 + (6 : Int32)) fun x4 => kl18 (x4, t3.1, t3.2)
def f_law_b212 (xs : Nat → Int32) (N : Nat) (t1 : Int32 × Hp × Hp) (k1763 : (Hp × Hp) → Option (Int32)) : Option (Int32) :=
  ldS xs N (t1.1 + (1 : Int32)) fun v5 => ldS xs N (t1.1 + (2 : Int32)) fun v6 => cl (f_X11_room v5 v6 t1.2.1) fun v7 σ8 => ldS xs N (t1.1 + (1 : Int32)) fun v9 => ldS xs N (t1.1 + (2 : Int32)) fun v10 => cl (f_X12_room v9 v10 t1.2.2) fun v11 σ12 => if v7 = v11 then k1763 (σ8, σ12) else some (0 : Int32)
def f_law_b245 (xs : Nat → Int32) (N : Nat) (t1 : Int32 × Hp × Hp) (k1763 : (Hp × Hp) → Option (Int32)) : Option (Int32) :=
  ldS xs N (t1.1 + (1 : Int32)) fun v13 => ldS xs N (t1.1 + (2 : Int32)) fun v14 => cl (f_X11_warm v13 v14 t1.2.1) fun v15 σ16 => ldS xs N (t1.1 + (1 : Int32)) fun v17 => ldS xs N (t1.1 + (2 : Int32)) fun v18 => cl (f_X12_warm v17 v18 t1.2.2) fun v19 σ20 => if v15 = v19 then k1763 (σ16, σ20) else some (0 : Int32)
def f_law_j339 (t1 : Int32 × Hp × Hp) (k1763 : (Hp × Hp) → Option (Int32)) (v26 : Int32) (σ27 : Hp) (v28 : Int32) (v29 : Int32) (v30 : Int32) (t32 : Int32) : Option (Int32) :=
  cl (f_X12_gas v28 v29 v30 t32 t1.2.2) fun v33 σ34 => if v26 = v33 then k1763 (σ27, σ34) else some (0 : Int32)
def f_law_j307 (xs : Nat → Int32) (N : Nat) (t1 : Int32 × Hp × Hp) (k1763 : (Hp × Hp) → Option (Int32)) (v21 : Int32) (v22 : Int32) (v23 : Int32) (t25 : Int32) : Option (Int32) :=
  cl (f_X11_gas v21 v22 v23 t25 t1.2.1) fun v26 σ27 => ldS xs N (t1.1 + (1 : Int32)) fun v28 => ldS xs N (t1.1 + (2 : Int32)) fun v29 => ldS xs N (t1.1 + (3 : Int32)) fun v30 => ldS xs N (t1.1 + (4 : Int32)) fun v31 => jn (f_law_j339 t1 k1763 v26 σ27 v28 v29 v30) fun k339 => if v31 = 0 then k339 (0 : Int32) else k339 (1 : Int32)
def f_law_b278 (xs : Nat → Int32) (N : Nat) (t1 : Int32 × Hp × Hp) (k1763 : (Hp × Hp) → Option (Int32)) : Option (Int32) :=
  ldS xs N (t1.1 + (1 : Int32)) fun v21 => ldS xs N (t1.1 + (2 : Int32)) fun v22 => ldS xs N (t1.1 + (3 : Int32)) fun v23 => ldS xs N (t1.1 + (4 : Int32)) fun v24 => jn (f_law_j307 xs N t1 k1763 v21 v22 v23) fun k307 => if v24 = 0 then k307 (0 : Int32) else k307 (1 : Int32)
def f_law_b347 (xs : Nat → Int32) (N : Nat) (t1 : Int32 × Hp × Hp) (k1763 : (Hp × Hp) → Option (Int32)) : Option (Int32) :=
  ldS xs N (t1.1 + (1 : Int32)) fun v35 => ldS xs N (t1.1 + (2 : Int32)) fun v36 => ldS xs N (t1.1 + (3 : Int32)) fun v37 => cl (f_X11_gives v35 v36 v37 t1.2.1) fun v38 σ39 => ldS xs N (t1.1 + (1 : Int32)) fun v40 => ldS xs N (t1.1 + (2 : Int32)) fun v41 => ldS xs N (t1.1 + (3 : Int32)) fun v42 => cl (f_X12_gives v40 v41 v42 t1.2.2) fun v43 σ44 => if v38 = v43 then k1763 (σ39, σ44) else some (0 : Int32)
def f_law_b390 (xs : Nat → Int32) (N : Nat) (t1 : Int32 × Hp × Hp) (k1763 : (Hp × Hp) → Option (Int32)) : Option (Int32) :=
  ldS xs N (t1.1 + (1 : Int32)) fun v45 => ldS xs N (t1.1 + (2 : Int32)) fun v46 => ldS xs N (t1.1 + (3 : Int32)) fun v47 => cl (f_X11_pipe v45 v46 v47 t1.2.1) fun v48 σ49 => ldS xs N (t1.1 + (1 : Int32)) fun v50 => ldS xs N (t1.1 + (2 : Int32)) fun v51 => ldS xs N (t1.1 + (3 : Int32)) fun v52 => cl (f_X12_pipe v50 v51 v52 t1.2.2) fun v53 σ54 => if v48 = v53 then k1763 (σ49, σ54) else some (0 : Int32)
def f_law_b433 (xs : Nat → Int32) (N : Nat) (t1 : Int32 × Hp × Hp) (k1763 : (Hp × Hp) → Option (Int32)) : Option (Int32) :=
  ldS xs N (t1.1 + (1 : Int32)) fun v55 => ldS xs N (t1.1 + (2 : Int32)) fun v56 => ldS xs N (t1.1 + (3 : Int32)) fun v57 => ldS xs N (t1.1 + (4 : Int32)) fun v58 => ldS xs N (t1.1 + (5 : Int32)) fun v59 => cl (f_X11_pump v55 v56 v57 v58 v59 t1.2.1) fun v60 σ61 => ldS xs N (t1.1 + (1 : Int32)) fun v62 => ldS xs N (t1.1 + (2 : Int32)) fun v63 => ldS xs N (t1.1 + (3 : Int32)) fun v64 => ldS xs N (t1.1 + (4 : Int32)) fun v65 => ldS xs N (t1.1 + (5 : Int32)) fun v66 => cl (f_X12_pump v62 v63 v64 v65 v66 t1.2.2) fun v67 σ68 => if v60 = v67 then k1763 (σ61, σ68) else some (0 : Int32)
def f_law_b496 (xs : Nat → Int32) (N : Nat) (t1 : Int32 × Hp × Hp) (k1763 : (Hp × Hp) → Option (Int32)) : Option (Int32) :=
  ldS xs N (t1.1 + (1 : Int32)) fun v69 => ldS xs N (t1.1 + (2 : Int32)) fun v70 => ldS xs N (t1.1 + (3 : Int32)) fun v71 => cl (f_X11_leak v69 v70 v71 t1.2.1) fun v72 σ73 => ldS xs N (t1.1 + (1 : Int32)) fun v74 => ldS xs N (t1.1 + (2 : Int32)) fun v75 => ldS xs N (t1.1 + (3 : Int32)) fun v76 => cl (f_X12_leak v74 v75 v76 t1.2.2) fun v77 σ78 => if v72 = v77 then k1763 (σ73, σ78) else some (0 : Int32)
def f_law_b539 (xs : Nat → Int32) (N : Nat) (t1 : Int32 × Hp × Hp) (k1763 : (Hp × Hp) → Option (Int32)) : Option (Int32) :=
  ldS xs N (t1.1 + (1 : Int32)) fun v79 => cl (f_X11_ticks v79 t1.2.1) fun v80 σ81 => ldS xs N (t1.1 + (1 : Int32)) fun v82 => cl (f_X12_ticks v82 t1.2.2) fun v83 σ84 => if v80 = v83 then k1763 (σ81, σ84) else some (0 : Int32)
def f_law_b562 (xs : Nat → Int32) (N : Nat) (t1 : Int32 × Hp × Hp) (k1763 : (Hp × Hp) → Option (Int32)) : Option (Int32) :=
  ldS xs N (t1.1 + (1 : Int32)) fun v85 => ldS xs N (t1.1 + (2 : Int32)) fun v86 => ldS xs N (t1.1 + (3 : Int32)) fun v87 => cl (f_X11_in v85 v86 v87 t1.2.1) fun v88 σ89 => ldS xs N (t1.1 + (1 : Int32)) fun v90 => ldS xs N (t1.1 + (2 : Int32)) fun v91 => ldS xs N (t1.1 + (3 : Int32)) fun v92 => cl (f_X12_in v90 v91 v92 t1.2.2) fun v93 σ94 => if v88 = v93 then k1763 (σ89, σ94) else some (0 : Int32)
def f_law_b605 (xs : Nat → Int32) (N : Nat) (t1 : Int32 × Hp × Hp) (k1763 : (Hp × Hp) → Option (Int32)) : Option (Int32) :=
  ldS xs N (t1.1 + (1 : Int32)) fun v95 => ldS xs N (t1.1 + (2 : Int32)) fun v96 => cl (f_X11_pumpOf v95 v96 t1.2.1) fun v97 σ98 => ldS xs N (t1.1 + (1 : Int32)) fun v99 => ldS xs N (t1.1 + (2 : Int32)) fun v100 => cl (f_X12_pumpOf v99 v100 t1.2.2) fun v101 σ102 => if v97 = v101 then k1763 (σ98, σ102) else some (0 : Int32)
def f_law_b638 (xs : Nat → Int32) (N : Nat) (t1 : Int32 × Hp × Hp) (k1763 : (Hp × Hp) → Option (Int32)) : Option (Int32) :=
  ldS xs N (t1.1 + (1 : Int32)) fun v103 => ldS xs N (t1.1 + (2 : Int32)) fun v104 => cl (f_X11_all v103 v104 t1.2.1) fun v105 σ106 => ldS xs N (t1.1 + (1 : Int32)) fun v107 => ldS xs N (t1.1 + (2 : Int32)) fun v108 => cl (f_X12_all v107 v108 t1.2.2) fun v109 σ110 => if v105 = v109 then k1763 (σ106, σ110) else some (0 : Int32)
def f_law_b671 (xs : Nat → Int32) (N : Nat) (t1 : Int32 × Hp × Hp) (k1763 : (Hp × Hp) → Option (Int32)) : Option (Int32) :=
  ldS xs N (t1.1 + (1 : Int32)) fun v111 => ldS xs N (t1.1 + (2 : Int32)) fun v112 => ldS xs N (t1.1 + (3 : Int32)) fun v113 => cl (f_X11_when v111 v112 v113 t1.2.1) fun v114 σ115 => ldS xs N (t1.1 + (1 : Int32)) fun v116 => ldS xs N (t1.1 + (2 : Int32)) fun v117 => ldS xs N (t1.1 + (3 : Int32)) fun v118 => cl (f_X12_when v116 v117 v118 t1.2.2) fun v119 σ120 => if v114 = v119 then k1763 (σ115, σ120) else some (0 : Int32)
def f_law_b714 (xs : Nat → Int32) (N : Nat) (t1 : Int32 × Hp × Hp) (k1763 : (Hp × Hp) → Option (Int32)) : Option (Int32) :=
  ldS xs N (t1.1 + (1 : Int32)) fun v121 => ldS xs N (t1.1 + (2 : Int32)) fun v122 => ldS xs N (t1.1 + (3 : Int32)) fun v123 => cl (f_X11_feed v121 ((v122.toInt64 <<< ((32 : Int32).toInt64 &&& 63)) ||| (v123.toInt64 &&& (4294967295 : Int64))) t1.2.1) fun v124 σ125 => ldS xs N (t1.1 + (1 : Int32)) fun v126 => ldS xs N (t1.1 + (2 : Int32)) fun v127 => ldS xs N (t1.1 + (3 : Int32)) fun v128 => cl (f_X12_feed v126 ((v127.toInt64 <<< ((32 : Int32).toInt64 &&& 63)) ||| (v128.toInt64 &&& (4294967295 : Int64))) t1.2.2) fun v129 σ130 => if v124 = v129 then k1763 (σ125, σ130) else some (0 : Int32)
def f_law_b777 (t1 : Int32 × Hp × Hp) (k1763 : (Hp × Hp) → Option (Int32)) : Option (Int32) :=
  cl (f_X11_rule t1.2.1) fun v131 σ132 => cl (f_X12_rule t1.2.2) fun v133 σ134 => if v131 = v133 then k1763 (σ132, σ134) else some (0 : Int32)
def f_law_b790 (xs : Nat → Int32) (N : Nat) (t1 : Int32 × Hp × Hp) (k1763 : (Hp × Hp) → Option (Int32)) : Option (Int32) :=
  ldS xs N (t1.1 + (1 : Int32)) fun v135 => cl (f_X11_unrule v135 t1.2.1) fun v136 σ137 => ldS xs N (t1.1 + (1 : Int32)) fun v138 => cl (f_X12_unrule v138 t1.2.2) fun v139 σ140 => if v136 = v139 then k1763 (σ137, σ140) else some (0 : Int32)
def f_law_j854 (t1 : Int32 × Hp × Hp) (k1763 : (Hp × Hp) → Option (Int32)) (v144 : Int32) (σ145 : Hp) (v146 : Int32) (t148 : Int32) : Option (Int32) :=
  cl (f_X12_forbids v146 t148 t1.2.2) fun v149 σ150 => if v144 = v149 then k1763 (σ145, σ150) else some (0 : Int32)
def f_law_j832 (xs : Nat → Int32) (N : Nat) (t1 : Int32 × Hp × Hp) (k1763 : (Hp × Hp) → Option (Int32)) (v141 : Int32) (t143 : Int32) : Option (Int32) :=
  cl (f_X11_forbids v141 t143 t1.2.1) fun v144 σ145 => ldS xs N (t1.1 + (1 : Int32)) fun v146 => ldS xs N (t1.1 + (2 : Int32)) fun v147 => jn (f_law_j854 t1 k1763 v144 σ145 v146) fun k854 => if v147 = 0 then k854 (0 : Int32) else k854 (1 : Int32)
def f_law_b813 (xs : Nat → Int32) (N : Nat) (t1 : Int32 × Hp × Hp) (k1763 : (Hp × Hp) → Option (Int32)) : Option (Int32) :=
  ldS xs N (t1.1 + (1 : Int32)) fun v141 => ldS xs N (t1.1 + (2 : Int32)) fun v142 => jn (f_law_j832 xs N t1 k1763 v141) fun k832 => if v142 = 0 then k832 (0 : Int32) else k832 (1 : Int32)
def f_law_j903 (t1 : Int32 × Hp × Hp) (k1763 : (Hp × Hp) → Option (Int32)) (v154 : Int32) (σ155 : Hp) (v156 : Int32) (t158 : Int32) : Option (Int32) :=
  cl (f_X12_valve v156 t158 t1.2.2) fun v159 σ160 => if v154 = v159 then k1763 (σ155, σ160) else some (0 : Int32)
def f_law_j881 (xs : Nat → Int32) (N : Nat) (t1 : Int32 × Hp × Hp) (k1763 : (Hp × Hp) → Option (Int32)) (v151 : Int32) (t153 : Int32) : Option (Int32) :=
  cl (f_X11_valve v151 t153 t1.2.1) fun v154 σ155 => ldS xs N (t1.1 + (1 : Int32)) fun v156 => ldS xs N (t1.1 + (2 : Int32)) fun v157 => jn (f_law_j903 t1 k1763 v154 σ155 v156) fun k903 => if v157 = 0 then k903 (0 : Int32) else k903 (1 : Int32)
def f_law_b862 (xs : Nat → Int32) (N : Nat) (t1 : Int32 × Hp × Hp) (k1763 : (Hp × Hp) → Option (Int32)) : Option (Int32) :=
  ldS xs N (t1.1 + (1 : Int32)) fun v151 => ldS xs N (t1.1 + (2 : Int32)) fun v152 => jn (f_law_j881 xs N t1 k1763 v151) fun k881 => if v152 = 0 then k881 (0 : Int32) else k881 (1 : Int32)
def f_law_j952 (t1 : Int32 × Hp × Hp) (k1763 : (Hp × Hp) → Option (Int32)) (v164 : Int32) (σ165 : Hp) (v166 : Int32) (t168 : Int32) : Option (Int32) :=
  cl (f_X12_start v166 t168 t1.2.2) fun v169 σ170 => if v164 = v169 then k1763 (σ165, σ170) else some (0 : Int32)
def f_law_j930 (xs : Nat → Int32) (N : Nat) (t1 : Int32 × Hp × Hp) (k1763 : (Hp × Hp) → Option (Int32)) (v161 : Int32) (t163 : Int32) : Option (Int32) :=
  cl (f_X11_start v161 t163 t1.2.1) fun v164 σ165 => ldS xs N (t1.1 + (1 : Int32)) fun v166 => ldS xs N (t1.1 + (2 : Int32)) fun v167 => jn (f_law_j952 t1 k1763 v164 σ165 v166) fun k952 => if v167 = 0 then k952 (0 : Int32) else k952 (1 : Int32)
def f_law_b911 (xs : Nat → Int32) (N : Nat) (t1 : Int32 × Hp × Hp) (k1763 : (Hp × Hp) → Option (Int32)) : Option (Int32) :=
  ldS xs N (t1.1 + (1 : Int32)) fun v161 => ldS xs N (t1.1 + (2 : Int32)) fun v162 => jn (f_law_j930 xs N t1 k1763 v161) fun k930 => if v162 = 0 then k930 (0 : Int32) else k930 (1 : Int32)
def f_law_b960 (xs : Nat → Int32) (N : Nat) (t1 : Int32 × Hp × Hp) (k1763 : (Hp × Hp) → Option (Int32)) : Option (Int32) :=
  ldS xs N (t1.1 + (1 : Int32)) fun v171 => cl (f_X11_warmUp v171 t1.2.1) fun v172 σ173 => ldS xs N (t1.1 + (1 : Int32)) fun v174 => cl (f_X12_warmUp v174 t1.2.2) fun v175 σ176 => if v172 = v175 then k1763 (σ173, σ176) else some (0 : Int32)
def f_law_b983 (t1 : Int32 × Hp × Hp) (k1763 : (Hp × Hp) → Option (Int32)) : Option (Int32) :=
  cl (f_X11_undo t1.2.1) fun v177 σ178 => cl (f_X12_undo t1.2.2) fun v179 σ180 => if v177 = v179 then k1763 (σ178, σ180) else some (0 : Int32)
def f_law_b996 (t1 : Int32 × Hp × Hp) (k1763 : (Hp × Hp) → Option (Int32)) : Option (Int32) :=
  cl (f_X11_redo t1.2.1) fun v181 σ182 => cl (f_X12_redo t1.2.2) fun v183 σ184 => if v181 = v183 then k1763 (σ182, σ184) else some (0 : Int32)
def f_law_b1009 (xs : Nat → Int32) (N : Nat) (t1 : Int32 × Hp × Hp) (k1763 : (Hp × Hp) → Option (Int32)) : Option (Int32) :=
  ldS xs N (t1.1 + (1 : Int32)) fun v185 => ldS xs N (t1.1 + (2 : Int32)) fun v186 => cl (f_X11_order v185 v186 t1.2.1) fun v187 σ188 => ldS xs N (t1.1 + (1 : Int32)) fun v189 => ldS xs N (t1.1 + (2 : Int32)) fun v190 => cl (f_X12_order v189 v190 t1.2.2) fun v191 σ192 => if v187 = v191 then k1763 (σ188, σ192) else some (0 : Int32)
def f_law_b1042 (xs : Nat → Int32) (N : Nat) (t1 : Int32 × Hp × Hp) (k1763 : (Hp × Hp) → Option (Int32)) : Option (Int32) :=
  ldS xs N (t1.1 + (1 : Int32)) fun v193 => ldS xs N (t1.1 + (2 : Int32)) fun v194 => ldS xs N (t1.1 + (3 : Int32)) fun v195 => cl (f_X11_rest v193 v194 v195 t1.2.1) fun v196 σ197 => ldS xs N (t1.1 + (1 : Int32)) fun v198 => ldS xs N (t1.1 + (2 : Int32)) fun v199 => ldS xs N (t1.1 + (3 : Int32)) fun v200 => cl (f_X12_rest v198 v199 v200 t1.2.2) fun v201 σ202 => if (lg_cmp v196 v201) = 0 then k1763 (σ197, σ202) else some (0 : Int32)
def f_law_j1137 (t1 : Int32 × Hp × Hp) (k1763 : (Hp × Hp) → Option (Int32)) (v207 : Int32) (σ208 : Hp) (v209 : Int32) (v210 : Int32) (t212 : Int32) : Option (Int32) :=
  cl (f_X12_square v209 v210 t212 t1.2.2) fun v213 σ214 => if v207 = v213 then k1763 (σ208, σ214) else some (0 : Int32)
def f_law_j1110 (xs : Nat → Int32) (N : Nat) (t1 : Int32 × Hp × Hp) (k1763 : (Hp × Hp) → Option (Int32)) (v203 : Int32) (v204 : Int32) (t206 : Int32) : Option (Int32) :=
  cl (f_X11_square v203 v204 t206 t1.2.1) fun v207 σ208 => ldS xs N (t1.1 + (1 : Int32)) fun v209 => ldS xs N (t1.1 + (2 : Int32)) fun v210 => ldS xs N (t1.1 + (3 : Int32)) fun v211 => jn (f_law_j1137 t1 k1763 v207 σ208 v209 v210) fun k1137 => if v211 = 0 then k1137 (0 : Int32) else k1137 (1 : Int32)
def f_law_b1086 (xs : Nat → Int32) (N : Nat) (t1 : Int32 × Hp × Hp) (k1763 : (Hp × Hp) → Option (Int32)) : Option (Int32) :=
  ldS xs N (t1.1 + (1 : Int32)) fun v203 => ldS xs N (t1.1 + (2 : Int32)) fun v204 => ldS xs N (t1.1 + (3 : Int32)) fun v205 => jn (f_law_j1110 xs N t1 k1763 v203 v204) fun k1110 => if v205 = 0 then k1110 (0 : Int32) else k1110 (1 : Int32)
def f_law_b1145 (xs : Nat → Int32) (N : Nat) (t1 : Int32 × Hp × Hp) (k1763 : (Hp × Hp) → Option (Int32)) : Option (Int32) :=
  ldS xs N (t1.1 + (1 : Int32)) fun v215 => ldS xs N (t1.1 + (2 : Int32)) fun v216 => ldS xs N (t1.1 + (3 : Int32)) fun v217 => cl (f_X11_walks v215 v216 v217 t1.2.1) fun v218 σ219 => ldS xs N (t1.1 + (1 : Int32)) fun v220 => ldS xs N (t1.1 + (2 : Int32)) fun v221 => ldS xs N (t1.1 + (3 : Int32)) fun v222 => cl (f_X12_walks v220 v221 v222 t1.2.2) fun v223 σ224 => if v218 = v223 then k1763 (σ219, σ224) else some (0 : Int32)
def f_law_b1188 (xs : Nat → Int32) (N : Nat) (t1 : Int32 × Hp × Hp) (k1763 : (Hp × Hp) → Option (Int32)) : Option (Int32) :=
  ldS xs N (t1.1 + (1 : Int32)) fun v225 => ldS xs N (t1.1 + (2 : Int32)) fun v226 => ldS xs N (t1.1 + (3 : Int32)) fun v227 => cl (f_X11_sees v225 v226 v227 t1.2.1) fun v228 σ229 => ldS xs N (t1.1 + (1 : Int32)) fun v230 => ldS xs N (t1.1 + (2 : Int32)) fun v231 => ldS xs N (t1.1 + (3 : Int32)) fun v232 => cl (f_X12_sees v230 v231 v232 t1.2.2) fun v233 σ234 => if v228 = v233 then k1763 (σ229, σ234) else some (0 : Int32)
def f_law_b1231 (xs : Nat → Int32) (N : Nat) (t1 : Int32 × Hp × Hp) (k1763 : (Hp × Hp) → Option (Int32)) : Option (Int32) :=
  ldS xs N (t1.1 + (1 : Int32)) fun v235 => ldS xs N (t1.1 + (2 : Int32)) fun v236 => cl (f_X11_reads v235 v236 t1.2.1) fun v237 σ238 => ldS xs N (t1.1 + (1 : Int32)) fun v239 => ldS xs N (t1.1 + (2 : Int32)) fun v240 => cl (f_X12_reads v239 v240 t1.2.2) fun v241 σ242 => if v237 = v241 then k1763 (σ238, σ242) else some (0 : Int32)
def f_law_b1264 (xs : Nat → Int32) (N : Nat) (t1 : Int32 × Hp × Hp) (k1763 : (Hp × Hp) → Option (Int32)) : Option (Int32) :=
  ldS xs N (t1.1 + (1 : Int32)) fun v243 => ldS xs N (t1.1 + (2 : Int32)) fun v244 => cl (f_X11_reading v243 v244 t1.2.1) fun v245 σ246 => ldS xs N (t1.1 + (1 : Int32)) fun v247 => ldS xs N (t1.1 + (2 : Int32)) fun v248 => cl (f_X12_reading v247 v248 t1.2.2) fun v249 σ250 => if v245 = v249 then k1763 (σ246, σ250) else some (0 : Int32)
def f_law_b1297 (xs : Nat → Int32) (N : Nat) (t1 : Int32 × Hp × Hp) (k1763 : (Hp × Hp) → Option (Int32)) : Option (Int32) :=
  ldS xs N (t1.1 + (1 : Int32)) fun v251 => ldS xs N (t1.1 + (2 : Int32)) fun v252 => cl (f_X11_trueGas v251 v252 t1.2.1) fun v253 σ254 => ldS xs N (t1.1 + (1 : Int32)) fun v255 => ldS xs N (t1.1 + (2 : Int32)) fun v256 => cl (f_X12_trueGas v255 v256 t1.2.2) fun v257 σ258 => if v253 = v257 then k1763 (σ254, σ258) else some (0 : Int32)
def f_law_b1330 (xs : Nat → Int32) (N : Nat) (t1 : Int32 × Hp × Hp) (k1763 : (Hp × Hp) → Option (Int32)) : Option (Int32) :=
  ldS xs N (t1.1 + (1 : Int32)) fun v259 => ldS xs N (t1.1 + (2 : Int32)) fun v260 => ldS xs N (t1.1 + (3 : Int32)) fun v261 => ldS xs N (t1.1 + (4 : Int32)) fun v262 => ldS xs N (t1.1 + (5 : Int32)) fun v263 => cl (f_X11_stage v259 v260 v261 v262 v263 t1.2.1) fun v264 σ265 => ldS xs N (t1.1 + (1 : Int32)) fun v266 => ldS xs N (t1.1 + (2 : Int32)) fun v267 => ldS xs N (t1.1 + (3 : Int32)) fun v268 => ldS xs N (t1.1 + (4 : Int32)) fun v269 => ldS xs N (t1.1 + (5 : Int32)) fun v270 => cl (f_X12_stage v266 v267 v268 v269 v270 t1.2.2) fun v271 σ272 => if v264 = v271 then k1763 (σ265, σ272) else some (0 : Int32)
def f_law_b1393 (xs : Nat → Int32) (N : Nat) (t1 : Int32 × Hp × Hp) (k1763 : (Hp × Hp) → Option (Int32)) : Option (Int32) :=
  ldS xs N (t1.1 + (1 : Int32)) fun v273 => cl (f_X11_restCold v273 t1.2.1) fun v274 σ275 => ldS xs N (t1.1 + (1 : Int32)) fun v276 => cl (f_X12_restCold v276 t1.2.2) fun v277 σ278 => if v274 = v277 then k1763 (σ275, σ278) else some (0 : Int32)
def f_law_b1416 (xs : Nat → Int32) (N : Nat) (t1 : Int32 × Hp × Hp) (k1763 : (Hp × Hp) → Option (Int32)) : Option (Int32) :=
  ldS xs N (t1.1 + (1 : Int32)) fun v279 => ldS xs N (t1.1 + (2 : Int32)) fun v280 => cl (f_X11_load v279 v280 t1.2.1) fun v281 σ282 => ldS xs N (t1.1 + (1 : Int32)) fun v283 => ldS xs N (t1.1 + (2 : Int32)) fun v284 => cl (f_X12_load v283 v284 t1.2.2) fun v285 σ286 => if v281 = v285 then k1763 (σ282, σ286) else some (0 : Int32)
def f_law_b1449 (xs : Nat → Int32) (N : Nat) (t1 : Int32 × Hp × Hp) (k1763 : (Hp × Hp) → Option (Int32)) : Option (Int32) :=
  ldS xs N (t1.1 + (1 : Int32)) fun v287 => ldS xs N (t1.1 + (2 : Int32)) fun v288 => cl (f_X11_late v287 v288 t1.2.1) fun v289 σ290 => ldS xs N (t1.1 + (1 : Int32)) fun v291 => ldS xs N (t1.1 + (2 : Int32)) fun v292 => cl (f_X12_late v291 v292 t1.2.2) fun v293 σ294 => if v289 = v293 then k1763 (σ290, σ294) else some (0 : Int32)
def f_law_b1482 (xs : Nat → Int32) (N : Nat) (t1 : Int32 × Hp × Hp) (k1763 : (Hp × Hp) → Option (Int32)) : Option (Int32) :=
  ldS xs N (t1.1 + (1 : Int32)) fun v295 => ldS xs N (t1.1 + (2 : Int32)) fun v296 => cl (f_X11_spray v295 v296 t1.2.1) fun v297 σ298 => ldS xs N (t1.1 + (1 : Int32)) fun v299 => ldS xs N (t1.1 + (2 : Int32)) fun v300 => cl (f_X12_spray v299 v300 t1.2.2) fun v301 σ302 => if v297 = v301 then k1763 (σ298, σ302) else some (0 : Int32)
def f_law_j1556 (t1 : Int32 × Hp × Hp) (k1763 : (Hp × Hp) → Option (Int32)) (v306 : Int32) (σ307 : Hp) (v308 : Int32) (t310 : Int32) : Option (Int32) :=
  cl (f_X12_seen v308 t310 t1.2.2) fun v311 σ312 => if v306 = v311 then k1763 (σ307, σ312) else some (0 : Int32)
def f_law_j1534 (xs : Nat → Int32) (N : Nat) (t1 : Int32 × Hp × Hp) (k1763 : (Hp × Hp) → Option (Int32)) (v303 : Int32) (t305 : Int32) : Option (Int32) :=
  cl (f_X11_seen v303 t305 t1.2.1) fun v306 σ307 => ldS xs N (t1.1 + (1 : Int32)) fun v308 => ldS xs N (t1.1 + (2 : Int32)) fun v309 => jn (f_law_j1556 t1 k1763 v306 σ307 v308) fun k1556 => if v309 = 0 then k1556 (0 : Int32) else k1556 (1 : Int32)
def f_law_b1515 (xs : Nat → Int32) (N : Nat) (t1 : Int32 × Hp × Hp) (k1763 : (Hp × Hp) → Option (Int32)) : Option (Int32) :=
  ldS xs N (t1.1 + (1 : Int32)) fun v303 => ldS xs N (t1.1 + (2 : Int32)) fun v304 => jn (f_law_j1534 xs N t1 k1763 v303) fun k1534 => if v304 = 0 then k1534 (0 : Int32) else k1534 (1 : Int32)
def f_law_b1564 (t1 : Int32 × Hp × Hp) (k1763 : (Hp × Hp) → Option (Int32)) : Option (Int32) :=
  cl (f_X11_anew t1.2.1) fun v313 σ314 => cl (f_X12_anew t1.2.2) fun v315 σ316 => if v313 = v315 then k1763 (σ314, σ316) else some (0 : Int32)
def f_law_b1577 (xs : Nat → Int32) (N : Nat) (t1 : Int32 × Hp × Hp) (k1763 : (Hp × Hp) → Option (Int32)) : Option (Int32) :=
  ldS xs N (t1.1 + (1 : Int32)) fun v317 => cl (f_X11_hunt v317 t1.2.1) fun v318 σ319 => ldS xs N (t1.1 + (1 : Int32)) fun v320 => cl (f_X12_hunt v320 t1.2.2) fun v321 σ322 => if v318 = v321 then k1763 (σ319, σ322) else some (0 : Int32)
def f_law_b1600 (xs : Nat → Int32) (N : Nat) (t1 : Int32 × Hp × Hp) (k1763 : (Hp × Hp) → Option (Int32)) : Option (Int32) :=
  ldS xs N (t1.1 + (1 : Int32)) fun v323 => ldS xs N (t1.1 + (2 : Int32)) fun v324 => ldS xs N (t1.1 + (3 : Int32)) fun v325 => ldS xs N (t1.1 + (4 : Int32)) fun v326 => ldS xs N (t1.1 + (5 : Int32)) fun v327 => cl (f_X11_odds v323 v324 v325 v326 v327 t1.2.1) fun v328 σ329 => ldS xs N (t1.1 + (1 : Int32)) fun v330 => ldS xs N (t1.1 + (2 : Int32)) fun v331 => ldS xs N (t1.1 + (3 : Int32)) fun v332 => ldS xs N (t1.1 + (4 : Int32)) fun v333 => ldS xs N (t1.1 + (5 : Int32)) fun v334 => cl (f_X12_odds v330 v331 v332 v333 v334 t1.2.2) fun v335 σ336 => if (lg_cmp v328 v335) = 0 then k1763 (σ329, σ336) else some (0 : Int32)
def f_law_b1664 (xs : Nat → Int32) (N : Nat) (t1 : Int32 × Hp × Hp) (k1763 : (Hp × Hp) → Option (Int32)) : Option (Int32) :=
  ldS xs N (t1.1 + (1 : Int32)) fun v337 => ldS xs N (t1.1 + (2 : Int32)) fun v338 => ldS xs N (t1.1 + (3 : Int32)) fun v339 => cl (f_X11_offer v337 v338 v339 t1.2.1) fun v340 σ341 => ldS xs N (t1.1 + (1 : Int32)) fun v342 => ldS xs N (t1.1 + (2 : Int32)) fun v343 => ldS xs N (t1.1 + (3 : Int32)) fun v344 => cl (f_X12_offer v342 v343 v344 t1.2.2) fun v345 σ346 => if v340 = v345 then k1763 (σ341, σ346) else some (0 : Int32)
def f_law_b1707 (xs : Nat → Int32) (N : Nat) (t1 : Int32 × Hp × Hp) (k1763 : (Hp × Hp) → Option (Int32)) : Option (Int32) :=
  ldS xs N (t1.1 + (1 : Int32)) fun v347 => ldS xs N (t1.1 + (2 : Int32)) fun v348 => cl (f_X11_plan v347 v348 t1.2.1) fun v349 σ350 => ldS xs N (t1.1 + (1 : Int32)) fun v351 => ldS xs N (t1.1 + (2 : Int32)) fun v352 => cl (f_X12_plan v351 v352 t1.2.2) fun v353 σ354 => if v349 = v353 then k1763 (σ350, σ354) else some (0 : Int32)
def f_law_b1740 (xs : Nat → Int32) (N : Nat) (t1 : Int32 × Hp × Hp) (k1763 : (Hp × Hp) → Option (Int32)) : Option (Int32) :=
  ldS xs N (t1.1 + (1 : Int32)) fun v355 => cr (f_X11_count v355 t1.2.1) fun v356 => ldS xs N (t1.1 + (1 : Int32)) fun v357 => cr (f_X12_count v357 t1.2.2) fun v358 => if v356 = v358 then k1763 (t1.2.1, t1.2.2) else some (0 : Int32)
def f_law_l18 (xs : Nat → Int32) (N : Nat) (kl18 : (Int32 × Hp × Hp) → Option (Int32)) (t1 : Int32 × Hp × Hp) : Option (Int32) :=
  if ((Int32.ofNat N) - (6 : Int32)) < t1.1 then some (1 : Int32) else ldS xs N t1.1 fun v2 => jn (f_law_j1763 t1 kl18) fun k1763 => if (v2 &&& (63 : Int32)) = (0 : Int32) then f_law_b212 xs N t1 k1763 else if (v2 &&& (63 : Int32)) = (1 : Int32) then f_law_b245 xs N t1 k1763 else if (v2 &&& (63 : Int32)) = (2 : Int32) then f_law_b278 xs N t1 k1763 else if (v2 &&& (63 : Int32)) = (3 : Int32) then f_law_b347 xs N t1 k1763 else if (v2 &&& (63 : Int32)) = (4 : Int32) then f_law_b390 xs N t1 k1763 else if (v2 &&& (63 : Int32)) = (5 : Int32) then f_law_b433 xs N t1 k1763 else if (v2 &&& (63 : Int32)) = (6 : Int32) then f_law_b496 xs N t1 k1763 else if (v2 &&& (63 : Int32)) = (7 : Int32) then f_law_b539 xs N t1 k1763 else if (v2 &&& (63 : Int32)) = (8 : Int32) then f_law_b562 xs N t1 k1763 else if (v2 &&& (63 : Int32)) = (9 : Int32) then f_law_b605 xs N t1 k1763 else if (v2 &&& (63 : Int32)) = (10 : Int32) then f_law_b638 xs N t1 k1763 else if (v2 &&& (63 : Int32)) = (11 : Int32) then f_law_b671 xs N t1 k1763 else if (v2 &&& (63 : Int32)) = (12 : Int32) then f_law_b714 xs N t1 k1763 else if (v2 &&& (63 : Int32)) = (13 : Int32) then f_law_b777 t1 k1763 else if (v2 &&& (63 : Int32)) = (14 : Int32) then f_law_b790 xs N t1 k1763 else if (v2 &&& (63 : Int32)) = (15 : Int32) then f_law_b813 xs N t1 k1763 else if (v2 &&& (63 : Int32)) = (16 : Int32) then f_law_b862 xs N t1 k1763 else if (v2 &&& (63 : Int32)) = (17 : Int32) then f_law_b911 xs N t1 k1763 else if (v2 &&& (63 : Int32)) = (18 : Int32) then f_law_b960 xs N t1 k1763 else if (v2 &&& (63 : Int32)) = (19 : Int32) then f_law_b983 t1 k1763 else if (v2 &&& (63 : Int32)) = (20 : Int32) then f_law_b996 t1 k1763 else if (v2 &&& (63 : Int32)) = (21 : Int32) then f_law_b1009 xs N t1 k1763 else if (v2 &&& (63 : Int32)) = (22 : Int32) then f_law_b1042 xs N t1 k1763 else if (v2 &&& (63 : Int32)) = (23 : Int32) then f_law_b1086 xs N t1 k1763 else if (v2 &&& (63 : Int32)) = (24 : Int32) then f_law_b1145 xs N t1 k1763 else if (v2 &&& (63 : Int32)) = (25 : Int32) then f_law_b1188 xs N t1 k1763 else if (v2 &&& (63 : Int32)) = (26 : Int32) then f_law_b1231 xs N t1 k1763 else if (v2 &&& (63 : Int32)) = (27 : Int32) then f_law_b1264 xs N t1 k1763 else if (v2 &&& (63 : Int32)) = (28 : Int32) then f_law_b1297 xs N t1 k1763 else if (v2 &&& (63 : Int32)) = (29 : Int32) then f_law_b1330 xs N t1 k1763 else if (v2 &&& (63 : Int32)) = (30 : Int32) then f_law_b1393 xs N t1 k1763 else if (v2 &&& (63 : Int32)) = (31 : Int32) then f_law_b1416 xs N t1 k1763 else if (v2 &&& (63 : Int32)) = (32 : Int32) then f_law_b1449 xs N t1 k1763 else if (v2 &&& (63 : Int32)) = (33 : Int32) then f_law_b1482 xs N t1 k1763 else if (v2 &&& (63 : Int32)) = (34 : Int32) then f_law_b1515 xs N t1 k1763 else if (v2 &&& (63 : Int32)) = (35 : Int32) then f_law_b1564 t1 k1763 else if (v2 &&& (63 : Int32)) = (36 : Int32) then f_law_b1577 xs N t1 k1763 else if (v2 &&& (63 : Int32)) = (37 : Int32) then f_law_b1600 xs N t1 k1763 else if (v2 &&& (63 : Int32)) = (38 : Int32) then f_law_b1664 xs N t1 k1763 else if (v2 &&& (63 : Int32)) = (39 : Int32) then f_law_b1707 xs N t1 k1763 else if (v2 &&& (63 : Int32)) = (40 : Int32) then f_law_b1740 xs N t1 k1763 else k1763 (t1.2.1, t1.2.2)
def f_law (xs : Nat → Int32) (N : Nat) (σc : Hp) (σm : Hp) : Option (Int32) :=
  lp (f_law_l18 xs N) FU ((0 : Int32), σc, σm)
set_option maxHeartbeats 8000000
set_option maxRecDepth 100000
theorem c_law (G : GT) (xs : Nat → Int32) (N b : Nat) (σc σm : Hp) (κ : KT (Hp × Hp) Int32) (hk : KO G κ cL_law "NearNothingLaw" 2000) (hs : KS κ b N xs) (hret : ∀ (v : Int32) {σ : Hp × Hp} (pc : Nat) (L : List (Option Value)), decode cL_law pc = .ok (.ireturn, 1) → VV G κ (some v) σ pc L [.int v]) : VV G κ (f_law xs N σc σm) (σc, σm) 18 [some (.ref b), some (rf G 0), some (rf G 86), some (.int 0)] [] := by
  refine vv_lp (fun t1 => ((t1.2.1, t1.2.2), 18, [some (.ref b), some (rf G 0), some (rf G 86), some (.int t1.1)], [])) (fun kl18 hkl18 t1 => ?_) FU ((0 : Int32), σc, σm)
  refine vv_iload_n (i := 3) 19 hk dL_law_18 rfl rfl rfl ?_
  refine vv_sload_n (i := 0) 20 hk dL_law_19 rfl rfl rfl ?_
  refine vv_slen 21 hk hs dL_law_20 rfl ?_
  refine vv_bipush 23 hk dL_law_21 rfl bp_6 ?_
  refine vv_isub 24 hk dL_law_23 rfl ?_
  refine vv_icmp_gt 1769 27 hk dL_law_24 rfl rfl ?_ ?_
  · skip
    refine vv_iconst 1770 hk dL_law_1769 rfl ic_1 ?_
    exact hret _ _ _ dL_law_1770
  · skip
    refine vv_sload_n (i := 0) 28 hk dL_law_27 rfl rfl rfl ?_
    refine vv_iload_n (i := 3) 29 hk dL_law_28 rfl rfl rfl ?_
    refine vv_sld 30 hk hs dL_law_29 rfl (fun v2 => ?_)
    refine vv_bipush 32 hk dL_law_30 rfl bp_63 ?_
    refine vv_iand 33 hk dL_law_32 rfl ?_
    refine vv_jn (fun t3 => ((t3.1, t3.2), 1763, [some (.ref b), some (rf G 0), some (rf G 86), some (.int t1.1)], [])) (fun t3 => ?_) (fun k1763 hk1763 => ?_)
    · skip
      refine vv_iinc 1766 (fun x4 => [some (.ref b), some (rf G 0), some (rf G 86), some (.int x4)]) hk dL_law_1763 rfl rfl ic_6 (fun _ => rfl) (fun x4 => ?_)
      refine vv_goto 18 hk dL_law_1766 rfl ?_
      exact vv_le (ll_s rfl (ll_s rfl (ll_s rfl (ll_s rfl ll_0)))) (hkl18 (x4, t3.1, t3.2))
    · skip
      refine vv_case (fun h0 => ?_) (fun h0 => ?_)
      · skip
        refine vv_tabIn 212 hk dL_law_33 (by rw [h0]; decide +kernel) (by rw [h0]; decide +kernel) (off := 179) (by rw [h0]; decide +kernel) rfl ?_
        refine vv_aload_n (i := 1) 213 hk dL_law_212 rfl rfl rfl ?_
        refine vv_sload_n (i := 0) 214 hk dL_law_213 rfl rfl rfl ?_
        refine vv_iload_n (i := 3) 215 hk dL_law_214 rfl rfl rfl ?_
        refine vv_iconst 216 hk dL_law_215 rfl ic_1 ?_
        refine vv_iadd 217 hk dL_law_216 rfl ?_
        refine vv_sld 218 hk hs dL_law_217 rfl (fun v5 => ?_)
        refine vv_sload_n (i := 0) 219 hk dL_law_218 rfl rfl rfl ?_
        refine vv_iload_n (i := 3) 220 hk dL_law_219 rfl rfl rfl ?_
        refine vv_iconst 221 hk dL_law_220 rfl ic_2 ?_
        refine vv_iadd 222 hk dL_law_221 rfl ?_
        refine vv_sld 223 hk hs dL_law_222 rfl (fun v6 => ?_)
        refine vv_toC hs ?_
        refine vv_invI (st := []) 226 (hkC hk) (heC hs) dL_law_223 rfl ml_L_13 cf_X11_room la_0 ci_11 (c_X11_room G v5 v6 t1.2.1) rfl rfl rfl rfl (fun v7 σ8 => vv_ofC hs ?_)
        refine vv_aload_n (i := 2) 227 hk dL_law_226 rfl rfl rfl ?_
        refine vv_sload_n (i := 0) 228 hk dL_law_227 rfl rfl rfl ?_
        refine vv_iload_n (i := 3) 229 hk dL_law_228 rfl rfl rfl ?_
        refine vv_iconst 230 hk dL_law_229 rfl ic_1 ?_
        refine vv_iadd 231 hk dL_law_230 rfl ?_
        refine vv_sld 232 hk hs dL_law_231 rfl (fun v9 => ?_)
        refine vv_sload_n (i := 0) 233 hk dL_law_232 rfl rfl rfl ?_
        refine vv_iload_n (i := 3) 234 hk dL_law_233 rfl rfl rfl ?_
        refine vv_iconst 235 hk dL_law_234 rfl ic_2 ?_
        refine vv_iadd 236 hk dL_law_235 rfl ?_
        refine vv_sld 237 hk hs dL_law_236 rfl (fun v10 => ?_)
        refine vv_toM hs ?_
        refine vv_invI (st := [(.int v7)]) 240 (hkM hk) (heM hs) dL_law_237 rfl ml_L_17 cf_X12_room la_86 ci_12 (c_X12_room G v9 v10 t1.2.2) rfl rfl rfl rfl (fun v11 σ12 => vv_ofM hs ?_)
        refine vv_icmp_eq 1763 243 hk dL_law_240 rfl rfl ?_ ?_
        · skip
          exact vv_le (ll_s rfl (ll_s rfl (ll_s rfl (ll_s rfl ll_0)))) (hk1763 (σ8, σ12))
        · skip
          refine vv_iconst 244 hk dL_law_243 rfl ic_0 ?_
          exact hret _ _ _ dL_law_244
      · skip
        refine vv_case (fun h1 => ?_) (fun h1 => ?_)
        · skip
          refine vv_tabIn 245 hk dL_law_33 (by rw [h1]; decide +kernel) (by rw [h1]; decide +kernel) (off := 212) (by rw [h1]; decide +kernel) rfl ?_
          refine vv_aload_n (i := 1) 246 hk dL_law_245 rfl rfl rfl ?_
          refine vv_sload_n (i := 0) 247 hk dL_law_246 rfl rfl rfl ?_
          refine vv_iload_n (i := 3) 248 hk dL_law_247 rfl rfl rfl ?_
          refine vv_iconst 249 hk dL_law_248 rfl ic_1 ?_
          refine vv_iadd 250 hk dL_law_249 rfl ?_
          refine vv_sld 251 hk hs dL_law_250 rfl (fun v13 => ?_)
          refine vv_sload_n (i := 0) 252 hk dL_law_251 rfl rfl rfl ?_
          refine vv_iload_n (i := 3) 253 hk dL_law_252 rfl rfl rfl ?_
          refine vv_iconst 254 hk dL_law_253 rfl ic_2 ?_
          refine vv_iadd 255 hk dL_law_254 rfl ?_
          refine vv_sld 256 hk hs dL_law_255 rfl (fun v14 => ?_)
          refine vv_toC hs ?_
          refine vv_invI (st := []) 259 (hkC hk) (heC hs) dL_law_256 rfl ml_L_18 cf_X11_warm la_0 ci_11 (c_X11_warm G v13 v14 t1.2.1) rfl rfl rfl rfl (fun v15 σ16 => vv_ofC hs ?_)
          refine vv_aload_n (i := 2) 260 hk dL_law_259 rfl rfl rfl ?_
          refine vv_sload_n (i := 0) 261 hk dL_law_260 rfl rfl rfl ?_
          refine vv_iload_n (i := 3) 262 hk dL_law_261 rfl rfl rfl ?_
          refine vv_iconst 263 hk dL_law_262 rfl ic_1 ?_
          refine vv_iadd 264 hk dL_law_263 rfl ?_
          refine vv_sld 265 hk hs dL_law_264 rfl (fun v17 => ?_)
          refine vv_sload_n (i := 0) 266 hk dL_law_265 rfl rfl rfl ?_
          refine vv_iload_n (i := 3) 267 hk dL_law_266 rfl rfl rfl ?_
          refine vv_iconst 268 hk dL_law_267 rfl ic_2 ?_
          refine vv_iadd 269 hk dL_law_268 rfl ?_
          refine vv_sld 270 hk hs dL_law_269 rfl (fun v18 => ?_)
          refine vv_toM hs ?_
          refine vv_invI (st := [(.int v15)]) 273 (hkM hk) (heM hs) dL_law_270 rfl ml_L_21 cf_X12_warm la_86 ci_12 (c_X12_warm G v17 v18 t1.2.2) rfl rfl rfl rfl (fun v19 σ20 => vv_ofM hs ?_)
          refine vv_icmp_eq 1763 276 hk dL_law_273 rfl rfl ?_ ?_
          · skip
            exact vv_le (ll_s rfl (ll_s rfl (ll_s rfl (ll_s rfl ll_0)))) (hk1763 (σ16, σ20))
          · skip
            refine vv_iconst 277 hk dL_law_276 rfl ic_0 ?_
            exact hret _ _ _ dL_law_277
        · skip
          refine vv_case (fun h2 => ?_) (fun h2 => ?_)
          · skip
            refine vv_tabIn 278 hk dL_law_33 (by rw [h2]; decide +kernel) (by rw [h2]; decide +kernel) (off := 245) (by rw [h2]; decide +kernel) rfl ?_
            refine vv_aload_n (i := 1) 279 hk dL_law_278 rfl rfl rfl ?_
            refine vv_sload_n (i := 0) 280 hk dL_law_279 rfl rfl rfl ?_
            refine vv_iload_n (i := 3) 281 hk dL_law_280 rfl rfl rfl ?_
            refine vv_iconst 282 hk dL_law_281 rfl ic_1 ?_
            refine vv_iadd 283 hk dL_law_282 rfl ?_
            refine vv_sld 284 hk hs dL_law_283 rfl (fun v21 => ?_)
            refine vv_sload_n (i := 0) 285 hk dL_law_284 rfl rfl rfl ?_
            refine vv_iload_n (i := 3) 286 hk dL_law_285 rfl rfl rfl ?_
            refine vv_iconst 287 hk dL_law_286 rfl ic_2 ?_
            refine vv_iadd 288 hk dL_law_287 rfl ?_
            refine vv_sld 289 hk hs dL_law_288 rfl (fun v22 => ?_)
            refine vv_sload_n (i := 0) 290 hk dL_law_289 rfl rfl rfl ?_
            refine vv_iload_n (i := 3) 291 hk dL_law_290 rfl rfl rfl ?_
            refine vv_iconst 292 hk dL_law_291 rfl ic_3 ?_
            refine vv_iadd 293 hk dL_law_292 rfl ?_
            refine vv_sld 294 hk hs dL_law_293 rfl (fun v23 => ?_)
            refine vv_sload_n (i := 0) 295 hk dL_law_294 rfl rfl rfl ?_
            refine vv_iload_n (i := 3) 296 hk dL_law_295 rfl rfl rfl ?_
            refine vv_iconst 297 hk dL_law_296 rfl ic_4 ?_
            refine vv_iadd 298 hk dL_law_297 rfl ?_
            refine vv_sld 299 hk hs dL_law_298 rfl (fun v24 => ?_)
            refine vv_jn (fun t25 => ((t1.2.1, t1.2.2), 307, [some (.ref b), some (rf G 0), some (rf G 86), some (.int t1.1)], [(.int t25), (.int v23), (.int v22), (.int v21), (rf G 0)])) (fun t25 => ?_) (fun k307 hk307 => ?_)
            · skip
              refine vv_toC hs ?_
              refine vv_invI (st := []) 310 (hkC hk) (heC hs) dL_law_307 rfl ml_L_22 cf_X11_gas la_0 ci_11 (c_X11_gas G v21 v22 v23 t25 t1.2.1) rfl rfl rfl rfl (fun v26 σ27 => vv_ofC hs ?_)
              refine vv_aload_n (i := 2) 311 hk dL_law_310 rfl rfl rfl ?_
              refine vv_sload_n (i := 0) 312 hk dL_law_311 rfl rfl rfl ?_
              refine vv_iload_n (i := 3) 313 hk dL_law_312 rfl rfl rfl ?_
              refine vv_iconst 314 hk dL_law_313 rfl ic_1 ?_
              refine vv_iadd 315 hk dL_law_314 rfl ?_
              refine vv_sld 316 hk hs dL_law_315 rfl (fun v28 => ?_)
              refine vv_sload_n (i := 0) 317 hk dL_law_316 rfl rfl rfl ?_
              refine vv_iload_n (i := 3) 318 hk dL_law_317 rfl rfl rfl ?_
              refine vv_iconst 319 hk dL_law_318 rfl ic_2 ?_
              refine vv_iadd 320 hk dL_law_319 rfl ?_
              refine vv_sld 321 hk hs dL_law_320 rfl (fun v29 => ?_)
              refine vv_sload_n (i := 0) 322 hk dL_law_321 rfl rfl rfl ?_
              refine vv_iload_n (i := 3) 323 hk dL_law_322 rfl rfl rfl ?_
              refine vv_iconst 324 hk dL_law_323 rfl ic_3 ?_
              refine vv_iadd 325 hk dL_law_324 rfl ?_
              refine vv_sld 326 hk hs dL_law_325 rfl (fun v30 => ?_)
              refine vv_sload_n (i := 0) 327 hk dL_law_326 rfl rfl rfl ?_
              refine vv_iload_n (i := 3) 328 hk dL_law_327 rfl rfl rfl ?_
              refine vv_iconst 329 hk dL_law_328 rfl ic_4 ?_
              refine vv_iadd 330 hk dL_law_329 rfl ?_
              refine vv_sld 331 hk hs dL_law_330 rfl (fun v31 => ?_)
              refine vv_jn (fun t32 => ((σ27, t1.2.2), 339, [some (.ref b), some (rf G 0), some (rf G 86), some (.int t1.1)], [(.int t32), (.int v30), (.int v29), (.int v28), (rf G 86), (.int v26)])) (fun t32 => ?_) (fun k339 hk339 => ?_)
              · skip
                refine vv_toM hs ?_
                refine vv_invI (st := [(.int v26)]) 342 (hkM hk) (heM hs) dL_law_339 rfl ml_L_26 cf_X12_gas la_86 ci_12 (c_X12_gas G v28 v29 v30 t32 t1.2.2) rfl rfl rfl rfl (fun v33 σ34 => vv_ofM hs ?_)
                refine vv_icmp_eq 1763 345 hk dL_law_342 rfl rfl ?_ ?_
                · skip
                  exact vv_le (ll_s rfl (ll_s rfl (ll_s rfl (ll_s rfl ll_0)))) (hk1763 (σ27, σ34))
                · skip
                  refine vv_iconst 346 hk dL_law_345 rfl ic_0 ?_
                  exact hret _ _ _ dL_law_346
              · skip
                refine vv_if_eq 338 334 hk dL_law_331 rfl rfl ?_ ?_
                · skip
                  refine vv_iconst 339 hk dL_law_338 rfl ic_0 ?_
                  exact vv_le (ll_s rfl (ll_s rfl (ll_s rfl (ll_s rfl ll_0)))) (hk339 (0 : Int32))
                · skip
                  refine vv_iconst 335 hk dL_law_334 rfl ic_1 ?_
                  refine vv_goto 339 hk dL_law_335 rfl ?_
                  exact vv_le (ll_s rfl (ll_s rfl (ll_s rfl (ll_s rfl ll_0)))) (hk339 (1 : Int32))
            · skip
              refine vv_if_eq 306 302 hk dL_law_299 rfl rfl ?_ ?_
              · skip
                refine vv_iconst 307 hk dL_law_306 rfl ic_0 ?_
                exact vv_le (ll_s rfl (ll_s rfl (ll_s rfl (ll_s rfl ll_0)))) (hk307 (0 : Int32))
              · skip
                refine vv_iconst 303 hk dL_law_302 rfl ic_1 ?_
                refine vv_goto 307 hk dL_law_303 rfl ?_
                exact vv_le (ll_s rfl (ll_s rfl (ll_s rfl (ll_s rfl ll_0)))) (hk307 (1 : Int32))
          · skip
            refine vv_case (fun h3 => ?_) (fun h3 => ?_)
            · skip
              refine vv_tabIn 347 hk dL_law_33 (by rw [h3]; decide +kernel) (by rw [h3]; decide +kernel) (off := 314) (by rw [h3]; decide +kernel) rfl ?_
              refine vv_aload_n (i := 1) 348 hk dL_law_347 rfl rfl rfl ?_
              refine vv_sload_n (i := 0) 349 hk dL_law_348 rfl rfl rfl ?_
              refine vv_iload_n (i := 3) 350 hk dL_law_349 rfl rfl rfl ?_
              refine vv_iconst 351 hk dL_law_350 rfl ic_1 ?_
              refine vv_iadd 352 hk dL_law_351 rfl ?_
              refine vv_sld 353 hk hs dL_law_352 rfl (fun v35 => ?_)
              refine vv_sload_n (i := 0) 354 hk dL_law_353 rfl rfl rfl ?_
              refine vv_iload_n (i := 3) 355 hk dL_law_354 rfl rfl rfl ?_
              refine vv_iconst 356 hk dL_law_355 rfl ic_2 ?_
              refine vv_iadd 357 hk dL_law_356 rfl ?_
              refine vv_sld 358 hk hs dL_law_357 rfl (fun v36 => ?_)
              refine vv_sload_n (i := 0) 359 hk dL_law_358 rfl rfl rfl ?_
              refine vv_iload_n (i := 3) 360 hk dL_law_359 rfl rfl rfl ?_
              refine vv_iconst 361 hk dL_law_360 rfl ic_3 ?_
              refine vv_iadd 362 hk dL_law_361 rfl ?_
              refine vv_sld 363 hk hs dL_law_362 rfl (fun v37 => ?_)
              refine vv_toC hs ?_
              refine vv_invI (st := []) 366 (hkC hk) (heC hs) dL_law_363 rfl ml_L_27 cf_X11_gives la_0 ci_11 (c_X11_gives G v35 v36 v37 t1.2.1) rfl rfl rfl rfl (fun v38 σ39 => vv_ofC hs ?_)
              refine vv_aload_n (i := 2) 367 hk dL_law_366 rfl rfl rfl ?_
              refine vv_sload_n (i := 0) 368 hk dL_law_367 rfl rfl rfl ?_
              refine vv_iload_n (i := 3) 369 hk dL_law_368 rfl rfl rfl ?_
              refine vv_iconst 370 hk dL_law_369 rfl ic_1 ?_
              refine vv_iadd 371 hk dL_law_370 rfl ?_
              refine vv_sld 372 hk hs dL_law_371 rfl (fun v40 => ?_)
              refine vv_sload_n (i := 0) 373 hk dL_law_372 rfl rfl rfl ?_
              refine vv_iload_n (i := 3) 374 hk dL_law_373 rfl rfl rfl ?_
              refine vv_iconst 375 hk dL_law_374 rfl ic_2 ?_
              refine vv_iadd 376 hk dL_law_375 rfl ?_
              refine vv_sld 377 hk hs dL_law_376 rfl (fun v41 => ?_)
              refine vv_sload_n (i := 0) 378 hk dL_law_377 rfl rfl rfl ?_
              refine vv_iload_n (i := 3) 379 hk dL_law_378 rfl rfl rfl ?_
              refine vv_iconst 380 hk dL_law_379 rfl ic_3 ?_
              refine vv_iadd 381 hk dL_law_380 rfl ?_
              refine vv_sld 382 hk hs dL_law_381 rfl (fun v42 => ?_)
              refine vv_toM hs ?_
              refine vv_invI (st := [(.int v38)]) 385 (hkM hk) (heM hs) dL_law_382 rfl ml_L_31 cf_X12_gives la_86 ci_12 (c_X12_gives G v40 v41 v42 t1.2.2) rfl rfl rfl rfl (fun v43 σ44 => vv_ofM hs ?_)
              refine vv_icmp_eq 1763 388 hk dL_law_385 rfl rfl ?_ ?_
              · skip
                exact vv_le (ll_s rfl (ll_s rfl (ll_s rfl (ll_s rfl ll_0)))) (hk1763 (σ39, σ44))
              · skip
                refine vv_iconst 389 hk dL_law_388 rfl ic_0 ?_
                exact hret _ _ _ dL_law_389
            · skip
              refine vv_case (fun h4 => ?_) (fun h4 => ?_)
              · skip
                refine vv_tabIn 390 hk dL_law_33 (by rw [h4]; decide +kernel) (by rw [h4]; decide +kernel) (off := 357) (by rw [h4]; decide +kernel) rfl ?_
                refine vv_aload_n (i := 1) 391 hk dL_law_390 rfl rfl rfl ?_
                refine vv_sload_n (i := 0) 392 hk dL_law_391 rfl rfl rfl ?_
                refine vv_iload_n (i := 3) 393 hk dL_law_392 rfl rfl rfl ?_
                refine vv_iconst 394 hk dL_law_393 rfl ic_1 ?_
                refine vv_iadd 395 hk dL_law_394 rfl ?_
                refine vv_sld 396 hk hs dL_law_395 rfl (fun v45 => ?_)
                refine vv_sload_n (i := 0) 397 hk dL_law_396 rfl rfl rfl ?_
                refine vv_iload_n (i := 3) 398 hk dL_law_397 rfl rfl rfl ?_
                refine vv_iconst 399 hk dL_law_398 rfl ic_2 ?_
                refine vv_iadd 400 hk dL_law_399 rfl ?_
                refine vv_sld 401 hk hs dL_law_400 rfl (fun v46 => ?_)
                refine vv_sload_n (i := 0) 402 hk dL_law_401 rfl rfl rfl ?_
                refine vv_iload_n (i := 3) 403 hk dL_law_402 rfl rfl rfl ?_
                refine vv_iconst 404 hk dL_law_403 rfl ic_3 ?_
                refine vv_iadd 405 hk dL_law_404 rfl ?_
                refine vv_sld 406 hk hs dL_law_405 rfl (fun v47 => ?_)
                refine vv_toC hs ?_
                refine vv_invI (st := []) 409 (hkC hk) (heC hs) dL_law_406 rfl ml_L_32 cf_X11_pipe la_0 ci_11 (c_X11_pipe G v45 v46 v47 t1.2.1) rfl rfl rfl rfl (fun v48 σ49 => vv_ofC hs ?_)
                refine vv_aload_n (i := 2) 410 hk dL_law_409 rfl rfl rfl ?_
                refine vv_sload_n (i := 0) 411 hk dL_law_410 rfl rfl rfl ?_
                refine vv_iload_n (i := 3) 412 hk dL_law_411 rfl rfl rfl ?_
                refine vv_iconst 413 hk dL_law_412 rfl ic_1 ?_
                refine vv_iadd 414 hk dL_law_413 rfl ?_
                refine vv_sld 415 hk hs dL_law_414 rfl (fun v50 => ?_)
                refine vv_sload_n (i := 0) 416 hk dL_law_415 rfl rfl rfl ?_
                refine vv_iload_n (i := 3) 417 hk dL_law_416 rfl rfl rfl ?_
                refine vv_iconst 418 hk dL_law_417 rfl ic_2 ?_
                refine vv_iadd 419 hk dL_law_418 rfl ?_
                refine vv_sld 420 hk hs dL_law_419 rfl (fun v51 => ?_)
                refine vv_sload_n (i := 0) 421 hk dL_law_420 rfl rfl rfl ?_
                refine vv_iload_n (i := 3) 422 hk dL_law_421 rfl rfl rfl ?_
                refine vv_iconst 423 hk dL_law_422 rfl ic_3 ?_
                refine vv_iadd 424 hk dL_law_423 rfl ?_
                refine vv_sld 425 hk hs dL_law_424 rfl (fun v52 => ?_)
                refine vv_toM hs ?_
                refine vv_invI (st := [(.int v48)]) 428 (hkM hk) (heM hs) dL_law_425 rfl ml_L_35 cf_X12_pipe la_86 ci_12 (c_X12_pipe G v50 v51 v52 t1.2.2) rfl rfl rfl rfl (fun v53 σ54 => vv_ofM hs ?_)
                refine vv_icmp_eq 1763 431 hk dL_law_428 rfl rfl ?_ ?_
                · skip
                  exact vv_le (ll_s rfl (ll_s rfl (ll_s rfl (ll_s rfl ll_0)))) (hk1763 (σ49, σ54))
                · skip
                  refine vv_iconst 432 hk dL_law_431 rfl ic_0 ?_
                  exact hret _ _ _ dL_law_432
              · skip
                refine vv_case (fun h5 => ?_) (fun h5 => ?_)
                · skip
                  refine vv_tabIn 433 hk dL_law_33 (by rw [h5]; decide +kernel) (by rw [h5]; decide +kernel) (off := 400) (by rw [h5]; decide +kernel) rfl ?_
                  refine vv_aload_n (i := 1) 434 hk dL_law_433 rfl rfl rfl ?_
                  refine vv_sload_n (i := 0) 435 hk dL_law_434 rfl rfl rfl ?_
                  refine vv_iload_n (i := 3) 436 hk dL_law_435 rfl rfl rfl ?_
                  refine vv_iconst 437 hk dL_law_436 rfl ic_1 ?_
                  refine vv_iadd 438 hk dL_law_437 rfl ?_
                  refine vv_sld 439 hk hs dL_law_438 rfl (fun v55 => ?_)
                  refine vv_sload_n (i := 0) 440 hk dL_law_439 rfl rfl rfl ?_
                  refine vv_iload_n (i := 3) 441 hk dL_law_440 rfl rfl rfl ?_
                  refine vv_iconst 442 hk dL_law_441 rfl ic_2 ?_
                  refine vv_iadd 443 hk dL_law_442 rfl ?_
                  refine vv_sld 444 hk hs dL_law_443 rfl (fun v56 => ?_)
                  refine vv_sload_n (i := 0) 445 hk dL_law_444 rfl rfl rfl ?_
                  refine vv_iload_n (i := 3) 446 hk dL_law_445 rfl rfl rfl ?_
                  refine vv_iconst 447 hk dL_law_446 rfl ic_3 ?_
                  refine vv_iadd 448 hk dL_law_447 rfl ?_
                  refine vv_sld 449 hk hs dL_law_448 rfl (fun v57 => ?_)
                  refine vv_sload_n (i := 0) 450 hk dL_law_449 rfl rfl rfl ?_
                  refine vv_iload_n (i := 3) 451 hk dL_law_450 rfl rfl rfl ?_
                  refine vv_iconst 452 hk dL_law_451 rfl ic_4 ?_
                  refine vv_iadd 453 hk dL_law_452 rfl ?_
                  refine vv_sld 454 hk hs dL_law_453 rfl (fun v58 => ?_)
                  refine vv_sload_n (i := 0) 455 hk dL_law_454 rfl rfl rfl ?_
                  refine vv_iload_n (i := 3) 456 hk dL_law_455 rfl rfl rfl ?_
                  refine vv_iconst 457 hk dL_law_456 rfl ic_5 ?_
                  refine vv_iadd 458 hk dL_law_457 rfl ?_
                  refine vv_sld 459 hk hs dL_law_458 rfl (fun v59 => ?_)
                  refine vv_toC hs ?_
                  refine vv_invI (st := []) 462 (hkC hk) (heC hs) dL_law_459 rfl ml_L_36 cf_X11_pump la_0 ci_11 (c_X11_pump G v55 v56 v57 v58 v59 t1.2.1) rfl rfl rfl rfl (fun v60 σ61 => vv_ofC hs ?_)
                  refine vv_aload_n (i := 2) 463 hk dL_law_462 rfl rfl rfl ?_
                  refine vv_sload_n (i := 0) 464 hk dL_law_463 rfl rfl rfl ?_
                  refine vv_iload_n (i := 3) 465 hk dL_law_464 rfl rfl rfl ?_
                  refine vv_iconst 466 hk dL_law_465 rfl ic_1 ?_
                  refine vv_iadd 467 hk dL_law_466 rfl ?_
                  refine vv_sld 468 hk hs dL_law_467 rfl (fun v62 => ?_)
                  refine vv_sload_n (i := 0) 469 hk dL_law_468 rfl rfl rfl ?_
                  refine vv_iload_n (i := 3) 470 hk dL_law_469 rfl rfl rfl ?_
                  refine vv_iconst 471 hk dL_law_470 rfl ic_2 ?_
                  refine vv_iadd 472 hk dL_law_471 rfl ?_
                  refine vv_sld 473 hk hs dL_law_472 rfl (fun v63 => ?_)
                  refine vv_sload_n (i := 0) 474 hk dL_law_473 rfl rfl rfl ?_
                  refine vv_iload_n (i := 3) 475 hk dL_law_474 rfl rfl rfl ?_
                  refine vv_iconst 476 hk dL_law_475 rfl ic_3 ?_
                  refine vv_iadd 477 hk dL_law_476 rfl ?_
                  refine vv_sld 478 hk hs dL_law_477 rfl (fun v64 => ?_)
                  refine vv_sload_n (i := 0) 479 hk dL_law_478 rfl rfl rfl ?_
                  refine vv_iload_n (i := 3) 480 hk dL_law_479 rfl rfl rfl ?_
                  refine vv_iconst 481 hk dL_law_480 rfl ic_4 ?_
                  refine vv_iadd 482 hk dL_law_481 rfl ?_
                  refine vv_sld 483 hk hs dL_law_482 rfl (fun v65 => ?_)
                  refine vv_sload_n (i := 0) 484 hk dL_law_483 rfl rfl rfl ?_
                  refine vv_iload_n (i := 3) 485 hk dL_law_484 rfl rfl rfl ?_
                  refine vv_iconst 486 hk dL_law_485 rfl ic_5 ?_
                  refine vv_iadd 487 hk dL_law_486 rfl ?_
                  refine vv_sld 488 hk hs dL_law_487 rfl (fun v66 => ?_)
                  refine vv_toM hs ?_
                  refine vv_invI (st := [(.int v60)]) 491 (hkM hk) (heM hs) dL_law_488 rfl ml_L_40 cf_X12_pump la_86 ci_12 (c_X12_pump G v62 v63 v64 v65 v66 t1.2.2) rfl rfl rfl rfl (fun v67 σ68 => vv_ofM hs ?_)
                  refine vv_icmp_eq 1763 494 hk dL_law_491 rfl rfl ?_ ?_
                  · skip
                    exact vv_le (ll_s rfl (ll_s rfl (ll_s rfl (ll_s rfl ll_0)))) (hk1763 (σ61, σ68))
                  · skip
                    refine vv_iconst 495 hk dL_law_494 rfl ic_0 ?_
                    exact hret _ _ _ dL_law_495
                · skip
                  refine vv_case (fun h6 => ?_) (fun h6 => ?_)
                  · skip
                    refine vv_tabIn 496 hk dL_law_33 (by rw [h6]; decide +kernel) (by rw [h6]; decide +kernel) (off := 463) (by rw [h6]; decide +kernel) rfl ?_
                    refine vv_aload_n (i := 1) 497 hk dL_law_496 rfl rfl rfl ?_
                    refine vv_sload_n (i := 0) 498 hk dL_law_497 rfl rfl rfl ?_
                    refine vv_iload_n (i := 3) 499 hk dL_law_498 rfl rfl rfl ?_
                    refine vv_iconst 500 hk dL_law_499 rfl ic_1 ?_
                    refine vv_iadd 501 hk dL_law_500 rfl ?_
                    refine vv_sld 502 hk hs dL_law_501 rfl (fun v69 => ?_)
                    refine vv_sload_n (i := 0) 503 hk dL_law_502 rfl rfl rfl ?_
                    refine vv_iload_n (i := 3) 504 hk dL_law_503 rfl rfl rfl ?_
                    refine vv_iconst 505 hk dL_law_504 rfl ic_2 ?_
                    refine vv_iadd 506 hk dL_law_505 rfl ?_
                    refine vv_sld 507 hk hs dL_law_506 rfl (fun v70 => ?_)
                    refine vv_sload_n (i := 0) 508 hk dL_law_507 rfl rfl rfl ?_
                    refine vv_iload_n (i := 3) 509 hk dL_law_508 rfl rfl rfl ?_
                    refine vv_iconst 510 hk dL_law_509 rfl ic_3 ?_
                    refine vv_iadd 511 hk dL_law_510 rfl ?_
                    refine vv_sld 512 hk hs dL_law_511 rfl (fun v71 => ?_)
                    refine vv_toC hs ?_
                    refine vv_invI (st := []) 515 (hkC hk) (heC hs) dL_law_512 rfl ml_L_41 cf_X11_leak la_0 ci_11 (c_X11_leak G v69 v70 v71 t1.2.1) rfl rfl rfl rfl (fun v72 σ73 => vv_ofC hs ?_)
                    refine vv_aload_n (i := 2) 516 hk dL_law_515 rfl rfl rfl ?_
                    refine vv_sload_n (i := 0) 517 hk dL_law_516 rfl rfl rfl ?_
                    refine vv_iload_n (i := 3) 518 hk dL_law_517 rfl rfl rfl ?_
                    refine vv_iconst 519 hk dL_law_518 rfl ic_1 ?_
                    refine vv_iadd 520 hk dL_law_519 rfl ?_
                    refine vv_sld 521 hk hs dL_law_520 rfl (fun v74 => ?_)
                    refine vv_sload_n (i := 0) 522 hk dL_law_521 rfl rfl rfl ?_
                    refine vv_iload_n (i := 3) 523 hk dL_law_522 rfl rfl rfl ?_
                    refine vv_iconst 524 hk dL_law_523 rfl ic_2 ?_
                    refine vv_iadd 525 hk dL_law_524 rfl ?_
                    refine vv_sld 526 hk hs dL_law_525 rfl (fun v75 => ?_)
                    refine vv_sload_n (i := 0) 527 hk dL_law_526 rfl rfl rfl ?_
                    refine vv_iload_n (i := 3) 528 hk dL_law_527 rfl rfl rfl ?_
                    refine vv_iconst 529 hk dL_law_528 rfl ic_3 ?_
                    refine vv_iadd 530 hk dL_law_529 rfl ?_
                    refine vv_sld 531 hk hs dL_law_530 rfl (fun v76 => ?_)
                    refine vv_toM hs ?_
                    refine vv_invI (st := [(.int v72)]) 534 (hkM hk) (heM hs) dL_law_531 rfl ml_L_44 cf_X12_leak la_86 ci_12 (c_X12_leak G v74 v75 v76 t1.2.2) rfl rfl rfl rfl (fun v77 σ78 => vv_ofM hs ?_)
                    refine vv_icmp_eq 1763 537 hk dL_law_534 rfl rfl ?_ ?_
                    · skip
                      exact vv_le (ll_s rfl (ll_s rfl (ll_s rfl (ll_s rfl ll_0)))) (hk1763 (σ73, σ78))
                    · skip
                      refine vv_iconst 538 hk dL_law_537 rfl ic_0 ?_
                      exact hret _ _ _ dL_law_538
                  · skip
                    refine vv_case (fun h7 => ?_) (fun h7 => ?_)
                    · skip
                      refine vv_tabIn 539 hk dL_law_33 (by rw [h7]; decide +kernel) (by rw [h7]; decide +kernel) (off := 506) (by rw [h7]; decide +kernel) rfl ?_
                      refine vv_aload_n (i := 1) 540 hk dL_law_539 rfl rfl rfl ?_
                      refine vv_sload_n (i := 0) 541 hk dL_law_540 rfl rfl rfl ?_
                      refine vv_iload_n (i := 3) 542 hk dL_law_541 rfl rfl rfl ?_
                      refine vv_iconst 543 hk dL_law_542 rfl ic_1 ?_
                      refine vv_iadd 544 hk dL_law_543 rfl ?_
                      refine vv_sld 545 hk hs dL_law_544 rfl (fun v79 => ?_)
                      refine vv_toC hs ?_
                      refine vv_invI (st := []) 548 (hkC hk) (heC hs) dL_law_545 rfl ml_L_45 cf_X11_ticks la_0 ci_11 (c_X11_ticks G v79 t1.2.1) rfl rfl rfl rfl (fun v80 σ81 => vv_ofC hs ?_)
                      refine vv_aload_n (i := 2) 549 hk dL_law_548 rfl rfl rfl ?_
                      refine vv_sload_n (i := 0) 550 hk dL_law_549 rfl rfl rfl ?_
                      refine vv_iload_n (i := 3) 551 hk dL_law_550 rfl rfl rfl ?_
                      refine vv_iconst 552 hk dL_law_551 rfl ic_1 ?_
                      refine vv_iadd 553 hk dL_law_552 rfl ?_
                      refine vv_sld 554 hk hs dL_law_553 rfl (fun v82 => ?_)
                      refine vv_toM hs ?_
                      refine vv_invI (st := [(.int v80)]) 557 (hkM hk) (heM hs) dL_law_554 rfl ml_L_49 cf_X12_ticks la_86 ci_12 (c_X12_ticks G v82 t1.2.2) rfl rfl rfl rfl (fun v83 σ84 => vv_ofM hs ?_)
                      refine vv_icmp_eq 1763 560 hk dL_law_557 rfl rfl ?_ ?_
                      · skip
                        exact vv_le (ll_s rfl (ll_s rfl (ll_s rfl (ll_s rfl ll_0)))) (hk1763 (σ81, σ84))
                      · skip
                        refine vv_iconst 561 hk dL_law_560 rfl ic_0 ?_
                        exact hret _ _ _ dL_law_561
                    · skip
                      refine vv_case (fun h8 => ?_) (fun h8 => ?_)
                      · skip
                        refine vv_tabIn 562 hk dL_law_33 (by rw [h8]; decide +kernel) (by rw [h8]; decide +kernel) (off := 529) (by rw [h8]; decide +kernel) rfl ?_
                        refine vv_aload_n (i := 1) 563 hk dL_law_562 rfl rfl rfl ?_
                        refine vv_sload_n (i := 0) 564 hk dL_law_563 rfl rfl rfl ?_
                        refine vv_iload_n (i := 3) 565 hk dL_law_564 rfl rfl rfl ?_
                        refine vv_iconst 566 hk dL_law_565 rfl ic_1 ?_
                        refine vv_iadd 567 hk dL_law_566 rfl ?_
                        refine vv_sld 568 hk hs dL_law_567 rfl (fun v85 => ?_)
                        refine vv_sload_n (i := 0) 569 hk dL_law_568 rfl rfl rfl ?_
                        refine vv_iload_n (i := 3) 570 hk dL_law_569 rfl rfl rfl ?_
                        refine vv_iconst 571 hk dL_law_570 rfl ic_2 ?_
                        refine vv_iadd 572 hk dL_law_571 rfl ?_
                        refine vv_sld 573 hk hs dL_law_572 rfl (fun v86 => ?_)
                        refine vv_sload_n (i := 0) 574 hk dL_law_573 rfl rfl rfl ?_
                        refine vv_iload_n (i := 3) 575 hk dL_law_574 rfl rfl rfl ?_
                        refine vv_iconst 576 hk dL_law_575 rfl ic_3 ?_
                        refine vv_iadd 577 hk dL_law_576 rfl ?_
                        refine vv_sld 578 hk hs dL_law_577 rfl (fun v87 => ?_)
                        refine vv_toC hs ?_
                        refine vv_invI (st := []) 581 (hkC hk) (heC hs) dL_law_578 rfl ml_L_50 cf_X11_in la_0 ci_11 (c_X11_in G v85 v86 v87 t1.2.1) rfl rfl rfl rfl (fun v88 σ89 => vv_ofC hs ?_)
                        refine vv_aload_n (i := 2) 582 hk dL_law_581 rfl rfl rfl ?_
                        refine vv_sload_n (i := 0) 583 hk dL_law_582 rfl rfl rfl ?_
                        refine vv_iload_n (i := 3) 584 hk dL_law_583 rfl rfl rfl ?_
                        refine vv_iconst 585 hk dL_law_584 rfl ic_1 ?_
                        refine vv_iadd 586 hk dL_law_585 rfl ?_
                        refine vv_sld 587 hk hs dL_law_586 rfl (fun v90 => ?_)
                        refine vv_sload_n (i := 0) 588 hk dL_law_587 rfl rfl rfl ?_
                        refine vv_iload_n (i := 3) 589 hk dL_law_588 rfl rfl rfl ?_
                        refine vv_iconst 590 hk dL_law_589 rfl ic_2 ?_
                        refine vv_iadd 591 hk dL_law_590 rfl ?_
                        refine vv_sld 592 hk hs dL_law_591 rfl (fun v91 => ?_)
                        refine vv_sload_n (i := 0) 593 hk dL_law_592 rfl rfl rfl ?_
                        refine vv_iload_n (i := 3) 594 hk dL_law_593 rfl rfl rfl ?_
                        refine vv_iconst 595 hk dL_law_594 rfl ic_3 ?_
                        refine vv_iadd 596 hk dL_law_595 rfl ?_
                        refine vv_sld 597 hk hs dL_law_596 rfl (fun v92 => ?_)
                        refine vv_toM hs ?_
                        refine vv_invI (st := [(.int v88)]) 600 (hkM hk) (heM hs) dL_law_597 rfl ml_L_53 cf_X12_in la_86 ci_12 (c_X12_in G v90 v91 v92 t1.2.2) rfl rfl rfl rfl (fun v93 σ94 => vv_ofM hs ?_)
                        refine vv_icmp_eq 1763 603 hk dL_law_600 rfl rfl ?_ ?_
                        · skip
                          exact vv_le (ll_s rfl (ll_s rfl (ll_s rfl (ll_s rfl ll_0)))) (hk1763 (σ89, σ94))
                        · skip
                          refine vv_iconst 604 hk dL_law_603 rfl ic_0 ?_
                          exact hret _ _ _ dL_law_604
                      · skip
                        refine vv_case (fun h9 => ?_) (fun h9 => ?_)
                        · skip
                          refine vv_tabIn 605 hk dL_law_33 (by rw [h9]; decide +kernel) (by rw [h9]; decide +kernel) (off := 572) (by rw [h9]; decide +kernel) rfl ?_
                          refine vv_aload_n (i := 1) 606 hk dL_law_605 rfl rfl rfl ?_
                          refine vv_sload_n (i := 0) 607 hk dL_law_606 rfl rfl rfl ?_
                          refine vv_iload_n (i := 3) 608 hk dL_law_607 rfl rfl rfl ?_
                          refine vv_iconst 609 hk dL_law_608 rfl ic_1 ?_
                          refine vv_iadd 610 hk dL_law_609 rfl ?_
                          refine vv_sld 611 hk hs dL_law_610 rfl (fun v95 => ?_)
                          refine vv_sload_n (i := 0) 612 hk dL_law_611 rfl rfl rfl ?_
                          refine vv_iload_n (i := 3) 613 hk dL_law_612 rfl rfl rfl ?_
                          refine vv_iconst 614 hk dL_law_613 rfl ic_2 ?_
                          refine vv_iadd 615 hk dL_law_614 rfl ?_
                          refine vv_sld 616 hk hs dL_law_615 rfl (fun v96 => ?_)
                          refine vv_toC hs ?_
                          refine vv_invI (st := []) 619 (hkC hk) (heC hs) dL_law_616 rfl ml_L_54 cf_X11_pumpOf la_0 ci_11 (c_X11_pumpOf G v95 v96 t1.2.1) rfl rfl rfl rfl (fun v97 σ98 => vv_ofC hs ?_)
                          refine vv_aload_n (i := 2) 620 hk dL_law_619 rfl rfl rfl ?_
                          refine vv_sload_n (i := 0) 621 hk dL_law_620 rfl rfl rfl ?_
                          refine vv_iload_n (i := 3) 622 hk dL_law_621 rfl rfl rfl ?_
                          refine vv_iconst 623 hk dL_law_622 rfl ic_1 ?_
                          refine vv_iadd 624 hk dL_law_623 rfl ?_
                          refine vv_sld 625 hk hs dL_law_624 rfl (fun v99 => ?_)
                          refine vv_sload_n (i := 0) 626 hk dL_law_625 rfl rfl rfl ?_
                          refine vv_iload_n (i := 3) 627 hk dL_law_626 rfl rfl rfl ?_
                          refine vv_iconst 628 hk dL_law_627 rfl ic_2 ?_
                          refine vv_iadd 629 hk dL_law_628 rfl ?_
                          refine vv_sld 630 hk hs dL_law_629 rfl (fun v100 => ?_)
                          refine vv_toM hs ?_
                          refine vv_invI (st := [(.int v97)]) 633 (hkM hk) (heM hs) dL_law_630 rfl ml_L_57 cf_X12_pumpOf la_86 ci_12 (c_X12_pumpOf G v99 v100 t1.2.2) rfl rfl rfl rfl (fun v101 σ102 => vv_ofM hs ?_)
                          refine vv_icmp_eq 1763 636 hk dL_law_633 rfl rfl ?_ ?_
                          · skip
                            exact vv_le (ll_s rfl (ll_s rfl (ll_s rfl (ll_s rfl ll_0)))) (hk1763 (σ98, σ102))
                          · skip
                            refine vv_iconst 637 hk dL_law_636 rfl ic_0 ?_
                            exact hret _ _ _ dL_law_637
                        · skip
                          refine vv_case (fun h10 => ?_) (fun h10 => ?_)
                          · skip
                            refine vv_tabIn 638 hk dL_law_33 (by rw [h10]; decide +kernel) (by rw [h10]; decide +kernel) (off := 605) (by rw [h10]; decide +kernel) rfl ?_
                            refine vv_aload_n (i := 1) 639 hk dL_law_638 rfl rfl rfl ?_
                            refine vv_sload_n (i := 0) 640 hk dL_law_639 rfl rfl rfl ?_
                            refine vv_iload_n (i := 3) 641 hk dL_law_640 rfl rfl rfl ?_
                            refine vv_iconst 642 hk dL_law_641 rfl ic_1 ?_
                            refine vv_iadd 643 hk dL_law_642 rfl ?_
                            refine vv_sld 644 hk hs dL_law_643 rfl (fun v103 => ?_)
                            refine vv_sload_n (i := 0) 645 hk dL_law_644 rfl rfl rfl ?_
                            refine vv_iload_n (i := 3) 646 hk dL_law_645 rfl rfl rfl ?_
                            refine vv_iconst 647 hk dL_law_646 rfl ic_2 ?_
                            refine vv_iadd 648 hk dL_law_647 rfl ?_
                            refine vv_sld 649 hk hs dL_law_648 rfl (fun v104 => ?_)
                            refine vv_toC hs ?_
                            refine vv_invI (st := []) 652 (hkC hk) (heC hs) dL_law_649 rfl ml_L_58 cf_X11_all la_0 ci_11 (c_X11_all G v103 v104 t1.2.1) rfl rfl rfl rfl (fun v105 σ106 => vv_ofC hs ?_)
                            refine vv_aload_n (i := 2) 653 hk dL_law_652 rfl rfl rfl ?_
                            refine vv_sload_n (i := 0) 654 hk dL_law_653 rfl rfl rfl ?_
                            refine vv_iload_n (i := 3) 655 hk dL_law_654 rfl rfl rfl ?_
                            refine vv_iconst 656 hk dL_law_655 rfl ic_1 ?_
                            refine vv_iadd 657 hk dL_law_656 rfl ?_
                            refine vv_sld 658 hk hs dL_law_657 rfl (fun v107 => ?_)
                            refine vv_sload_n (i := 0) 659 hk dL_law_658 rfl rfl rfl ?_
                            refine vv_iload_n (i := 3) 660 hk dL_law_659 rfl rfl rfl ?_
                            refine vv_iconst 661 hk dL_law_660 rfl ic_2 ?_
                            refine vv_iadd 662 hk dL_law_661 rfl ?_
                            refine vv_sld 663 hk hs dL_law_662 rfl (fun v108 => ?_)
                            refine vv_toM hs ?_
                            refine vv_invI (st := [(.int v105)]) 666 (hkM hk) (heM hs) dL_law_663 rfl ml_L_61 cf_X12_all la_86 ci_12 (c_X12_all G v107 v108 t1.2.2) rfl rfl rfl rfl (fun v109 σ110 => vv_ofM hs ?_)
                            refine vv_icmp_eq 1763 669 hk dL_law_666 rfl rfl ?_ ?_
                            · skip
                              exact vv_le (ll_s rfl (ll_s rfl (ll_s rfl (ll_s rfl ll_0)))) (hk1763 (σ106, σ110))
                            · skip
                              refine vv_iconst 670 hk dL_law_669 rfl ic_0 ?_
                              exact hret _ _ _ dL_law_670
                          · skip
                            refine vv_case (fun h11 => ?_) (fun h11 => ?_)
                            · skip
                              refine vv_tabIn 671 hk dL_law_33 (by rw [h11]; decide +kernel) (by rw [h11]; decide +kernel) (off := 638) (by rw [h11]; decide +kernel) rfl ?_
                              refine vv_aload_n (i := 1) 672 hk dL_law_671 rfl rfl rfl ?_
                              refine vv_sload_n (i := 0) 673 hk dL_law_672 rfl rfl rfl ?_
                              refine vv_iload_n (i := 3) 674 hk dL_law_673 rfl rfl rfl ?_
                              refine vv_iconst 675 hk dL_law_674 rfl ic_1 ?_
                              refine vv_iadd 676 hk dL_law_675 rfl ?_
                              refine vv_sld 677 hk hs dL_law_676 rfl (fun v111 => ?_)
                              refine vv_sload_n (i := 0) 678 hk dL_law_677 rfl rfl rfl ?_
                              refine vv_iload_n (i := 3) 679 hk dL_law_678 rfl rfl rfl ?_
                              refine vv_iconst 680 hk dL_law_679 rfl ic_2 ?_
                              refine vv_iadd 681 hk dL_law_680 rfl ?_
                              refine vv_sld 682 hk hs dL_law_681 rfl (fun v112 => ?_)
                              refine vv_sload_n (i := 0) 683 hk dL_law_682 rfl rfl rfl ?_
                              refine vv_iload_n (i := 3) 684 hk dL_law_683 rfl rfl rfl ?_
                              refine vv_iconst 685 hk dL_law_684 rfl ic_3 ?_
                              refine vv_iadd 686 hk dL_law_685 rfl ?_
                              refine vv_sld 687 hk hs dL_law_686 rfl (fun v113 => ?_)
                              refine vv_toC hs ?_
                              refine vv_invI (st := []) 690 (hkC hk) (heC hs) dL_law_687 rfl ml_L_62 cf_X11_when la_0 ci_11 (c_X11_when G v111 v112 v113 t1.2.1) rfl rfl rfl rfl (fun v114 σ115 => vv_ofC hs ?_)
                              refine vv_aload_n (i := 2) 691 hk dL_law_690 rfl rfl rfl ?_
                              refine vv_sload_n (i := 0) 692 hk dL_law_691 rfl rfl rfl ?_
                              refine vv_iload_n (i := 3) 693 hk dL_law_692 rfl rfl rfl ?_
                              refine vv_iconst 694 hk dL_law_693 rfl ic_1 ?_
                              refine vv_iadd 695 hk dL_law_694 rfl ?_
                              refine vv_sld 696 hk hs dL_law_695 rfl (fun v116 => ?_)
                              refine vv_sload_n (i := 0) 697 hk dL_law_696 rfl rfl rfl ?_
                              refine vv_iload_n (i := 3) 698 hk dL_law_697 rfl rfl rfl ?_
                              refine vv_iconst 699 hk dL_law_698 rfl ic_2 ?_
                              refine vv_iadd 700 hk dL_law_699 rfl ?_
                              refine vv_sld 701 hk hs dL_law_700 rfl (fun v117 => ?_)
                              refine vv_sload_n (i := 0) 702 hk dL_law_701 rfl rfl rfl ?_
                              refine vv_iload_n (i := 3) 703 hk dL_law_702 rfl rfl rfl ?_
                              refine vv_iconst 704 hk dL_law_703 rfl ic_3 ?_
                              refine vv_iadd 705 hk dL_law_704 rfl ?_
                              refine vv_sld 706 hk hs dL_law_705 rfl (fun v118 => ?_)
                              refine vv_toM hs ?_
                              refine vv_invI (st := [(.int v114)]) 709 (hkM hk) (heM hs) dL_law_706 rfl ml_L_65 cf_X12_when la_86 ci_12 (c_X12_when G v116 v117 v118 t1.2.2) rfl rfl rfl rfl (fun v119 σ120 => vv_ofM hs ?_)
                              refine vv_icmp_eq 1763 712 hk dL_law_709 rfl rfl ?_ ?_
                              · skip
                                exact vv_le (ll_s rfl (ll_s rfl (ll_s rfl (ll_s rfl ll_0)))) (hk1763 (σ115, σ120))
                              · skip
                                refine vv_iconst 713 hk dL_law_712 rfl ic_0 ?_
                                exact hret _ _ _ dL_law_713
                            · skip
                              refine vv_case (fun h12 => ?_) (fun h12 => ?_)
                              · skip
                                refine vv_tabIn 714 hk dL_law_33 (by rw [h12]; decide +kernel) (by rw [h12]; decide +kernel) (off := 681) (by rw [h12]; decide +kernel) rfl ?_
                                refine vv_aload_n (i := 1) 715 hk dL_law_714 rfl rfl rfl ?_
                                refine vv_sload_n (i := 0) 716 hk dL_law_715 rfl rfl rfl ?_
                                refine vv_iload_n (i := 3) 717 hk dL_law_716 rfl rfl rfl ?_
                                refine vv_iconst 718 hk dL_law_717 rfl ic_1 ?_
                                refine vv_iadd 719 hk dL_law_718 rfl ?_
                                refine vv_sld 720 hk hs dL_law_719 rfl (fun v121 => ?_)
                                refine vv_sload_n (i := 0) 721 hk dL_law_720 rfl rfl rfl ?_
                                refine vv_iload_n (i := 3) 722 hk dL_law_721 rfl rfl rfl ?_
                                refine vv_iconst 723 hk dL_law_722 rfl ic_2 ?_
                                refine vv_iadd 724 hk dL_law_723 rfl ?_
                                refine vv_sld 725 hk hs dL_law_724 rfl (fun v122 => ?_)
                                refine vv_i2l 726 hk dL_law_725 rfl ?_
                                refine vv_bipush 728 hk dL_law_726 rfl bp_32 ?_
                                refine vv_lshl 729 hk dL_law_728 rfl ?_
                                refine vv_sload_n (i := 0) 730 hk dL_law_729 rfl rfl rfl ?_
                                refine vv_iload_n (i := 3) 731 hk dL_law_730 rfl rfl rfl ?_
                                refine vv_iconst 732 hk dL_law_731 rfl ic_3 ?_
                                refine vv_iadd 733 hk dL_law_732 rfl ?_
                                refine vv_sld 734 hk hs dL_law_733 rfl (fun v123 => ?_)
                                refine vv_i2l 735 hk dL_law_734 rfl ?_
                                refine vv_ldc2 738 hk dL_law_735 rfl cw_J_66 ?_
                                refine vv_land 739 hk dL_law_738 rfl ?_
                                refine vv_lor 740 hk dL_law_739 rfl ?_
                                refine vv_toC hs ?_
                                refine vv_invI (st := []) 743 (hkC hk) (heC hs) dL_law_740 rfl ml_L_68 cf_X11_feed la_0 ci_11 (c_X11_feed G v121 ((v122.toInt64 <<< ((32 : Int32).toInt64 &&& 63)) ||| (v123.toInt64 &&& (4294967295 : Int64))) t1.2.1) rfl rfl rfl rfl (fun v124 σ125 => vv_ofC hs ?_)
                                refine vv_aload_n (i := 2) 744 hk dL_law_743 rfl rfl rfl ?_
                                refine vv_sload_n (i := 0) 745 hk dL_law_744 rfl rfl rfl ?_
                                refine vv_iload_n (i := 3) 746 hk dL_law_745 rfl rfl rfl ?_
                                refine vv_iconst 747 hk dL_law_746 rfl ic_1 ?_
                                refine vv_iadd 748 hk dL_law_747 rfl ?_
                                refine vv_sld 749 hk hs dL_law_748 rfl (fun v126 => ?_)
                                refine vv_sload_n (i := 0) 750 hk dL_law_749 rfl rfl rfl ?_
                                refine vv_iload_n (i := 3) 751 hk dL_law_750 rfl rfl rfl ?_
                                refine vv_iconst 752 hk dL_law_751 rfl ic_2 ?_
                                refine vv_iadd 753 hk dL_law_752 rfl ?_
                                refine vv_sld 754 hk hs dL_law_753 rfl (fun v127 => ?_)
                                refine vv_i2l 755 hk dL_law_754 rfl ?_
                                refine vv_bipush 757 hk dL_law_755 rfl bp_32 ?_
                                refine vv_lshl 758 hk dL_law_757 rfl ?_
                                refine vv_sload_n (i := 0) 759 hk dL_law_758 rfl rfl rfl ?_
                                refine vv_iload_n (i := 3) 760 hk dL_law_759 rfl rfl rfl ?_
                                refine vv_iconst 761 hk dL_law_760 rfl ic_3 ?_
                                refine vv_iadd 762 hk dL_law_761 rfl ?_
                                refine vv_sld 763 hk hs dL_law_762 rfl (fun v128 => ?_)
                                refine vv_i2l 764 hk dL_law_763 rfl ?_
                                refine vv_ldc2 767 hk dL_law_764 rfl cw_J_66 ?_
                                refine vv_land 768 hk dL_law_767 rfl ?_
                                refine vv_lor 769 hk dL_law_768 rfl ?_
                                refine vv_toM hs ?_
                                refine vv_invI (st := [(.int v124)]) 772 (hkM hk) (heM hs) dL_law_769 rfl ml_L_72 cf_X12_feed la_86 ci_12 (c_X12_feed G v126 ((v127.toInt64 <<< ((32 : Int32).toInt64 &&& 63)) ||| (v128.toInt64 &&& (4294967295 : Int64))) t1.2.2) rfl rfl rfl rfl (fun v129 σ130 => vv_ofM hs ?_)
                                refine vv_icmp_eq 1763 775 hk dL_law_772 rfl rfl ?_ ?_
                                · skip
                                  exact vv_le (ll_s rfl (ll_s rfl (ll_s rfl (ll_s rfl ll_0)))) (hk1763 (σ125, σ130))
                                · skip
                                  refine vv_iconst 776 hk dL_law_775 rfl ic_0 ?_
                                  exact hret _ _ _ dL_law_776
                              · skip
                                refine vv_case (fun h13 => ?_) (fun h13 => ?_)
                                · skip
                                  refine vv_tabIn 777 hk dL_law_33 (by rw [h13]; decide +kernel) (by rw [h13]; decide +kernel) (off := 744) (by rw [h13]; decide +kernel) rfl ?_
                                  refine vv_aload_n (i := 1) 778 hk dL_law_777 rfl rfl rfl ?_
                                  refine vv_toC hs ?_
                                  refine vv_invI (st := []) 781 (hkC hk) (heC hs) dL_law_778 rfl ml_L_73 cf_X11_rule la_0 ci_11 (c_X11_rule G t1.2.1) rfl rfl rfl rfl (fun v131 σ132 => vv_ofC hs ?_)
                                  refine vv_aload_n (i := 2) 782 hk dL_law_781 rfl rfl rfl ?_
                                  refine vv_toM hs ?_
                                  refine vv_invI (st := [(.int v131)]) 785 (hkM hk) (heM hs) dL_law_782 rfl ml_L_77 cf_X12_rule la_86 ci_12 (c_X12_rule G t1.2.2) rfl rfl rfl rfl (fun v133 σ134 => vv_ofM hs ?_)
                                  refine vv_icmp_eq 1763 788 hk dL_law_785 rfl rfl ?_ ?_
                                  · skip
                                    exact vv_le (ll_s rfl (ll_s rfl (ll_s rfl (ll_s rfl ll_0)))) (hk1763 (σ132, σ134))
                                  · skip
                                    refine vv_iconst 789 hk dL_law_788 rfl ic_0 ?_
                                    exact hret _ _ _ dL_law_789
                                · skip
                                  refine vv_case (fun h14 => ?_) (fun h14 => ?_)
                                  · skip
                                    refine vv_tabIn 790 hk dL_law_33 (by rw [h14]; decide +kernel) (by rw [h14]; decide +kernel) (off := 757) (by rw [h14]; decide +kernel) rfl ?_
                                    refine vv_aload_n (i := 1) 791 hk dL_law_790 rfl rfl rfl ?_
                                    refine vv_sload_n (i := 0) 792 hk dL_law_791 rfl rfl rfl ?_
                                    refine vv_iload_n (i := 3) 793 hk dL_law_792 rfl rfl rfl ?_
                                    refine vv_iconst 794 hk dL_law_793 rfl ic_1 ?_
                                    refine vv_iadd 795 hk dL_law_794 rfl ?_
                                    refine vv_sld 796 hk hs dL_law_795 rfl (fun v135 => ?_)
                                    refine vv_toC hs ?_
                                    refine vv_invI (st := []) 799 (hkC hk) (heC hs) dL_law_796 rfl ml_L_78 cf_X11_unrule la_0 ci_11 (c_X11_unrule G v135 t1.2.1) rfl rfl rfl rfl (fun v136 σ137 => vv_ofC hs ?_)
                                    refine vv_aload_n (i := 2) 800 hk dL_law_799 rfl rfl rfl ?_
                                    refine vv_sload_n (i := 0) 801 hk dL_law_800 rfl rfl rfl ?_
                                    refine vv_iload_n (i := 3) 802 hk dL_law_801 rfl rfl rfl ?_
                                    refine vv_iconst 803 hk dL_law_802 rfl ic_1 ?_
                                    refine vv_iadd 804 hk dL_law_803 rfl ?_
                                    refine vv_sld 805 hk hs dL_law_804 rfl (fun v138 => ?_)
                                    refine vv_toM hs ?_
                                    refine vv_invI (st := [(.int v136)]) 808 (hkM hk) (heM hs) dL_law_805 rfl ml_L_81 cf_X12_unrule la_86 ci_12 (c_X12_unrule G v138 t1.2.2) rfl rfl rfl rfl (fun v139 σ140 => vv_ofM hs ?_)
                                    refine vv_icmp_eq 1763 811 hk dL_law_808 rfl rfl ?_ ?_
                                    · skip
                                      exact vv_le (ll_s rfl (ll_s rfl (ll_s rfl (ll_s rfl ll_0)))) (hk1763 (σ137, σ140))
                                    · skip
                                      refine vv_iconst 812 hk dL_law_811 rfl ic_0 ?_
                                      exact hret _ _ _ dL_law_812
                                  · skip
                                    refine vv_case (fun h15 => ?_) (fun h15 => ?_)
                                    · skip
                                      refine vv_tabIn 813 hk dL_law_33 (by rw [h15]; decide +kernel) (by rw [h15]; decide +kernel) (off := 780) (by rw [h15]; decide +kernel) rfl ?_
                                      refine vv_aload_n (i := 1) 814 hk dL_law_813 rfl rfl rfl ?_
                                      refine vv_sload_n (i := 0) 815 hk dL_law_814 rfl rfl rfl ?_
                                      refine vv_iload_n (i := 3) 816 hk dL_law_815 rfl rfl rfl ?_
                                      refine vv_iconst 817 hk dL_law_816 rfl ic_1 ?_
                                      refine vv_iadd 818 hk dL_law_817 rfl ?_
                                      refine vv_sld 819 hk hs dL_law_818 rfl (fun v141 => ?_)
                                      refine vv_sload_n (i := 0) 820 hk dL_law_819 rfl rfl rfl ?_
                                      refine vv_iload_n (i := 3) 821 hk dL_law_820 rfl rfl rfl ?_
                                      refine vv_iconst 822 hk dL_law_821 rfl ic_2 ?_
                                      refine vv_iadd 823 hk dL_law_822 rfl ?_
                                      refine vv_sld 824 hk hs dL_law_823 rfl (fun v142 => ?_)
                                      refine vv_jn (fun t143 => ((t1.2.1, t1.2.2), 832, [some (.ref b), some (rf G 0), some (rf G 86), some (.int t1.1)], [(.int t143), (.int v141), (rf G 0)])) (fun t143 => ?_) (fun k832 hk832 => ?_)
                                      · skip
                                        refine vv_toC hs ?_
                                        refine vv_invI (st := []) 835 (hkC hk) (heC hs) dL_law_832 rfl ml_L_82 cf_X11_forbids la_0 ci_11 (c_X11_forbids G v141 t143 t1.2.1) rfl rfl rfl rfl (fun v144 σ145 => vv_ofC hs ?_)
                                        refine vv_aload_n (i := 2) 836 hk dL_law_835 rfl rfl rfl ?_
                                        refine vv_sload_n (i := 0) 837 hk dL_law_836 rfl rfl rfl ?_
                                        refine vv_iload_n (i := 3) 838 hk dL_law_837 rfl rfl rfl ?_
                                        refine vv_iconst 839 hk dL_law_838 rfl ic_1 ?_
                                        refine vv_iadd 840 hk dL_law_839 rfl ?_
                                        refine vv_sld 841 hk hs dL_law_840 rfl (fun v146 => ?_)
                                        refine vv_sload_n (i := 0) 842 hk dL_law_841 rfl rfl rfl ?_
                                        refine vv_iload_n (i := 3) 843 hk dL_law_842 rfl rfl rfl ?_
                                        refine vv_iconst 844 hk dL_law_843 rfl ic_2 ?_
                                        refine vv_iadd 845 hk dL_law_844 rfl ?_
                                        refine vv_sld 846 hk hs dL_law_845 rfl (fun v147 => ?_)
                                        refine vv_jn (fun t148 => ((σ145, t1.2.2), 854, [some (.ref b), some (rf G 0), some (rf G 86), some (.int t1.1)], [(.int t148), (.int v146), (rf G 86), (.int v144)])) (fun t148 => ?_) (fun k854 hk854 => ?_)
                                        · skip
                                          refine vv_toM hs ?_
                                          refine vv_invI (st := [(.int v144)]) 857 (hkM hk) (heM hs) dL_law_854 rfl ml_L_86 cf_X12_forbids la_86 ci_12 (c_X12_forbids G v146 t148 t1.2.2) rfl rfl rfl rfl (fun v149 σ150 => vv_ofM hs ?_)
                                          refine vv_icmp_eq 1763 860 hk dL_law_857 rfl rfl ?_ ?_
                                          · skip
                                            exact vv_le (ll_s rfl (ll_s rfl (ll_s rfl (ll_s rfl ll_0)))) (hk1763 (σ145, σ150))
                                          · skip
                                            refine vv_iconst 861 hk dL_law_860 rfl ic_0 ?_
                                            exact hret _ _ _ dL_law_861
                                        · skip
                                          refine vv_if_eq 853 849 hk dL_law_846 rfl rfl ?_ ?_
                                          · skip
                                            refine vv_iconst 854 hk dL_law_853 rfl ic_0 ?_
                                            exact vv_le (ll_s rfl (ll_s rfl (ll_s rfl (ll_s rfl ll_0)))) (hk854 (0 : Int32))
                                          · skip
                                            refine vv_iconst 850 hk dL_law_849 rfl ic_1 ?_
                                            refine vv_goto 854 hk dL_law_850 rfl ?_
                                            exact vv_le (ll_s rfl (ll_s rfl (ll_s rfl (ll_s rfl ll_0)))) (hk854 (1 : Int32))
                                      · skip
                                        refine vv_if_eq 831 827 hk dL_law_824 rfl rfl ?_ ?_
                                        · skip
                                          refine vv_iconst 832 hk dL_law_831 rfl ic_0 ?_
                                          exact vv_le (ll_s rfl (ll_s rfl (ll_s rfl (ll_s rfl ll_0)))) (hk832 (0 : Int32))
                                        · skip
                                          refine vv_iconst 828 hk dL_law_827 rfl ic_1 ?_
                                          refine vv_goto 832 hk dL_law_828 rfl ?_
                                          exact vv_le (ll_s rfl (ll_s rfl (ll_s rfl (ll_s rfl ll_0)))) (hk832 (1 : Int32))
                                    · skip
                                      refine vv_case (fun h16 => ?_) (fun h16 => ?_)
                                      · skip
                                        refine vv_tabIn 862 hk dL_law_33 (by rw [h16]; decide +kernel) (by rw [h16]; decide +kernel) (off := 829) (by rw [h16]; decide +kernel) rfl ?_
                                        refine vv_aload_n (i := 1) 863 hk dL_law_862 rfl rfl rfl ?_
                                        refine vv_sload_n (i := 0) 864 hk dL_law_863 rfl rfl rfl ?_
                                        refine vv_iload_n (i := 3) 865 hk dL_law_864 rfl rfl rfl ?_
                                        refine vv_iconst 866 hk dL_law_865 rfl ic_1 ?_
                                        refine vv_iadd 867 hk dL_law_866 rfl ?_
                                        refine vv_sld 868 hk hs dL_law_867 rfl (fun v151 => ?_)
                                        refine vv_sload_n (i := 0) 869 hk dL_law_868 rfl rfl rfl ?_
                                        refine vv_iload_n (i := 3) 870 hk dL_law_869 rfl rfl rfl ?_
                                        refine vv_iconst 871 hk dL_law_870 rfl ic_2 ?_
                                        refine vv_iadd 872 hk dL_law_871 rfl ?_
                                        refine vv_sld 873 hk hs dL_law_872 rfl (fun v152 => ?_)
                                        refine vv_jn (fun t153 => ((t1.2.1, t1.2.2), 881, [some (.ref b), some (rf G 0), some (rf G 86), some (.int t1.1)], [(.int t153), (.int v151), (rf G 0)])) (fun t153 => ?_) (fun k881 hk881 => ?_)
                                        · skip
                                          refine vv_toC hs ?_
                                          refine vv_invI (st := []) 884 (hkC hk) (heC hs) dL_law_881 rfl ml_L_87 cf_X11_valve la_0 ci_11 (c_X11_valve G v151 t153 t1.2.1) rfl rfl rfl rfl (fun v154 σ155 => vv_ofC hs ?_)
                                          refine vv_aload_n (i := 2) 885 hk dL_law_884 rfl rfl rfl ?_
                                          refine vv_sload_n (i := 0) 886 hk dL_law_885 rfl rfl rfl ?_
                                          refine vv_iload_n (i := 3) 887 hk dL_law_886 rfl rfl rfl ?_
                                          refine vv_iconst 888 hk dL_law_887 rfl ic_1 ?_
                                          refine vv_iadd 889 hk dL_law_888 rfl ?_
                                          refine vv_sld 890 hk hs dL_law_889 rfl (fun v156 => ?_)
                                          refine vv_sload_n (i := 0) 891 hk dL_law_890 rfl rfl rfl ?_
                                          refine vv_iload_n (i := 3) 892 hk dL_law_891 rfl rfl rfl ?_
                                          refine vv_iconst 893 hk dL_law_892 rfl ic_2 ?_
                                          refine vv_iadd 894 hk dL_law_893 rfl ?_
                                          refine vv_sld 895 hk hs dL_law_894 rfl (fun v157 => ?_)
                                          refine vv_jn (fun t158 => ((σ155, t1.2.2), 903, [some (.ref b), some (rf G 0), some (rf G 86), some (.int t1.1)], [(.int t158), (.int v156), (rf G 86), (.int v154)])) (fun t158 => ?_) (fun k903 hk903 => ?_)
                                          · skip
                                            refine vv_toM hs ?_
                                            refine vv_invI (st := [(.int v154)]) 906 (hkM hk) (heM hs) dL_law_903 rfl ml_L_90 cf_X12_valve la_86 ci_12 (c_X12_valve G v156 t158 t1.2.2) rfl rfl rfl rfl (fun v159 σ160 => vv_ofM hs ?_)
                                            refine vv_icmp_eq 1763 909 hk dL_law_906 rfl rfl ?_ ?_
                                            · skip
                                              exact vv_le (ll_s rfl (ll_s rfl (ll_s rfl (ll_s rfl ll_0)))) (hk1763 (σ155, σ160))
                                            · skip
                                              refine vv_iconst 910 hk dL_law_909 rfl ic_0 ?_
                                              exact hret _ _ _ dL_law_910
                                          · skip
                                            refine vv_if_eq 902 898 hk dL_law_895 rfl rfl ?_ ?_
                                            · skip
                                              refine vv_iconst 903 hk dL_law_902 rfl ic_0 ?_
                                              exact vv_le (ll_s rfl (ll_s rfl (ll_s rfl (ll_s rfl ll_0)))) (hk903 (0 : Int32))
                                            · skip
                                              refine vv_iconst 899 hk dL_law_898 rfl ic_1 ?_
                                              refine vv_goto 903 hk dL_law_899 rfl ?_
                                              exact vv_le (ll_s rfl (ll_s rfl (ll_s rfl (ll_s rfl ll_0)))) (hk903 (1 : Int32))
                                        · skip
                                          refine vv_if_eq 880 876 hk dL_law_873 rfl rfl ?_ ?_
                                          · skip
                                            refine vv_iconst 881 hk dL_law_880 rfl ic_0 ?_
                                            exact vv_le (ll_s rfl (ll_s rfl (ll_s rfl (ll_s rfl ll_0)))) (hk881 (0 : Int32))
                                          · skip
                                            refine vv_iconst 877 hk dL_law_876 rfl ic_1 ?_
                                            refine vv_goto 881 hk dL_law_877 rfl ?_
                                            exact vv_le (ll_s rfl (ll_s rfl (ll_s rfl (ll_s rfl ll_0)))) (hk881 (1 : Int32))
                                      · skip
                                        refine vv_case (fun h17 => ?_) (fun h17 => ?_)
                                        · skip
                                          refine vv_tabIn 911 hk dL_law_33 (by rw [h17]; decide +kernel) (by rw [h17]; decide +kernel) (off := 878) (by rw [h17]; decide +kernel) rfl ?_
                                          refine vv_aload_n (i := 1) 912 hk dL_law_911 rfl rfl rfl ?_
                                          refine vv_sload_n (i := 0) 913 hk dL_law_912 rfl rfl rfl ?_
                                          refine vv_iload_n (i := 3) 914 hk dL_law_913 rfl rfl rfl ?_
                                          refine vv_iconst 915 hk dL_law_914 rfl ic_1 ?_
                                          refine vv_iadd 916 hk dL_law_915 rfl ?_
                                          refine vv_sld 917 hk hs dL_law_916 rfl (fun v161 => ?_)
                                          refine vv_sload_n (i := 0) 918 hk dL_law_917 rfl rfl rfl ?_
                                          refine vv_iload_n (i := 3) 919 hk dL_law_918 rfl rfl rfl ?_
                                          refine vv_iconst 920 hk dL_law_919 rfl ic_2 ?_
                                          refine vv_iadd 921 hk dL_law_920 rfl ?_
                                          refine vv_sld 922 hk hs dL_law_921 rfl (fun v162 => ?_)
                                          refine vv_jn (fun t163 => ((t1.2.1, t1.2.2), 930, [some (.ref b), some (rf G 0), some (rf G 86), some (.int t1.1)], [(.int t163), (.int v161), (rf G 0)])) (fun t163 => ?_) (fun k930 hk930 => ?_)
                                          · skip
                                            refine vv_toC hs ?_
                                            refine vv_invI (st := []) 933 (hkC hk) (heC hs) dL_law_930 rfl ml_L_91 cf_X11_start la_0 ci_11 (c_X11_start G v161 t163 t1.2.1) rfl rfl rfl rfl (fun v164 σ165 => vv_ofC hs ?_)
                                            refine vv_aload_n (i := 2) 934 hk dL_law_933 rfl rfl rfl ?_
                                            refine vv_sload_n (i := 0) 935 hk dL_law_934 rfl rfl rfl ?_
                                            refine vv_iload_n (i := 3) 936 hk dL_law_935 rfl rfl rfl ?_
                                            refine vv_iconst 937 hk dL_law_936 rfl ic_1 ?_
                                            refine vv_iadd 938 hk dL_law_937 rfl ?_
                                            refine vv_sld 939 hk hs dL_law_938 rfl (fun v166 => ?_)
                                            refine vv_sload_n (i := 0) 940 hk dL_law_939 rfl rfl rfl ?_
                                            refine vv_iload_n (i := 3) 941 hk dL_law_940 rfl rfl rfl ?_
                                            refine vv_iconst 942 hk dL_law_941 rfl ic_2 ?_
                                            refine vv_iadd 943 hk dL_law_942 rfl ?_
                                            refine vv_sld 944 hk hs dL_law_943 rfl (fun v167 => ?_)
                                            refine vv_jn (fun t168 => ((σ165, t1.2.2), 952, [some (.ref b), some (rf G 0), some (rf G 86), some (.int t1.1)], [(.int t168), (.int v166), (rf G 86), (.int v164)])) (fun t168 => ?_) (fun k952 hk952 => ?_)
                                            · skip
                                              refine vv_toM hs ?_
                                              refine vv_invI (st := [(.int v164)]) 955 (hkM hk) (heM hs) dL_law_952 rfl ml_L_94 cf_X12_start la_86 ci_12 (c_X12_start G v166 t168 t1.2.2) rfl rfl rfl rfl (fun v169 σ170 => vv_ofM hs ?_)
                                              refine vv_icmp_eq 1763 958 hk dL_law_955 rfl rfl ?_ ?_
                                              · skip
                                                exact vv_le (ll_s rfl (ll_s rfl (ll_s rfl (ll_s rfl ll_0)))) (hk1763 (σ165, σ170))
                                              · skip
                                                refine vv_iconst 959 hk dL_law_958 rfl ic_0 ?_
                                                exact hret _ _ _ dL_law_959
                                            · skip
                                              refine vv_if_eq 951 947 hk dL_law_944 rfl rfl ?_ ?_
                                              · skip
                                                refine vv_iconst 952 hk dL_law_951 rfl ic_0 ?_
                                                exact vv_le (ll_s rfl (ll_s rfl (ll_s rfl (ll_s rfl ll_0)))) (hk952 (0 : Int32))
                                              · skip
                                                refine vv_iconst 948 hk dL_law_947 rfl ic_1 ?_
                                                refine vv_goto 952 hk dL_law_948 rfl ?_
                                                exact vv_le (ll_s rfl (ll_s rfl (ll_s rfl (ll_s rfl ll_0)))) (hk952 (1 : Int32))
                                          · skip
                                            refine vv_if_eq 929 925 hk dL_law_922 rfl rfl ?_ ?_
                                            · skip
                                              refine vv_iconst 930 hk dL_law_929 rfl ic_0 ?_
                                              exact vv_le (ll_s rfl (ll_s rfl (ll_s rfl (ll_s rfl ll_0)))) (hk930 (0 : Int32))
                                            · skip
                                              refine vv_iconst 926 hk dL_law_925 rfl ic_1 ?_
                                              refine vv_goto 930 hk dL_law_926 rfl ?_
                                              exact vv_le (ll_s rfl (ll_s rfl (ll_s rfl (ll_s rfl ll_0)))) (hk930 (1 : Int32))
                                        · skip
                                          refine vv_case (fun h18 => ?_) (fun h18 => ?_)
                                          · skip
                                            refine vv_tabIn 960 hk dL_law_33 (by rw [h18]; decide +kernel) (by rw [h18]; decide +kernel) (off := 927) (by rw [h18]; decide +kernel) rfl ?_
                                            refine vv_aload_n (i := 1) 961 hk dL_law_960 rfl rfl rfl ?_
                                            refine vv_sload_n (i := 0) 962 hk dL_law_961 rfl rfl rfl ?_
                                            refine vv_iload_n (i := 3) 963 hk dL_law_962 rfl rfl rfl ?_
                                            refine vv_iconst 964 hk dL_law_963 rfl ic_1 ?_
                                            refine vv_iadd 965 hk dL_law_964 rfl ?_
                                            refine vv_sld 966 hk hs dL_law_965 rfl (fun v171 => ?_)
                                            refine vv_toC hs ?_
                                            refine vv_invI (st := []) 969 (hkC hk) (heC hs) dL_law_966 rfl ml_L_95 cf_X11_warmUp la_0 ci_11 (c_X11_warmUp G v171 t1.2.1) rfl rfl rfl rfl (fun v172 σ173 => vv_ofC hs ?_)
                                            refine vv_aload_n (i := 2) 970 hk dL_law_969 rfl rfl rfl ?_
                                            refine vv_sload_n (i := 0) 971 hk dL_law_970 rfl rfl rfl ?_
                                            refine vv_iload_n (i := 3) 972 hk dL_law_971 rfl rfl rfl ?_
                                            refine vv_iconst 973 hk dL_law_972 rfl ic_1 ?_
                                            refine vv_iadd 974 hk dL_law_973 rfl ?_
                                            refine vv_sld 975 hk hs dL_law_974 rfl (fun v174 => ?_)
                                            refine vv_toM hs ?_
                                            refine vv_invI (st := [(.int v172)]) 978 (hkM hk) (heM hs) dL_law_975 rfl ml_L_98 cf_X12_warmUp la_86 ci_12 (c_X12_warmUp G v174 t1.2.2) rfl rfl rfl rfl (fun v175 σ176 => vv_ofM hs ?_)
                                            refine vv_icmp_eq 1763 981 hk dL_law_978 rfl rfl ?_ ?_
                                            · skip
                                              exact vv_le (ll_s rfl (ll_s rfl (ll_s rfl (ll_s rfl ll_0)))) (hk1763 (σ173, σ176))
                                            · skip
                                              refine vv_iconst 982 hk dL_law_981 rfl ic_0 ?_
                                              exact hret _ _ _ dL_law_982
                                          · skip
                                            refine vv_case (fun h19 => ?_) (fun h19 => ?_)
                                            · skip
                                              refine vv_tabIn 983 hk dL_law_33 (by rw [h19]; decide +kernel) (by rw [h19]; decide +kernel) (off := 950) (by rw [h19]; decide +kernel) rfl ?_
                                              refine vv_aload_n (i := 1) 984 hk dL_law_983 rfl rfl rfl ?_
                                              refine vv_toC hs ?_
                                              refine vv_invI (st := []) 987 (hkC hk) (heC hs) dL_law_984 rfl ml_L_99 cf_X11_undo la_0 ci_11 (c_X11_undo G t1.2.1) rfl rfl rfl rfl (fun v177 σ178 => vv_ofC hs ?_)
                                              refine vv_aload_n (i := 2) 988 hk dL_law_987 rfl rfl rfl ?_
                                              refine vv_toM hs ?_
                                              refine vv_invI (st := [(.int v177)]) 991 (hkM hk) (heM hs) dL_law_988 rfl ml_L_102 cf_X12_undo la_86 ci_12 (c_X12_undo G t1.2.2) rfl rfl rfl rfl (fun v179 σ180 => vv_ofM hs ?_)
                                              refine vv_icmp_eq 1763 994 hk dL_law_991 rfl rfl ?_ ?_
                                              · skip
                                                exact vv_le (ll_s rfl (ll_s rfl (ll_s rfl (ll_s rfl ll_0)))) (hk1763 (σ178, σ180))
                                              · skip
                                                refine vv_iconst 995 hk dL_law_994 rfl ic_0 ?_
                                                exact hret _ _ _ dL_law_995
                                            · skip
                                              refine vv_case (fun h20 => ?_) (fun h20 => ?_)
                                              · skip
                                                refine vv_tabIn 996 hk dL_law_33 (by rw [h20]; decide +kernel) (by rw [h20]; decide +kernel) (off := 963) (by rw [h20]; decide +kernel) rfl ?_
                                                refine vv_aload_n (i := 1) 997 hk dL_law_996 rfl rfl rfl ?_
                                                refine vv_toC hs ?_
                                                refine vv_invI (st := []) 1000 (hkC hk) (heC hs) dL_law_997 rfl ml_L_103 cf_X11_redo la_0 ci_11 (c_X11_redo G t1.2.1) rfl rfl rfl rfl (fun v181 σ182 => vv_ofC hs ?_)
                                                refine vv_aload_n (i := 2) 1001 hk dL_law_1000 rfl rfl rfl ?_
                                                refine vv_toM hs ?_
                                                refine vv_invI (st := [(.int v181)]) 1004 (hkM hk) (heM hs) dL_law_1001 rfl ml_L_106 cf_X12_redo la_86 ci_12 (c_X12_redo G t1.2.2) rfl rfl rfl rfl (fun v183 σ184 => vv_ofM hs ?_)
                                                refine vv_icmp_eq 1763 1007 hk dL_law_1004 rfl rfl ?_ ?_
                                                · skip
                                                  exact vv_le (ll_s rfl (ll_s rfl (ll_s rfl (ll_s rfl ll_0)))) (hk1763 (σ182, σ184))
                                                · skip
                                                  refine vv_iconst 1008 hk dL_law_1007 rfl ic_0 ?_
                                                  exact hret _ _ _ dL_law_1008
                                              · skip
                                                refine vv_case (fun h21 => ?_) (fun h21 => ?_)
                                                · skip
                                                  refine vv_tabIn 1009 hk dL_law_33 (by rw [h21]; decide +kernel) (by rw [h21]; decide +kernel) (off := 976) (by rw [h21]; decide +kernel) rfl ?_
                                                  refine vv_aload_n (i := 1) 1010 hk dL_law_1009 rfl rfl rfl ?_
                                                  refine vv_sload_n (i := 0) 1011 hk dL_law_1010 rfl rfl rfl ?_
                                                  refine vv_iload_n (i := 3) 1012 hk dL_law_1011 rfl rfl rfl ?_
                                                  refine vv_iconst 1013 hk dL_law_1012 rfl ic_1 ?_
                                                  refine vv_iadd 1014 hk dL_law_1013 rfl ?_
                                                  refine vv_sld 1015 hk hs dL_law_1014 rfl (fun v185 => ?_)
                                                  refine vv_sload_n (i := 0) 1016 hk dL_law_1015 rfl rfl rfl ?_
                                                  refine vv_iload_n (i := 3) 1017 hk dL_law_1016 rfl rfl rfl ?_
                                                  refine vv_iconst 1018 hk dL_law_1017 rfl ic_2 ?_
                                                  refine vv_iadd 1019 hk dL_law_1018 rfl ?_
                                                  refine vv_sld 1020 hk hs dL_law_1019 rfl (fun v186 => ?_)
                                                  refine vv_toC hs ?_
                                                  refine vv_invI (st := []) 1023 (hkC hk) (heC hs) dL_law_1020 rfl ml_L_107 cf_X11_order la_0 ci_11 (c_X11_order G v185 v186 t1.2.1) rfl rfl rfl rfl (fun v187 σ188 => vv_ofC hs ?_)
                                                  refine vv_aload_n (i := 2) 1024 hk dL_law_1023 rfl rfl rfl ?_
                                                  refine vv_sload_n (i := 0) 1025 hk dL_law_1024 rfl rfl rfl ?_
                                                  refine vv_iload_n (i := 3) 1026 hk dL_law_1025 rfl rfl rfl ?_
                                                  refine vv_iconst 1027 hk dL_law_1026 rfl ic_1 ?_
                                                  refine vv_iadd 1028 hk dL_law_1027 rfl ?_
                                                  refine vv_sld 1029 hk hs dL_law_1028 rfl (fun v189 => ?_)
                                                  refine vv_sload_n (i := 0) 1030 hk dL_law_1029 rfl rfl rfl ?_
                                                  refine vv_iload_n (i := 3) 1031 hk dL_law_1030 rfl rfl rfl ?_
                                                  refine vv_iconst 1032 hk dL_law_1031 rfl ic_2 ?_
                                                  refine vv_iadd 1033 hk dL_law_1032 rfl ?_
                                                  refine vv_sld 1034 hk hs dL_law_1033 rfl (fun v190 => ?_)
                                                  refine vv_toM hs ?_
                                                  refine vv_invI (st := [(.int v187)]) 1037 (hkM hk) (heM hs) dL_law_1034 rfl ml_L_110 cf_X12_order la_86 ci_12 (c_X12_order G v189 v190 t1.2.2) rfl rfl rfl rfl (fun v191 σ192 => vv_ofM hs ?_)
                                                  refine vv_icmp_eq 1763 1040 hk dL_law_1037 rfl rfl ?_ ?_
                                                  · skip
                                                    exact vv_le (ll_s rfl (ll_s rfl (ll_s rfl (ll_s rfl ll_0)))) (hk1763 (σ188, σ192))
                                                  · skip
                                                    refine vv_iconst 1041 hk dL_law_1040 rfl ic_0 ?_
                                                    exact hret _ _ _ dL_law_1041
                                                · skip
                                                  refine vv_case (fun h22 => ?_) (fun h22 => ?_)
                                                  · skip
                                                    refine vv_tabIn 1042 hk dL_law_33 (by rw [h22]; decide +kernel) (by rw [h22]; decide +kernel) (off := 1009) (by rw [h22]; decide +kernel) rfl ?_
                                                    refine vv_aload_n (i := 1) 1043 hk dL_law_1042 rfl rfl rfl ?_
                                                    refine vv_sload_n (i := 0) 1044 hk dL_law_1043 rfl rfl rfl ?_
                                                    refine vv_iload_n (i := 3) 1045 hk dL_law_1044 rfl rfl rfl ?_
                                                    refine vv_iconst 1046 hk dL_law_1045 rfl ic_1 ?_
                                                    refine vv_iadd 1047 hk dL_law_1046 rfl ?_
                                                    refine vv_sld 1048 hk hs dL_law_1047 rfl (fun v193 => ?_)
                                                    refine vv_sload_n (i := 0) 1049 hk dL_law_1048 rfl rfl rfl ?_
                                                    refine vv_iload_n (i := 3) 1050 hk dL_law_1049 rfl rfl rfl ?_
                                                    refine vv_iconst 1051 hk dL_law_1050 rfl ic_2 ?_
                                                    refine vv_iadd 1052 hk dL_law_1051 rfl ?_
                                                    refine vv_sld 1053 hk hs dL_law_1052 rfl (fun v194 => ?_)
                                                    refine vv_sload_n (i := 0) 1054 hk dL_law_1053 rfl rfl rfl ?_
                                                    refine vv_iload_n (i := 3) 1055 hk dL_law_1054 rfl rfl rfl ?_
                                                    refine vv_iconst 1056 hk dL_law_1055 rfl ic_3 ?_
                                                    refine vv_iadd 1057 hk dL_law_1056 rfl ?_
                                                    refine vv_sld 1058 hk hs dL_law_1057 rfl (fun v195 => ?_)
                                                    refine vv_toC hs ?_
                                                    refine vv_invJ (st := []) 1061 (hkC hk) (heC hs) dL_law_1058 rfl ml_L_111 cf_X11_rest la_0 ci_11 (c_X11_rest G v193 v194 v195 t1.2.1) rfl rfl rfl rfl (fun v196 σ197 => vv_ofC hs ?_)
                                                    refine vv_aload_n (i := 2) 1062 hk dL_law_1061 rfl rfl rfl ?_
                                                    refine vv_sload_n (i := 0) 1063 hk dL_law_1062 rfl rfl rfl ?_
                                                    refine vv_iload_n (i := 3) 1064 hk dL_law_1063 rfl rfl rfl ?_
                                                    refine vv_iconst 1065 hk dL_law_1064 rfl ic_1 ?_
                                                    refine vv_iadd 1066 hk dL_law_1065 rfl ?_
                                                    refine vv_sld 1067 hk hs dL_law_1066 rfl (fun v198 => ?_)
                                                    refine vv_sload_n (i := 0) 1068 hk dL_law_1067 rfl rfl rfl ?_
                                                    refine vv_iload_n (i := 3) 1069 hk dL_law_1068 rfl rfl rfl ?_
                                                    refine vv_iconst 1070 hk dL_law_1069 rfl ic_2 ?_
                                                    refine vv_iadd 1071 hk dL_law_1070 rfl ?_
                                                    refine vv_sld 1072 hk hs dL_law_1071 rfl (fun v199 => ?_)
                                                    refine vv_sload_n (i := 0) 1073 hk dL_law_1072 rfl rfl rfl ?_
                                                    refine vv_iload_n (i := 3) 1074 hk dL_law_1073 rfl rfl rfl ?_
                                                    refine vv_iconst 1075 hk dL_law_1074 rfl ic_3 ?_
                                                    refine vv_iadd 1076 hk dL_law_1075 rfl ?_
                                                    refine vv_sld 1077 hk hs dL_law_1076 rfl (fun v200 => ?_)
                                                    refine vv_toM hs ?_
                                                    refine vv_invJ (st := [(.long v196)]) 1080 (hkM hk) (heM hs) dL_law_1077 rfl ml_L_115 cf_X12_rest la_86 ci_12 (c_X12_rest G v198 v199 v200 t1.2.2) rfl rfl rfl rfl (fun v201 σ202 => vv_ofM hs ?_)
                                                    refine vv_lcmp 1081 hk dL_law_1080 rfl ?_
                                                    refine vv_if_eq 1763 1084 hk dL_law_1081 rfl rfl ?_ ?_
                                                    · skip
                                                      exact vv_le (ll_s rfl (ll_s rfl (ll_s rfl (ll_s rfl ll_0)))) (hk1763 (σ197, σ202))
                                                    · skip
                                                      refine vv_iconst 1085 hk dL_law_1084 rfl ic_0 ?_
                                                      exact hret _ _ _ dL_law_1085
                                                  · skip
                                                    refine vv_case (fun h23 => ?_) (fun h23 => ?_)
                                                    · skip
                                                      refine vv_tabIn 1086 hk dL_law_33 (by rw [h23]; decide +kernel) (by rw [h23]; decide +kernel) (off := 1053) (by rw [h23]; decide +kernel) rfl ?_
                                                      refine vv_aload_n (i := 1) 1087 hk dL_law_1086 rfl rfl rfl ?_
                                                      refine vv_sload_n (i := 0) 1088 hk dL_law_1087 rfl rfl rfl ?_
                                                      refine vv_iload_n (i := 3) 1089 hk dL_law_1088 rfl rfl rfl ?_
                                                      refine vv_iconst 1090 hk dL_law_1089 rfl ic_1 ?_
                                                      refine vv_iadd 1091 hk dL_law_1090 rfl ?_
                                                      refine vv_sld 1092 hk hs dL_law_1091 rfl (fun v203 => ?_)
                                                      refine vv_sload_n (i := 0) 1093 hk dL_law_1092 rfl rfl rfl ?_
                                                      refine vv_iload_n (i := 3) 1094 hk dL_law_1093 rfl rfl rfl ?_
                                                      refine vv_iconst 1095 hk dL_law_1094 rfl ic_2 ?_
                                                      refine vv_iadd 1096 hk dL_law_1095 rfl ?_
                                                      refine vv_sld 1097 hk hs dL_law_1096 rfl (fun v204 => ?_)
                                                      refine vv_sload_n (i := 0) 1098 hk dL_law_1097 rfl rfl rfl ?_
                                                      refine vv_iload_n (i := 3) 1099 hk dL_law_1098 rfl rfl rfl ?_
                                                      refine vv_iconst 1100 hk dL_law_1099 rfl ic_3 ?_
                                                      refine vv_iadd 1101 hk dL_law_1100 rfl ?_
                                                      refine vv_sld 1102 hk hs dL_law_1101 rfl (fun v205 => ?_)
                                                      refine vv_jn (fun t206 => ((t1.2.1, t1.2.2), 1110, [some (.ref b), some (rf G 0), some (rf G 86), some (.int t1.1)], [(.int t206), (.int v204), (.int v203), (rf G 0)])) (fun t206 => ?_) (fun k1110 hk1110 => ?_)
                                                      · skip
                                                        refine vv_toC hs ?_
                                                        refine vv_invI (st := []) 1113 (hkC hk) (heC hs) dL_law_1110 rfl ml_L_116 cf_X11_square la_0 ci_11 (c_X11_square G v203 v204 t206 t1.2.1) rfl rfl rfl rfl (fun v207 σ208 => vv_ofC hs ?_)
                                                        refine vv_aload_n (i := 2) 1114 hk dL_law_1113 rfl rfl rfl ?_
                                                        refine vv_sload_n (i := 0) 1115 hk dL_law_1114 rfl rfl rfl ?_
                                                        refine vv_iload_n (i := 3) 1116 hk dL_law_1115 rfl rfl rfl ?_
                                                        refine vv_iconst 1117 hk dL_law_1116 rfl ic_1 ?_
                                                        refine vv_iadd 1118 hk dL_law_1117 rfl ?_
                                                        refine vv_sld 1119 hk hs dL_law_1118 rfl (fun v209 => ?_)
                                                        refine vv_sload_n (i := 0) 1120 hk dL_law_1119 rfl rfl rfl ?_
                                                        refine vv_iload_n (i := 3) 1121 hk dL_law_1120 rfl rfl rfl ?_
                                                        refine vv_iconst 1122 hk dL_law_1121 rfl ic_2 ?_
                                                        refine vv_iadd 1123 hk dL_law_1122 rfl ?_
                                                        refine vv_sld 1124 hk hs dL_law_1123 rfl (fun v210 => ?_)
                                                        refine vv_sload_n (i := 0) 1125 hk dL_law_1124 rfl rfl rfl ?_
                                                        refine vv_iload_n (i := 3) 1126 hk dL_law_1125 rfl rfl rfl ?_
                                                        refine vv_iconst 1127 hk dL_law_1126 rfl ic_3 ?_
                                                        refine vv_iadd 1128 hk dL_law_1127 rfl ?_
                                                        refine vv_sld 1129 hk hs dL_law_1128 rfl (fun v211 => ?_)
                                                        refine vv_jn (fun t212 => ((σ208, t1.2.2), 1137, [some (.ref b), some (rf G 0), some (rf G 86), some (.int t1.1)], [(.int t212), (.int v210), (.int v209), (rf G 86), (.int v207)])) (fun t212 => ?_) (fun k1137 hk1137 => ?_)
                                                        · skip
                                                          refine vv_toM hs ?_
                                                          refine vv_invI (st := [(.int v207)]) 1140 (hkM hk) (heM hs) dL_law_1137 rfl ml_L_120 cf_X12_square la_86 ci_12 (c_X12_square G v209 v210 t212 t1.2.2) rfl rfl rfl rfl (fun v213 σ214 => vv_ofM hs ?_)
                                                          refine vv_icmp_eq 1763 1143 hk dL_law_1140 rfl rfl ?_ ?_
                                                          · skip
                                                            exact vv_le (ll_s rfl (ll_s rfl (ll_s rfl (ll_s rfl ll_0)))) (hk1763 (σ208, σ214))
                                                          · skip
                                                            refine vv_iconst 1144 hk dL_law_1143 rfl ic_0 ?_
                                                            exact hret _ _ _ dL_law_1144
                                                        · skip
                                                          refine vv_if_eq 1136 1132 hk dL_law_1129 rfl rfl ?_ ?_
                                                          · skip
                                                            refine vv_iconst 1137 hk dL_law_1136 rfl ic_0 ?_
                                                            exact vv_le (ll_s rfl (ll_s rfl (ll_s rfl (ll_s rfl ll_0)))) (hk1137 (0 : Int32))
                                                          · skip
                                                            refine vv_iconst 1133 hk dL_law_1132 rfl ic_1 ?_
                                                            refine vv_goto 1137 hk dL_law_1133 rfl ?_
                                                            exact vv_le (ll_s rfl (ll_s rfl (ll_s rfl (ll_s rfl ll_0)))) (hk1137 (1 : Int32))
                                                      · skip
                                                        refine vv_if_eq 1109 1105 hk dL_law_1102 rfl rfl ?_ ?_
                                                        · skip
                                                          refine vv_iconst 1110 hk dL_law_1109 rfl ic_0 ?_
                                                          exact vv_le (ll_s rfl (ll_s rfl (ll_s rfl (ll_s rfl ll_0)))) (hk1110 (0 : Int32))
                                                        · skip
                                                          refine vv_iconst 1106 hk dL_law_1105 rfl ic_1 ?_
                                                          refine vv_goto 1110 hk dL_law_1106 rfl ?_
                                                          exact vv_le (ll_s rfl (ll_s rfl (ll_s rfl (ll_s rfl ll_0)))) (hk1110 (1 : Int32))
                                                    · skip
                                                      refine vv_case (fun h24 => ?_) (fun h24 => ?_)
                                                      · skip
                                                        refine vv_tabIn 1145 hk dL_law_33 (by rw [h24]; decide +kernel) (by rw [h24]; decide +kernel) (off := 1112) (by rw [h24]; decide +kernel) rfl ?_
                                                        refine vv_aload_n (i := 1) 1146 hk dL_law_1145 rfl rfl rfl ?_
                                                        refine vv_sload_n (i := 0) 1147 hk dL_law_1146 rfl rfl rfl ?_
                                                        refine vv_iload_n (i := 3) 1148 hk dL_law_1147 rfl rfl rfl ?_
                                                        refine vv_iconst 1149 hk dL_law_1148 rfl ic_1 ?_
                                                        refine vv_iadd 1150 hk dL_law_1149 rfl ?_
                                                        refine vv_sld 1151 hk hs dL_law_1150 rfl (fun v215 => ?_)
                                                        refine vv_sload_n (i := 0) 1152 hk dL_law_1151 rfl rfl rfl ?_
                                                        refine vv_iload_n (i := 3) 1153 hk dL_law_1152 rfl rfl rfl ?_
                                                        refine vv_iconst 1154 hk dL_law_1153 rfl ic_2 ?_
                                                        refine vv_iadd 1155 hk dL_law_1154 rfl ?_
                                                        refine vv_sld 1156 hk hs dL_law_1155 rfl (fun v216 => ?_)
                                                        refine vv_sload_n (i := 0) 1157 hk dL_law_1156 rfl rfl rfl ?_
                                                        refine vv_iload_n (i := 3) 1158 hk dL_law_1157 rfl rfl rfl ?_
                                                        refine vv_iconst 1159 hk dL_law_1158 rfl ic_3 ?_
                                                        refine vv_iadd 1160 hk dL_law_1159 rfl ?_
                                                        refine vv_sld 1161 hk hs dL_law_1160 rfl (fun v217 => ?_)
                                                        refine vv_toC hs ?_
                                                        refine vv_invI (st := []) 1164 (hkC hk) (heC hs) dL_law_1161 rfl ml_L_121 cf_X11_walks la_0 ci_11 (c_X11_walks G v215 v216 v217 t1.2.1) rfl rfl rfl rfl (fun v218 σ219 => vv_ofC hs ?_)
                                                        refine vv_aload_n (i := 2) 1165 hk dL_law_1164 rfl rfl rfl ?_
                                                        refine vv_sload_n (i := 0) 1166 hk dL_law_1165 rfl rfl rfl ?_
                                                        refine vv_iload_n (i := 3) 1167 hk dL_law_1166 rfl rfl rfl ?_
                                                        refine vv_iconst 1168 hk dL_law_1167 rfl ic_1 ?_
                                                        refine vv_iadd 1169 hk dL_law_1168 rfl ?_
                                                        refine vv_sld 1170 hk hs dL_law_1169 rfl (fun v220 => ?_)
                                                        refine vv_sload_n (i := 0) 1171 hk dL_law_1170 rfl rfl rfl ?_
                                                        refine vv_iload_n (i := 3) 1172 hk dL_law_1171 rfl rfl rfl ?_
                                                        refine vv_iconst 1173 hk dL_law_1172 rfl ic_2 ?_
                                                        refine vv_iadd 1174 hk dL_law_1173 rfl ?_
                                                        refine vv_sld 1175 hk hs dL_law_1174 rfl (fun v221 => ?_)
                                                        refine vv_sload_n (i := 0) 1176 hk dL_law_1175 rfl rfl rfl ?_
                                                        refine vv_iload_n (i := 3) 1177 hk dL_law_1176 rfl rfl rfl ?_
                                                        refine vv_iconst 1178 hk dL_law_1177 rfl ic_3 ?_
                                                        refine vv_iadd 1179 hk dL_law_1178 rfl ?_
                                                        refine vv_sld 1180 hk hs dL_law_1179 rfl (fun v222 => ?_)
                                                        refine vv_toM hs ?_
                                                        refine vv_invI (st := [(.int v218)]) 1183 (hkM hk) (heM hs) dL_law_1180 rfl ml_L_124 cf_X12_walks la_86 ci_12 (c_X12_walks G v220 v221 v222 t1.2.2) rfl rfl rfl rfl (fun v223 σ224 => vv_ofM hs ?_)
                                                        refine vv_icmp_eq 1763 1186 hk dL_law_1183 rfl rfl ?_ ?_
                                                        · skip
                                                          exact vv_le (ll_s rfl (ll_s rfl (ll_s rfl (ll_s rfl ll_0)))) (hk1763 (σ219, σ224))
                                                        · skip
                                                          refine vv_iconst 1187 hk dL_law_1186 rfl ic_0 ?_
                                                          exact hret _ _ _ dL_law_1187
                                                      · skip
                                                        refine vv_case (fun h25 => ?_) (fun h25 => ?_)
                                                        · skip
                                                          refine vv_tabIn 1188 hk dL_law_33 (by rw [h25]; decide +kernel) (by rw [h25]; decide +kernel) (off := 1155) (by rw [h25]; decide +kernel) rfl ?_
                                                          refine vv_aload_n (i := 1) 1189 hk dL_law_1188 rfl rfl rfl ?_
                                                          refine vv_sload_n (i := 0) 1190 hk dL_law_1189 rfl rfl rfl ?_
                                                          refine vv_iload_n (i := 3) 1191 hk dL_law_1190 rfl rfl rfl ?_
                                                          refine vv_iconst 1192 hk dL_law_1191 rfl ic_1 ?_
                                                          refine vv_iadd 1193 hk dL_law_1192 rfl ?_
                                                          refine vv_sld 1194 hk hs dL_law_1193 rfl (fun v225 => ?_)
                                                          refine vv_sload_n (i := 0) 1195 hk dL_law_1194 rfl rfl rfl ?_
                                                          refine vv_iload_n (i := 3) 1196 hk dL_law_1195 rfl rfl rfl ?_
                                                          refine vv_iconst 1197 hk dL_law_1196 rfl ic_2 ?_
                                                          refine vv_iadd 1198 hk dL_law_1197 rfl ?_
                                                          refine vv_sld 1199 hk hs dL_law_1198 rfl (fun v226 => ?_)
                                                          refine vv_sload_n (i := 0) 1200 hk dL_law_1199 rfl rfl rfl ?_
                                                          refine vv_iload_n (i := 3) 1201 hk dL_law_1200 rfl rfl rfl ?_
                                                          refine vv_iconst 1202 hk dL_law_1201 rfl ic_3 ?_
                                                          refine vv_iadd 1203 hk dL_law_1202 rfl ?_
                                                          refine vv_sld 1204 hk hs dL_law_1203 rfl (fun v227 => ?_)
                                                          refine vv_toC hs ?_
                                                          refine vv_invI (st := []) 1207 (hkC hk) (heC hs) dL_law_1204 rfl ml_L_125 cf_X11_sees la_0 ci_11 (c_X11_sees G v225 v226 v227 t1.2.1) rfl rfl rfl rfl (fun v228 σ229 => vv_ofC hs ?_)
                                                          refine vv_aload_n (i := 2) 1208 hk dL_law_1207 rfl rfl rfl ?_
                                                          refine vv_sload_n (i := 0) 1209 hk dL_law_1208 rfl rfl rfl ?_
                                                          refine vv_iload_n (i := 3) 1210 hk dL_law_1209 rfl rfl rfl ?_
                                                          refine vv_iconst 1211 hk dL_law_1210 rfl ic_1 ?_
                                                          refine vv_iadd 1212 hk dL_law_1211 rfl ?_
                                                          refine vv_sld 1213 hk hs dL_law_1212 rfl (fun v230 => ?_)
                                                          refine vv_sload_n (i := 0) 1214 hk dL_law_1213 rfl rfl rfl ?_
                                                          refine vv_iload_n (i := 3) 1215 hk dL_law_1214 rfl rfl rfl ?_
                                                          refine vv_iconst 1216 hk dL_law_1215 rfl ic_2 ?_
                                                          refine vv_iadd 1217 hk dL_law_1216 rfl ?_
                                                          refine vv_sld 1218 hk hs dL_law_1217 rfl (fun v231 => ?_)
                                                          refine vv_sload_n (i := 0) 1219 hk dL_law_1218 rfl rfl rfl ?_
                                                          refine vv_iload_n (i := 3) 1220 hk dL_law_1219 rfl rfl rfl ?_
                                                          refine vv_iconst 1221 hk dL_law_1220 rfl ic_3 ?_
                                                          refine vv_iadd 1222 hk dL_law_1221 rfl ?_
                                                          refine vv_sld 1223 hk hs dL_law_1222 rfl (fun v232 => ?_)
                                                          refine vv_toM hs ?_
                                                          refine vv_invI (st := [(.int v228)]) 1226 (hkM hk) (heM hs) dL_law_1223 rfl ml_L_128 cf_X12_sees la_86 ci_12 (c_X12_sees G v230 v231 v232 t1.2.2) rfl rfl rfl rfl (fun v233 σ234 => vv_ofM hs ?_)
                                                          refine vv_icmp_eq 1763 1229 hk dL_law_1226 rfl rfl ?_ ?_
                                                          · skip
                                                            exact vv_le (ll_s rfl (ll_s rfl (ll_s rfl (ll_s rfl ll_0)))) (hk1763 (σ229, σ234))
                                                          · skip
                                                            refine vv_iconst 1230 hk dL_law_1229 rfl ic_0 ?_
                                                            exact hret _ _ _ dL_law_1230
                                                        · skip
                                                          refine vv_case (fun h26 => ?_) (fun h26 => ?_)
                                                          · skip
                                                            refine vv_tabIn 1231 hk dL_law_33 (by rw [h26]; decide +kernel) (by rw [h26]; decide +kernel) (off := 1198) (by rw [h26]; decide +kernel) rfl ?_
                                                            refine vv_aload_n (i := 1) 1232 hk dL_law_1231 rfl rfl rfl ?_
                                                            refine vv_sload_n (i := 0) 1233 hk dL_law_1232 rfl rfl rfl ?_
                                                            refine vv_iload_n (i := 3) 1234 hk dL_law_1233 rfl rfl rfl ?_
                                                            refine vv_iconst 1235 hk dL_law_1234 rfl ic_1 ?_
                                                            refine vv_iadd 1236 hk dL_law_1235 rfl ?_
                                                            refine vv_sld 1237 hk hs dL_law_1236 rfl (fun v235 => ?_)
                                                            refine vv_sload_n (i := 0) 1238 hk dL_law_1237 rfl rfl rfl ?_
                                                            refine vv_iload_n (i := 3) 1239 hk dL_law_1238 rfl rfl rfl ?_
                                                            refine vv_iconst 1240 hk dL_law_1239 rfl ic_2 ?_
                                                            refine vv_iadd 1241 hk dL_law_1240 rfl ?_
                                                            refine vv_sld 1242 hk hs dL_law_1241 rfl (fun v236 => ?_)
                                                            refine vv_toC hs ?_
                                                            refine vv_invI (st := []) 1245 (hkC hk) (heC hs) dL_law_1242 rfl ml_L_129 cf_X11_reads la_0 ci_11 (c_X11_reads G v235 v236 t1.2.1) rfl rfl rfl rfl (fun v237 σ238 => vv_ofC hs ?_)
                                                            refine vv_aload_n (i := 2) 1246 hk dL_law_1245 rfl rfl rfl ?_
                                                            refine vv_sload_n (i := 0) 1247 hk dL_law_1246 rfl rfl rfl ?_
                                                            refine vv_iload_n (i := 3) 1248 hk dL_law_1247 rfl rfl rfl ?_
                                                            refine vv_iconst 1249 hk dL_law_1248 rfl ic_1 ?_
                                                            refine vv_iadd 1250 hk dL_law_1249 rfl ?_
                                                            refine vv_sld 1251 hk hs dL_law_1250 rfl (fun v239 => ?_)
                                                            refine vv_sload_n (i := 0) 1252 hk dL_law_1251 rfl rfl rfl ?_
                                                            refine vv_iload_n (i := 3) 1253 hk dL_law_1252 rfl rfl rfl ?_
                                                            refine vv_iconst 1254 hk dL_law_1253 rfl ic_2 ?_
                                                            refine vv_iadd 1255 hk dL_law_1254 rfl ?_
                                                            refine vv_sld 1256 hk hs dL_law_1255 rfl (fun v240 => ?_)
                                                            refine vv_toM hs ?_
                                                            refine vv_invI (st := [(.int v237)]) 1259 (hkM hk) (heM hs) dL_law_1256 rfl ml_L_132 cf_X12_reads la_86 ci_12 (c_X12_reads G v239 v240 t1.2.2) rfl rfl rfl rfl (fun v241 σ242 => vv_ofM hs ?_)
                                                            refine vv_icmp_eq 1763 1262 hk dL_law_1259 rfl rfl ?_ ?_
                                                            · skip
                                                              exact vv_le (ll_s rfl (ll_s rfl (ll_s rfl (ll_s rfl ll_0)))) (hk1763 (σ238, σ242))
                                                            · skip
                                                              refine vv_iconst 1263 hk dL_law_1262 rfl ic_0 ?_
                                                              exact hret _ _ _ dL_law_1263
                                                          · skip
                                                            refine vv_case (fun h27 => ?_) (fun h27 => ?_)
                                                            · skip
                                                              refine vv_tabIn 1264 hk dL_law_33 (by rw [h27]; decide +kernel) (by rw [h27]; decide +kernel) (off := 1231) (by rw [h27]; decide +kernel) rfl ?_
                                                              refine vv_aload_n (i := 1) 1265 hk dL_law_1264 rfl rfl rfl ?_
                                                              refine vv_sload_n (i := 0) 1266 hk dL_law_1265 rfl rfl rfl ?_
                                                              refine vv_iload_n (i := 3) 1267 hk dL_law_1266 rfl rfl rfl ?_
                                                              refine vv_iconst 1268 hk dL_law_1267 rfl ic_1 ?_
                                                              refine vv_iadd 1269 hk dL_law_1268 rfl ?_
                                                              refine vv_sld 1270 hk hs dL_law_1269 rfl (fun v243 => ?_)
                                                              refine vv_sload_n (i := 0) 1271 hk dL_law_1270 rfl rfl rfl ?_
                                                              refine vv_iload_n (i := 3) 1272 hk dL_law_1271 rfl rfl rfl ?_
                                                              refine vv_iconst 1273 hk dL_law_1272 rfl ic_2 ?_
                                                              refine vv_iadd 1274 hk dL_law_1273 rfl ?_
                                                              refine vv_sld 1275 hk hs dL_law_1274 rfl (fun v244 => ?_)
                                                              refine vv_toC hs ?_
                                                              refine vv_invI (st := []) 1278 (hkC hk) (heC hs) dL_law_1275 rfl ml_L_133 cf_X11_reading la_0 ci_11 (c_X11_reading G v243 v244 t1.2.1) rfl rfl rfl rfl (fun v245 σ246 => vv_ofC hs ?_)
                                                              refine vv_aload_n (i := 2) 1279 hk dL_law_1278 rfl rfl rfl ?_
                                                              refine vv_sload_n (i := 0) 1280 hk dL_law_1279 rfl rfl rfl ?_
                                                              refine vv_iload_n (i := 3) 1281 hk dL_law_1280 rfl rfl rfl ?_
                                                              refine vv_iconst 1282 hk dL_law_1281 rfl ic_1 ?_
                                                              refine vv_iadd 1283 hk dL_law_1282 rfl ?_
                                                              refine vv_sld 1284 hk hs dL_law_1283 rfl (fun v247 => ?_)
                                                              refine vv_sload_n (i := 0) 1285 hk dL_law_1284 rfl rfl rfl ?_
                                                              refine vv_iload_n (i := 3) 1286 hk dL_law_1285 rfl rfl rfl ?_
                                                              refine vv_iconst 1287 hk dL_law_1286 rfl ic_2 ?_
                                                              refine vv_iadd 1288 hk dL_law_1287 rfl ?_
                                                              refine vv_sld 1289 hk hs dL_law_1288 rfl (fun v248 => ?_)
                                                              refine vv_toM hs ?_
                                                              refine vv_invI (st := [(.int v245)]) 1292 (hkM hk) (heM hs) dL_law_1289 rfl ml_L_136 cf_X12_reading la_86 ci_12 (c_X12_reading G v247 v248 t1.2.2) rfl rfl rfl rfl (fun v249 σ250 => vv_ofM hs ?_)
                                                              refine vv_icmp_eq 1763 1295 hk dL_law_1292 rfl rfl ?_ ?_
                                                              · skip
                                                                exact vv_le (ll_s rfl (ll_s rfl (ll_s rfl (ll_s rfl ll_0)))) (hk1763 (σ246, σ250))
                                                              · skip
                                                                refine vv_iconst 1296 hk dL_law_1295 rfl ic_0 ?_
                                                                exact hret _ _ _ dL_law_1296
                                                            · skip
                                                              refine vv_case (fun h28 => ?_) (fun h28 => ?_)
                                                              · skip
                                                                refine vv_tabIn 1297 hk dL_law_33 (by rw [h28]; decide +kernel) (by rw [h28]; decide +kernel) (off := 1264) (by rw [h28]; decide +kernel) rfl ?_
                                                                refine vv_aload_n (i := 1) 1298 hk dL_law_1297 rfl rfl rfl ?_
                                                                refine vv_sload_n (i := 0) 1299 hk dL_law_1298 rfl rfl rfl ?_
                                                                refine vv_iload_n (i := 3) 1300 hk dL_law_1299 rfl rfl rfl ?_
                                                                refine vv_iconst 1301 hk dL_law_1300 rfl ic_1 ?_
                                                                refine vv_iadd 1302 hk dL_law_1301 rfl ?_
                                                                refine vv_sld 1303 hk hs dL_law_1302 rfl (fun v251 => ?_)
                                                                refine vv_sload_n (i := 0) 1304 hk dL_law_1303 rfl rfl rfl ?_
                                                                refine vv_iload_n (i := 3) 1305 hk dL_law_1304 rfl rfl rfl ?_
                                                                refine vv_iconst 1306 hk dL_law_1305 rfl ic_2 ?_
                                                                refine vv_iadd 1307 hk dL_law_1306 rfl ?_
                                                                refine vv_sld 1308 hk hs dL_law_1307 rfl (fun v252 => ?_)
                                                                refine vv_toC hs ?_
                                                                refine vv_invI (st := []) 1311 (hkC hk) (heC hs) dL_law_1308 rfl ml_L_137 cf_X11_trueGas la_0 ci_11 (c_X11_trueGas G v251 v252 t1.2.1) rfl rfl rfl rfl (fun v253 σ254 => vv_ofC hs ?_)
                                                                refine vv_aload_n (i := 2) 1312 hk dL_law_1311 rfl rfl rfl ?_
                                                                refine vv_sload_n (i := 0) 1313 hk dL_law_1312 rfl rfl rfl ?_
                                                                refine vv_iload_n (i := 3) 1314 hk dL_law_1313 rfl rfl rfl ?_
                                                                refine vv_iconst 1315 hk dL_law_1314 rfl ic_1 ?_
                                                                refine vv_iadd 1316 hk dL_law_1315 rfl ?_
                                                                refine vv_sld 1317 hk hs dL_law_1316 rfl (fun v255 => ?_)
                                                                refine vv_sload_n (i := 0) 1318 hk dL_law_1317 rfl rfl rfl ?_
                                                                refine vv_iload_n (i := 3) 1319 hk dL_law_1318 rfl rfl rfl ?_
                                                                refine vv_iconst 1320 hk dL_law_1319 rfl ic_2 ?_
                                                                refine vv_iadd 1321 hk dL_law_1320 rfl ?_
                                                                refine vv_sld 1322 hk hs dL_law_1321 rfl (fun v256 => ?_)
                                                                refine vv_toM hs ?_
                                                                refine vv_invI (st := [(.int v253)]) 1325 (hkM hk) (heM hs) dL_law_1322 rfl ml_L_140 cf_X12_trueGas la_86 ci_12 (c_X12_trueGas G v255 v256 t1.2.2) rfl rfl rfl rfl (fun v257 σ258 => vv_ofM hs ?_)
                                                                refine vv_icmp_eq 1763 1328 hk dL_law_1325 rfl rfl ?_ ?_
                                                                · skip
                                                                  exact vv_le (ll_s rfl (ll_s rfl (ll_s rfl (ll_s rfl ll_0)))) (hk1763 (σ254, σ258))
                                                                · skip
                                                                  refine vv_iconst 1329 hk dL_law_1328 rfl ic_0 ?_
                                                                  exact hret _ _ _ dL_law_1329
                                                              · skip
                                                                refine vv_case (fun h29 => ?_) (fun h29 => ?_)
                                                                · skip
                                                                  refine vv_tabIn 1330 hk dL_law_33 (by rw [h29]; decide +kernel) (by rw [h29]; decide +kernel) (off := 1297) (by rw [h29]; decide +kernel) rfl ?_
                                                                  refine vv_aload_n (i := 1) 1331 hk dL_law_1330 rfl rfl rfl ?_
                                                                  refine vv_sload_n (i := 0) 1332 hk dL_law_1331 rfl rfl rfl ?_
                                                                  refine vv_iload_n (i := 3) 1333 hk dL_law_1332 rfl rfl rfl ?_
                                                                  refine vv_iconst 1334 hk dL_law_1333 rfl ic_1 ?_
                                                                  refine vv_iadd 1335 hk dL_law_1334 rfl ?_
                                                                  refine vv_sld 1336 hk hs dL_law_1335 rfl (fun v259 => ?_)
                                                                  refine vv_sload_n (i := 0) 1337 hk dL_law_1336 rfl rfl rfl ?_
                                                                  refine vv_iload_n (i := 3) 1338 hk dL_law_1337 rfl rfl rfl ?_
                                                                  refine vv_iconst 1339 hk dL_law_1338 rfl ic_2 ?_
                                                                  refine vv_iadd 1340 hk dL_law_1339 rfl ?_
                                                                  refine vv_sld 1341 hk hs dL_law_1340 rfl (fun v260 => ?_)
                                                                  refine vv_sload_n (i := 0) 1342 hk dL_law_1341 rfl rfl rfl ?_
                                                                  refine vv_iload_n (i := 3) 1343 hk dL_law_1342 rfl rfl rfl ?_
                                                                  refine vv_iconst 1344 hk dL_law_1343 rfl ic_3 ?_
                                                                  refine vv_iadd 1345 hk dL_law_1344 rfl ?_
                                                                  refine vv_sld 1346 hk hs dL_law_1345 rfl (fun v261 => ?_)
                                                                  refine vv_sload_n (i := 0) 1347 hk dL_law_1346 rfl rfl rfl ?_
                                                                  refine vv_iload_n (i := 3) 1348 hk dL_law_1347 rfl rfl rfl ?_
                                                                  refine vv_iconst 1349 hk dL_law_1348 rfl ic_4 ?_
                                                                  refine vv_iadd 1350 hk dL_law_1349 rfl ?_
                                                                  refine vv_sld 1351 hk hs dL_law_1350 rfl (fun v262 => ?_)
                                                                  refine vv_sload_n (i := 0) 1352 hk dL_law_1351 rfl rfl rfl ?_
                                                                  refine vv_iload_n (i := 3) 1353 hk dL_law_1352 rfl rfl rfl ?_
                                                                  refine vv_iconst 1354 hk dL_law_1353 rfl ic_5 ?_
                                                                  refine vv_iadd 1355 hk dL_law_1354 rfl ?_
                                                                  refine vv_sld 1356 hk hs dL_law_1355 rfl (fun v263 => ?_)
                                                                  refine vv_toC hs ?_
                                                                  refine vv_invI (st := []) 1359 (hkC hk) (heC hs) dL_law_1356 rfl ml_L_141 cf_X11_stage la_0 ci_11 (c_X11_stage G v259 v260 v261 v262 v263 t1.2.1) rfl rfl rfl rfl (fun v264 σ265 => vv_ofC hs ?_)
                                                                  refine vv_aload_n (i := 2) 1360 hk dL_law_1359 rfl rfl rfl ?_
                                                                  refine vv_sload_n (i := 0) 1361 hk dL_law_1360 rfl rfl rfl ?_
                                                                  refine vv_iload_n (i := 3) 1362 hk dL_law_1361 rfl rfl rfl ?_
                                                                  refine vv_iconst 1363 hk dL_law_1362 rfl ic_1 ?_
                                                                  refine vv_iadd 1364 hk dL_law_1363 rfl ?_
                                                                  refine vv_sld 1365 hk hs dL_law_1364 rfl (fun v266 => ?_)
                                                                  refine vv_sload_n (i := 0) 1366 hk dL_law_1365 rfl rfl rfl ?_
                                                                  refine vv_iload_n (i := 3) 1367 hk dL_law_1366 rfl rfl rfl ?_
                                                                  refine vv_iconst 1368 hk dL_law_1367 rfl ic_2 ?_
                                                                  refine vv_iadd 1369 hk dL_law_1368 rfl ?_
                                                                  refine vv_sld 1370 hk hs dL_law_1369 rfl (fun v267 => ?_)
                                                                  refine vv_sload_n (i := 0) 1371 hk dL_law_1370 rfl rfl rfl ?_
                                                                  refine vv_iload_n (i := 3) 1372 hk dL_law_1371 rfl rfl rfl ?_
                                                                  refine vv_iconst 1373 hk dL_law_1372 rfl ic_3 ?_
                                                                  refine vv_iadd 1374 hk dL_law_1373 rfl ?_
                                                                  refine vv_sld 1375 hk hs dL_law_1374 rfl (fun v268 => ?_)
                                                                  refine vv_sload_n (i := 0) 1376 hk dL_law_1375 rfl rfl rfl ?_
                                                                  refine vv_iload_n (i := 3) 1377 hk dL_law_1376 rfl rfl rfl ?_
                                                                  refine vv_iconst 1378 hk dL_law_1377 rfl ic_4 ?_
                                                                  refine vv_iadd 1379 hk dL_law_1378 rfl ?_
                                                                  refine vv_sld 1380 hk hs dL_law_1379 rfl (fun v269 => ?_)
                                                                  refine vv_sload_n (i := 0) 1381 hk dL_law_1380 rfl rfl rfl ?_
                                                                  refine vv_iload_n (i := 3) 1382 hk dL_law_1381 rfl rfl rfl ?_
                                                                  refine vv_iconst 1383 hk dL_law_1382 rfl ic_5 ?_
                                                                  refine vv_iadd 1384 hk dL_law_1383 rfl ?_
                                                                  refine vv_sld 1385 hk hs dL_law_1384 rfl (fun v270 => ?_)
                                                                  refine vv_toM hs ?_
                                                                  refine vv_invI (st := [(.int v264)]) 1388 (hkM hk) (heM hs) dL_law_1385 rfl ml_L_144 cf_X12_stage la_86 ci_12 (c_X12_stage G v266 v267 v268 v269 v270 t1.2.2) rfl rfl rfl rfl (fun v271 σ272 => vv_ofM hs ?_)
                                                                  refine vv_icmp_eq 1763 1391 hk dL_law_1388 rfl rfl ?_ ?_
                                                                  · skip
                                                                    exact vv_le (ll_s rfl (ll_s rfl (ll_s rfl (ll_s rfl ll_0)))) (hk1763 (σ265, σ272))
                                                                  · skip
                                                                    refine vv_iconst 1392 hk dL_law_1391 rfl ic_0 ?_
                                                                    exact hret _ _ _ dL_law_1392
                                                                · skip
                                                                  refine vv_case (fun h30 => ?_) (fun h30 => ?_)
                                                                  · skip
                                                                    refine vv_tabIn 1393 hk dL_law_33 (by rw [h30]; decide +kernel) (by rw [h30]; decide +kernel) (off := 1360) (by rw [h30]; decide +kernel) rfl ?_
                                                                    refine vv_aload_n (i := 1) 1394 hk dL_law_1393 rfl rfl rfl ?_
                                                                    refine vv_sload_n (i := 0) 1395 hk dL_law_1394 rfl rfl rfl ?_
                                                                    refine vv_iload_n (i := 3) 1396 hk dL_law_1395 rfl rfl rfl ?_
                                                                    refine vv_iconst 1397 hk dL_law_1396 rfl ic_1 ?_
                                                                    refine vv_iadd 1398 hk dL_law_1397 rfl ?_
                                                                    refine vv_sld 1399 hk hs dL_law_1398 rfl (fun v273 => ?_)
                                                                    refine vv_toC hs ?_
                                                                    refine vv_invI (st := []) 1402 (hkC hk) (heC hs) dL_law_1399 rfl ml_L_145 cf_X11_restCold la_0 ci_11 (c_X11_restCold G v273 t1.2.1) rfl rfl rfl rfl (fun v274 σ275 => vv_ofC hs ?_)
                                                                    refine vv_aload_n (i := 2) 1403 hk dL_law_1402 rfl rfl rfl ?_
                                                                    refine vv_sload_n (i := 0) 1404 hk dL_law_1403 rfl rfl rfl ?_
                                                                    refine vv_iload_n (i := 3) 1405 hk dL_law_1404 rfl rfl rfl ?_
                                                                    refine vv_iconst 1406 hk dL_law_1405 rfl ic_1 ?_
                                                                    refine vv_iadd 1407 hk dL_law_1406 rfl ?_
                                                                    refine vv_sld 1408 hk hs dL_law_1407 rfl (fun v276 => ?_)
                                                                    refine vv_toM hs ?_
                                                                    refine vv_invI (st := [(.int v274)]) 1411 (hkM hk) (heM hs) dL_law_1408 rfl ml_L_148 cf_X12_restCold la_86 ci_12 (c_X12_restCold G v276 t1.2.2) rfl rfl rfl rfl (fun v277 σ278 => vv_ofM hs ?_)
                                                                    refine vv_icmp_eq 1763 1414 hk dL_law_1411 rfl rfl ?_ ?_
                                                                    · skip
                                                                      exact vv_le (ll_s rfl (ll_s rfl (ll_s rfl (ll_s rfl ll_0)))) (hk1763 (σ275, σ278))
                                                                    · skip
                                                                      refine vv_iconst 1415 hk dL_law_1414 rfl ic_0 ?_
                                                                      exact hret _ _ _ dL_law_1415
                                                                  · skip
                                                                    refine vv_case (fun h31 => ?_) (fun h31 => ?_)
                                                                    · skip
                                                                      refine vv_tabIn 1416 hk dL_law_33 (by rw [h31]; decide +kernel) (by rw [h31]; decide +kernel) (off := 1383) (by rw [h31]; decide +kernel) rfl ?_
                                                                      refine vv_aload_n (i := 1) 1417 hk dL_law_1416 rfl rfl rfl ?_
                                                                      refine vv_sload_n (i := 0) 1418 hk dL_law_1417 rfl rfl rfl ?_
                                                                      refine vv_iload_n (i := 3) 1419 hk dL_law_1418 rfl rfl rfl ?_
                                                                      refine vv_iconst 1420 hk dL_law_1419 rfl ic_1 ?_
                                                                      refine vv_iadd 1421 hk dL_law_1420 rfl ?_
                                                                      refine vv_sld 1422 hk hs dL_law_1421 rfl (fun v279 => ?_)
                                                                      refine vv_sload_n (i := 0) 1423 hk dL_law_1422 rfl rfl rfl ?_
                                                                      refine vv_iload_n (i := 3) 1424 hk dL_law_1423 rfl rfl rfl ?_
                                                                      refine vv_iconst 1425 hk dL_law_1424 rfl ic_2 ?_
                                                                      refine vv_iadd 1426 hk dL_law_1425 rfl ?_
                                                                      refine vv_sld 1427 hk hs dL_law_1426 rfl (fun v280 => ?_)
                                                                      refine vv_toC hs ?_
                                                                      refine vv_invI (st := []) 1430 (hkC hk) (heC hs) dL_law_1427 rfl ml_L_149 cf_X11_load la_0 ci_11 (c_X11_load G v279 v280 t1.2.1) rfl rfl rfl rfl (fun v281 σ282 => vv_ofC hs ?_)
                                                                      refine vv_aload_n (i := 2) 1431 hk dL_law_1430 rfl rfl rfl ?_
                                                                      refine vv_sload_n (i := 0) 1432 hk dL_law_1431 rfl rfl rfl ?_
                                                                      refine vv_iload_n (i := 3) 1433 hk dL_law_1432 rfl rfl rfl ?_
                                                                      refine vv_iconst 1434 hk dL_law_1433 rfl ic_1 ?_
                                                                      refine vv_iadd 1435 hk dL_law_1434 rfl ?_
                                                                      refine vv_sld 1436 hk hs dL_law_1435 rfl (fun v283 => ?_)
                                                                      refine vv_sload_n (i := 0) 1437 hk dL_law_1436 rfl rfl rfl ?_
                                                                      refine vv_iload_n (i := 3) 1438 hk dL_law_1437 rfl rfl rfl ?_
                                                                      refine vv_iconst 1439 hk dL_law_1438 rfl ic_2 ?_
                                                                      refine vv_iadd 1440 hk dL_law_1439 rfl ?_
                                                                      refine vv_sld 1441 hk hs dL_law_1440 rfl (fun v284 => ?_)
                                                                      refine vv_toM hs ?_
                                                                      refine vv_invI (st := [(.int v281)]) 1444 (hkM hk) (heM hs) dL_law_1441 rfl ml_L_152 cf_X12_load la_86 ci_12 (c_X12_load G v283 v284 t1.2.2) rfl rfl rfl rfl (fun v285 σ286 => vv_ofM hs ?_)
                                                                      refine vv_icmp_eq 1763 1447 hk dL_law_1444 rfl rfl ?_ ?_
                                                                      · skip
                                                                        exact vv_le (ll_s rfl (ll_s rfl (ll_s rfl (ll_s rfl ll_0)))) (hk1763 (σ282, σ286))
                                                                      · skip
                                                                        refine vv_iconst 1448 hk dL_law_1447 rfl ic_0 ?_
                                                                        exact hret _ _ _ dL_law_1448
                                                                    · skip
                                                                      refine vv_case (fun h32 => ?_) (fun h32 => ?_)
                                                                      · skip
                                                                        refine vv_tabIn 1449 hk dL_law_33 (by rw [h32]; decide +kernel) (by rw [h32]; decide +kernel) (off := 1416) (by rw [h32]; decide +kernel) rfl ?_
                                                                        refine vv_aload_n (i := 1) 1450 hk dL_law_1449 rfl rfl rfl ?_
                                                                        refine vv_sload_n (i := 0) 1451 hk dL_law_1450 rfl rfl rfl ?_
                                                                        refine vv_iload_n (i := 3) 1452 hk dL_law_1451 rfl rfl rfl ?_
                                                                        refine vv_iconst 1453 hk dL_law_1452 rfl ic_1 ?_
                                                                        refine vv_iadd 1454 hk dL_law_1453 rfl ?_
                                                                        refine vv_sld 1455 hk hs dL_law_1454 rfl (fun v287 => ?_)
                                                                        refine vv_sload_n (i := 0) 1456 hk dL_law_1455 rfl rfl rfl ?_
                                                                        refine vv_iload_n (i := 3) 1457 hk dL_law_1456 rfl rfl rfl ?_
                                                                        refine vv_iconst 1458 hk dL_law_1457 rfl ic_2 ?_
                                                                        refine vv_iadd 1459 hk dL_law_1458 rfl ?_
                                                                        refine vv_sld 1460 hk hs dL_law_1459 rfl (fun v288 => ?_)
                                                                        refine vv_toC hs ?_
                                                                        refine vv_invI (st := []) 1463 (hkC hk) (heC hs) dL_law_1460 rfl ml_L_153 cf_X11_late la_0 ci_11 (c_X11_late G v287 v288 t1.2.1) rfl rfl rfl rfl (fun v289 σ290 => vv_ofC hs ?_)
                                                                        refine vv_aload_n (i := 2) 1464 hk dL_law_1463 rfl rfl rfl ?_
                                                                        refine vv_sload_n (i := 0) 1465 hk dL_law_1464 rfl rfl rfl ?_
                                                                        refine vv_iload_n (i := 3) 1466 hk dL_law_1465 rfl rfl rfl ?_
                                                                        refine vv_iconst 1467 hk dL_law_1466 rfl ic_1 ?_
                                                                        refine vv_iadd 1468 hk dL_law_1467 rfl ?_
                                                                        refine vv_sld 1469 hk hs dL_law_1468 rfl (fun v291 => ?_)
                                                                        refine vv_sload_n (i := 0) 1470 hk dL_law_1469 rfl rfl rfl ?_
                                                                        refine vv_iload_n (i := 3) 1471 hk dL_law_1470 rfl rfl rfl ?_
                                                                        refine vv_iconst 1472 hk dL_law_1471 rfl ic_2 ?_
                                                                        refine vv_iadd 1473 hk dL_law_1472 rfl ?_
                                                                        refine vv_sld 1474 hk hs dL_law_1473 rfl (fun v292 => ?_)
                                                                        refine vv_toM hs ?_
                                                                        refine vv_invI (st := [(.int v289)]) 1477 (hkM hk) (heM hs) dL_law_1474 rfl ml_L_156 cf_X12_late la_86 ci_12 (c_X12_late G v291 v292 t1.2.2) rfl rfl rfl rfl (fun v293 σ294 => vv_ofM hs ?_)
                                                                        refine vv_icmp_eq 1763 1480 hk dL_law_1477 rfl rfl ?_ ?_
                                                                        · skip
                                                                          exact vv_le (ll_s rfl (ll_s rfl (ll_s rfl (ll_s rfl ll_0)))) (hk1763 (σ290, σ294))
                                                                        · skip
                                                                          refine vv_iconst 1481 hk dL_law_1480 rfl ic_0 ?_
                                                                          exact hret _ _ _ dL_law_1481
                                                                      · skip
                                                                        refine vv_case (fun h33 => ?_) (fun h33 => ?_)
                                                                        · skip
                                                                          refine vv_tabIn 1482 hk dL_law_33 (by rw [h33]; decide +kernel) (by rw [h33]; decide +kernel) (off := 1449) (by rw [h33]; decide +kernel) rfl ?_
                                                                          refine vv_aload_n (i := 1) 1483 hk dL_law_1482 rfl rfl rfl ?_
                                                                          refine vv_sload_n (i := 0) 1484 hk dL_law_1483 rfl rfl rfl ?_
                                                                          refine vv_iload_n (i := 3) 1485 hk dL_law_1484 rfl rfl rfl ?_
                                                                          refine vv_iconst 1486 hk dL_law_1485 rfl ic_1 ?_
                                                                          refine vv_iadd 1487 hk dL_law_1486 rfl ?_
                                                                          refine vv_sld 1488 hk hs dL_law_1487 rfl (fun v295 => ?_)
                                                                          refine vv_sload_n (i := 0) 1489 hk dL_law_1488 rfl rfl rfl ?_
                                                                          refine vv_iload_n (i := 3) 1490 hk dL_law_1489 rfl rfl rfl ?_
                                                                          refine vv_iconst 1491 hk dL_law_1490 rfl ic_2 ?_
                                                                          refine vv_iadd 1492 hk dL_law_1491 rfl ?_
                                                                          refine vv_sld 1493 hk hs dL_law_1492 rfl (fun v296 => ?_)
                                                                          refine vv_toC hs ?_
                                                                          refine vv_invI (st := []) 1496 (hkC hk) (heC hs) dL_law_1493 rfl ml_L_157 cf_X11_spray la_0 ci_11 (c_X11_spray G v295 v296 t1.2.1) rfl rfl rfl rfl (fun v297 σ298 => vv_ofC hs ?_)
                                                                          refine vv_aload_n (i := 2) 1497 hk dL_law_1496 rfl rfl rfl ?_
                                                                          refine vv_sload_n (i := 0) 1498 hk dL_law_1497 rfl rfl rfl ?_
                                                                          refine vv_iload_n (i := 3) 1499 hk dL_law_1498 rfl rfl rfl ?_
                                                                          refine vv_iconst 1500 hk dL_law_1499 rfl ic_1 ?_
                                                                          refine vv_iadd 1501 hk dL_law_1500 rfl ?_
                                                                          refine vv_sld 1502 hk hs dL_law_1501 rfl (fun v299 => ?_)
                                                                          refine vv_sload_n (i := 0) 1503 hk dL_law_1502 rfl rfl rfl ?_
                                                                          refine vv_iload_n (i := 3) 1504 hk dL_law_1503 rfl rfl rfl ?_
                                                                          refine vv_iconst 1505 hk dL_law_1504 rfl ic_2 ?_
                                                                          refine vv_iadd 1506 hk dL_law_1505 rfl ?_
                                                                          refine vv_sld 1507 hk hs dL_law_1506 rfl (fun v300 => ?_)
                                                                          refine vv_toM hs ?_
                                                                          refine vv_invI (st := [(.int v297)]) 1510 (hkM hk) (heM hs) dL_law_1507 rfl ml_L_160 cf_X12_spray la_86 ci_12 (c_X12_spray G v299 v300 t1.2.2) rfl rfl rfl rfl (fun v301 σ302 => vv_ofM hs ?_)
                                                                          refine vv_icmp_eq 1763 1513 hk dL_law_1510 rfl rfl ?_ ?_
                                                                          · skip
                                                                            exact vv_le (ll_s rfl (ll_s rfl (ll_s rfl (ll_s rfl ll_0)))) (hk1763 (σ298, σ302))
                                                                          · skip
                                                                            refine vv_iconst 1514 hk dL_law_1513 rfl ic_0 ?_
                                                                            exact hret _ _ _ dL_law_1514
                                                                        · skip
                                                                          refine vv_case (fun h34 => ?_) (fun h34 => ?_)
                                                                          · skip
                                                                            refine vv_tabIn 1515 hk dL_law_33 (by rw [h34]; decide +kernel) (by rw [h34]; decide +kernel) (off := 1482) (by rw [h34]; decide +kernel) rfl ?_
                                                                            refine vv_aload_n (i := 1) 1516 hk dL_law_1515 rfl rfl rfl ?_
                                                                            refine vv_sload_n (i := 0) 1517 hk dL_law_1516 rfl rfl rfl ?_
                                                                            refine vv_iload_n (i := 3) 1518 hk dL_law_1517 rfl rfl rfl ?_
                                                                            refine vv_iconst 1519 hk dL_law_1518 rfl ic_1 ?_
                                                                            refine vv_iadd 1520 hk dL_law_1519 rfl ?_
                                                                            refine vv_sld 1521 hk hs dL_law_1520 rfl (fun v303 => ?_)
                                                                            refine vv_sload_n (i := 0) 1522 hk dL_law_1521 rfl rfl rfl ?_
                                                                            refine vv_iload_n (i := 3) 1523 hk dL_law_1522 rfl rfl rfl ?_
                                                                            refine vv_iconst 1524 hk dL_law_1523 rfl ic_2 ?_
                                                                            refine vv_iadd 1525 hk dL_law_1524 rfl ?_
                                                                            refine vv_sld 1526 hk hs dL_law_1525 rfl (fun v304 => ?_)
                                                                            refine vv_jn (fun t305 => ((t1.2.1, t1.2.2), 1534, [some (.ref b), some (rf G 0), some (rf G 86), some (.int t1.1)], [(.int t305), (.int v303), (rf G 0)])) (fun t305 => ?_) (fun k1534 hk1534 => ?_)
                                                                            · skip
                                                                              refine vv_toC hs ?_
                                                                              refine vv_invI (st := []) 1537 (hkC hk) (heC hs) dL_law_1534 rfl ml_L_161 cf_X11_seen la_0 ci_11 (c_X11_seen G v303 t305 t1.2.1) rfl rfl rfl rfl (fun v306 σ307 => vv_ofC hs ?_)
                                                                              refine vv_aload_n (i := 2) 1538 hk dL_law_1537 rfl rfl rfl ?_
                                                                              refine vv_sload_n (i := 0) 1539 hk dL_law_1538 rfl rfl rfl ?_
                                                                              refine vv_iload_n (i := 3) 1540 hk dL_law_1539 rfl rfl rfl ?_
                                                                              refine vv_iconst 1541 hk dL_law_1540 rfl ic_1 ?_
                                                                              refine vv_iadd 1542 hk dL_law_1541 rfl ?_
                                                                              refine vv_sld 1543 hk hs dL_law_1542 rfl (fun v308 => ?_)
                                                                              refine vv_sload_n (i := 0) 1544 hk dL_law_1543 rfl rfl rfl ?_
                                                                              refine vv_iload_n (i := 3) 1545 hk dL_law_1544 rfl rfl rfl ?_
                                                                              refine vv_iconst 1546 hk dL_law_1545 rfl ic_2 ?_
                                                                              refine vv_iadd 1547 hk dL_law_1546 rfl ?_
                                                                              refine vv_sld 1548 hk hs dL_law_1547 rfl (fun v309 => ?_)
                                                                              refine vv_jn (fun t310 => ((σ307, t1.2.2), 1556, [some (.ref b), some (rf G 0), some (rf G 86), some (.int t1.1)], [(.int t310), (.int v308), (rf G 86), (.int v306)])) (fun t310 => ?_) (fun k1556 hk1556 => ?_)
                                                                              · skip
                                                                                refine vv_toM hs ?_
                                                                                refine vv_invI (st := [(.int v306)]) 1559 (hkM hk) (heM hs) dL_law_1556 rfl ml_L_164 cf_X12_seen la_86 ci_12 (c_X12_seen G v308 t310 t1.2.2) rfl rfl rfl rfl (fun v311 σ312 => vv_ofM hs ?_)
                                                                                refine vv_icmp_eq 1763 1562 hk dL_law_1559 rfl rfl ?_ ?_
                                                                                · skip
                                                                                  exact vv_le (ll_s rfl (ll_s rfl (ll_s rfl (ll_s rfl ll_0)))) (hk1763 (σ307, σ312))
                                                                                · skip
                                                                                  refine vv_iconst 1563 hk dL_law_1562 rfl ic_0 ?_
                                                                                  exact hret _ _ _ dL_law_1563
                                                                              · skip
                                                                                refine vv_if_eq 1555 1551 hk dL_law_1548 rfl rfl ?_ ?_
                                                                                · skip
                                                                                  refine vv_iconst 1556 hk dL_law_1555 rfl ic_0 ?_
                                                                                  exact vv_le (ll_s rfl (ll_s rfl (ll_s rfl (ll_s rfl ll_0)))) (hk1556 (0 : Int32))
                                                                                · skip
                                                                                  refine vv_iconst 1552 hk dL_law_1551 rfl ic_1 ?_
                                                                                  refine vv_goto 1556 hk dL_law_1552 rfl ?_
                                                                                  exact vv_le (ll_s rfl (ll_s rfl (ll_s rfl (ll_s rfl ll_0)))) (hk1556 (1 : Int32))
                                                                            · skip
                                                                              refine vv_if_eq 1533 1529 hk dL_law_1526 rfl rfl ?_ ?_
                                                                              · skip
                                                                                refine vv_iconst 1534 hk dL_law_1533 rfl ic_0 ?_
                                                                                exact vv_le (ll_s rfl (ll_s rfl (ll_s rfl (ll_s rfl ll_0)))) (hk1534 (0 : Int32))
                                                                              · skip
                                                                                refine vv_iconst 1530 hk dL_law_1529 rfl ic_1 ?_
                                                                                refine vv_goto 1534 hk dL_law_1530 rfl ?_
                                                                                exact vv_le (ll_s rfl (ll_s rfl (ll_s rfl (ll_s rfl ll_0)))) (hk1534 (1 : Int32))
                                                                          · skip
                                                                            refine vv_case (fun h35 => ?_) (fun h35 => ?_)
                                                                            · skip
                                                                              refine vv_tabIn 1564 hk dL_law_33 (by rw [h35]; decide +kernel) (by rw [h35]; decide +kernel) (off := 1531) (by rw [h35]; decide +kernel) rfl ?_
                                                                              refine vv_aload_n (i := 1) 1565 hk dL_law_1564 rfl rfl rfl ?_
                                                                              refine vv_toC hs ?_
                                                                              refine vv_invI (st := []) 1568 (hkC hk) (heC hs) dL_law_1565 rfl ml_L_165 cf_X11_anew la_0 ci_11 (c_X11_anew G t1.2.1) rfl rfl rfl rfl (fun v313 σ314 => vv_ofC hs ?_)
                                                                              refine vv_aload_n (i := 2) 1569 hk dL_law_1568 rfl rfl rfl ?_
                                                                              refine vv_toM hs ?_
                                                                              refine vv_invI (st := [(.int v313)]) 1572 (hkM hk) (heM hs) dL_law_1569 rfl ml_L_168 cf_X12_anew la_86 ci_12 (c_X12_anew G t1.2.2) rfl rfl rfl rfl (fun v315 σ316 => vv_ofM hs ?_)
                                                                              refine vv_icmp_eq 1763 1575 hk dL_law_1572 rfl rfl ?_ ?_
                                                                              · skip
                                                                                exact vv_le (ll_s rfl (ll_s rfl (ll_s rfl (ll_s rfl ll_0)))) (hk1763 (σ314, σ316))
                                                                              · skip
                                                                                refine vv_iconst 1576 hk dL_law_1575 rfl ic_0 ?_
                                                                                exact hret _ _ _ dL_law_1576
                                                                            · skip
                                                                              refine vv_case (fun h36 => ?_) (fun h36 => ?_)
                                                                              · skip
                                                                                refine vv_tabIn 1577 hk dL_law_33 (by rw [h36]; decide +kernel) (by rw [h36]; decide +kernel) (off := 1544) (by rw [h36]; decide +kernel) rfl ?_
                                                                                refine vv_aload_n (i := 1) 1578 hk dL_law_1577 rfl rfl rfl ?_
                                                                                refine vv_sload_n (i := 0) 1579 hk dL_law_1578 rfl rfl rfl ?_
                                                                                refine vv_iload_n (i := 3) 1580 hk dL_law_1579 rfl rfl rfl ?_
                                                                                refine vv_iconst 1581 hk dL_law_1580 rfl ic_1 ?_
                                                                                refine vv_iadd 1582 hk dL_law_1581 rfl ?_
                                                                                refine vv_sld 1583 hk hs dL_law_1582 rfl (fun v317 => ?_)
                                                                                refine vv_toC hs ?_
                                                                                refine vv_invI (st := []) 1586 (hkC hk) (heC hs) dL_law_1583 rfl ml_L_169 cf_X11_hunt la_0 ci_11 (c_X11_hunt G v317 t1.2.1) rfl rfl rfl rfl (fun v318 σ319 => vv_ofC hs ?_)
                                                                                refine vv_aload_n (i := 2) 1587 hk dL_law_1586 rfl rfl rfl ?_
                                                                                refine vv_sload_n (i := 0) 1588 hk dL_law_1587 rfl rfl rfl ?_
                                                                                refine vv_iload_n (i := 3) 1589 hk dL_law_1588 rfl rfl rfl ?_
                                                                                refine vv_iconst 1590 hk dL_law_1589 rfl ic_1 ?_
                                                                                refine vv_iadd 1591 hk dL_law_1590 rfl ?_
                                                                                refine vv_sld 1592 hk hs dL_law_1591 rfl (fun v320 => ?_)
                                                                                refine vv_toM hs ?_
                                                                                refine vv_invI (st := [(.int v318)]) 1595 (hkM hk) (heM hs) dL_law_1592 rfl ml_L_172 cf_X12_hunt la_86 ci_12 (c_X12_hunt G v320 t1.2.2) rfl rfl rfl rfl (fun v321 σ322 => vv_ofM hs ?_)
                                                                                refine vv_icmp_eq 1763 1598 hk dL_law_1595 rfl rfl ?_ ?_
                                                                                · skip
                                                                                  exact vv_le (ll_s rfl (ll_s rfl (ll_s rfl (ll_s rfl ll_0)))) (hk1763 (σ319, σ322))
                                                                                · skip
                                                                                  refine vv_iconst 1599 hk dL_law_1598 rfl ic_0 ?_
                                                                                  exact hret _ _ _ dL_law_1599
                                                                              · skip
                                                                                refine vv_case (fun h37 => ?_) (fun h37 => ?_)
                                                                                · skip
                                                                                  refine vv_tabIn 1600 hk dL_law_33 (by rw [h37]; decide +kernel) (by rw [h37]; decide +kernel) (off := 1567) (by rw [h37]; decide +kernel) rfl ?_
                                                                                  refine vv_aload_n (i := 1) 1601 hk dL_law_1600 rfl rfl rfl ?_
                                                                                  refine vv_sload_n (i := 0) 1602 hk dL_law_1601 rfl rfl rfl ?_
                                                                                  refine vv_iload_n (i := 3) 1603 hk dL_law_1602 rfl rfl rfl ?_
                                                                                  refine vv_iconst 1604 hk dL_law_1603 rfl ic_1 ?_
                                                                                  refine vv_iadd 1605 hk dL_law_1604 rfl ?_
                                                                                  refine vv_sld 1606 hk hs dL_law_1605 rfl (fun v323 => ?_)
                                                                                  refine vv_sload_n (i := 0) 1607 hk dL_law_1606 rfl rfl rfl ?_
                                                                                  refine vv_iload_n (i := 3) 1608 hk dL_law_1607 rfl rfl rfl ?_
                                                                                  refine vv_iconst 1609 hk dL_law_1608 rfl ic_2 ?_
                                                                                  refine vv_iadd 1610 hk dL_law_1609 rfl ?_
                                                                                  refine vv_sld 1611 hk hs dL_law_1610 rfl (fun v324 => ?_)
                                                                                  refine vv_sload_n (i := 0) 1612 hk dL_law_1611 rfl rfl rfl ?_
                                                                                  refine vv_iload_n (i := 3) 1613 hk dL_law_1612 rfl rfl rfl ?_
                                                                                  refine vv_iconst 1614 hk dL_law_1613 rfl ic_3 ?_
                                                                                  refine vv_iadd 1615 hk dL_law_1614 rfl ?_
                                                                                  refine vv_sld 1616 hk hs dL_law_1615 rfl (fun v325 => ?_)
                                                                                  refine vv_sload_n (i := 0) 1617 hk dL_law_1616 rfl rfl rfl ?_
                                                                                  refine vv_iload_n (i := 3) 1618 hk dL_law_1617 rfl rfl rfl ?_
                                                                                  refine vv_iconst 1619 hk dL_law_1618 rfl ic_4 ?_
                                                                                  refine vv_iadd 1620 hk dL_law_1619 rfl ?_
                                                                                  refine vv_sld 1621 hk hs dL_law_1620 rfl (fun v326 => ?_)
                                                                                  refine vv_sload_n (i := 0) 1622 hk dL_law_1621 rfl rfl rfl ?_
                                                                                  refine vv_iload_n (i := 3) 1623 hk dL_law_1622 rfl rfl rfl ?_
                                                                                  refine vv_iconst 1624 hk dL_law_1623 rfl ic_5 ?_
                                                                                  refine vv_iadd 1625 hk dL_law_1624 rfl ?_
                                                                                  refine vv_sld 1626 hk hs dL_law_1625 rfl (fun v327 => ?_)
                                                                                  refine vv_toC hs ?_
                                                                                  refine vv_invJ (st := []) 1629 (hkC hk) (heC hs) dL_law_1626 rfl ml_L_173 cf_X11_odds la_0 ci_11 (c_X11_odds G v323 v324 v325 v326 v327 t1.2.1) rfl rfl rfl rfl (fun v328 σ329 => vv_ofC hs ?_)
                                                                                  refine vv_aload_n (i := 2) 1630 hk dL_law_1629 rfl rfl rfl ?_
                                                                                  refine vv_sload_n (i := 0) 1631 hk dL_law_1630 rfl rfl rfl ?_
                                                                                  refine vv_iload_n (i := 3) 1632 hk dL_law_1631 rfl rfl rfl ?_
                                                                                  refine vv_iconst 1633 hk dL_law_1632 rfl ic_1 ?_
                                                                                  refine vv_iadd 1634 hk dL_law_1633 rfl ?_
                                                                                  refine vv_sld 1635 hk hs dL_law_1634 rfl (fun v330 => ?_)
                                                                                  refine vv_sload_n (i := 0) 1636 hk dL_law_1635 rfl rfl rfl ?_
                                                                                  refine vv_iload_n (i := 3) 1637 hk dL_law_1636 rfl rfl rfl ?_
                                                                                  refine vv_iconst 1638 hk dL_law_1637 rfl ic_2 ?_
                                                                                  refine vv_iadd 1639 hk dL_law_1638 rfl ?_
                                                                                  refine vv_sld 1640 hk hs dL_law_1639 rfl (fun v331 => ?_)
                                                                                  refine vv_sload_n (i := 0) 1641 hk dL_law_1640 rfl rfl rfl ?_
                                                                                  refine vv_iload_n (i := 3) 1642 hk dL_law_1641 rfl rfl rfl ?_
                                                                                  refine vv_iconst 1643 hk dL_law_1642 rfl ic_3 ?_
                                                                                  refine vv_iadd 1644 hk dL_law_1643 rfl ?_
                                                                                  refine vv_sld 1645 hk hs dL_law_1644 rfl (fun v332 => ?_)
                                                                                  refine vv_sload_n (i := 0) 1646 hk dL_law_1645 rfl rfl rfl ?_
                                                                                  refine vv_iload_n (i := 3) 1647 hk dL_law_1646 rfl rfl rfl ?_
                                                                                  refine vv_iconst 1648 hk dL_law_1647 rfl ic_4 ?_
                                                                                  refine vv_iadd 1649 hk dL_law_1648 rfl ?_
                                                                                  refine vv_sld 1650 hk hs dL_law_1649 rfl (fun v333 => ?_)
                                                                                  refine vv_sload_n (i := 0) 1651 hk dL_law_1650 rfl rfl rfl ?_
                                                                                  refine vv_iload_n (i := 3) 1652 hk dL_law_1651 rfl rfl rfl ?_
                                                                                  refine vv_iconst 1653 hk dL_law_1652 rfl ic_5 ?_
                                                                                  refine vv_iadd 1654 hk dL_law_1653 rfl ?_
                                                                                  refine vv_sld 1655 hk hs dL_law_1654 rfl (fun v334 => ?_)
                                                                                  refine vv_toM hs ?_
                                                                                  refine vv_invJ (st := [(.long v328)]) 1658 (hkM hk) (heM hs) dL_law_1655 rfl ml_L_177 cf_X12_odds la_86 ci_12 (c_X12_odds G v330 v331 v332 v333 v334 t1.2.2) rfl rfl rfl rfl (fun v335 σ336 => vv_ofM hs ?_)
                                                                                  refine vv_lcmp 1659 hk dL_law_1658 rfl ?_
                                                                                  refine vv_if_eq 1763 1662 hk dL_law_1659 rfl rfl ?_ ?_
                                                                                  · skip
                                                                                    exact vv_le (ll_s rfl (ll_s rfl (ll_s rfl (ll_s rfl ll_0)))) (hk1763 (σ329, σ336))
                                                                                  · skip
                                                                                    refine vv_iconst 1663 hk dL_law_1662 rfl ic_0 ?_
                                                                                    exact hret _ _ _ dL_law_1663
                                                                                · skip
                                                                                  refine vv_case (fun h38 => ?_) (fun h38 => ?_)
                                                                                  · skip
                                                                                    refine vv_tabIn 1664 hk dL_law_33 (by rw [h38]; decide +kernel) (by rw [h38]; decide +kernel) (off := 1631) (by rw [h38]; decide +kernel) rfl ?_
                                                                                    refine vv_aload_n (i := 1) 1665 hk dL_law_1664 rfl rfl rfl ?_
                                                                                    refine vv_sload_n (i := 0) 1666 hk dL_law_1665 rfl rfl rfl ?_
                                                                                    refine vv_iload_n (i := 3) 1667 hk dL_law_1666 rfl rfl rfl ?_
                                                                                    refine vv_iconst 1668 hk dL_law_1667 rfl ic_1 ?_
                                                                                    refine vv_iadd 1669 hk dL_law_1668 rfl ?_
                                                                                    refine vv_sld 1670 hk hs dL_law_1669 rfl (fun v337 => ?_)
                                                                                    refine vv_sload_n (i := 0) 1671 hk dL_law_1670 rfl rfl rfl ?_
                                                                                    refine vv_iload_n (i := 3) 1672 hk dL_law_1671 rfl rfl rfl ?_
                                                                                    refine vv_iconst 1673 hk dL_law_1672 rfl ic_2 ?_
                                                                                    refine vv_iadd 1674 hk dL_law_1673 rfl ?_
                                                                                    refine vv_sld 1675 hk hs dL_law_1674 rfl (fun v338 => ?_)
                                                                                    refine vv_sload_n (i := 0) 1676 hk dL_law_1675 rfl rfl rfl ?_
                                                                                    refine vv_iload_n (i := 3) 1677 hk dL_law_1676 rfl rfl rfl ?_
                                                                                    refine vv_iconst 1678 hk dL_law_1677 rfl ic_3 ?_
                                                                                    refine vv_iadd 1679 hk dL_law_1678 rfl ?_
                                                                                    refine vv_sld 1680 hk hs dL_law_1679 rfl (fun v339 => ?_)
                                                                                    refine vv_toC hs ?_
                                                                                    refine vv_invI (st := []) 1683 (hkC hk) (heC hs) dL_law_1680 rfl ml_L_178 cf_X11_offer la_0 ci_11 (c_X11_offer G v337 v338 v339 t1.2.1) rfl rfl rfl rfl (fun v340 σ341 => vv_ofC hs ?_)
                                                                                    refine vv_aload_n (i := 2) 1684 hk dL_law_1683 rfl rfl rfl ?_
                                                                                    refine vv_sload_n (i := 0) 1685 hk dL_law_1684 rfl rfl rfl ?_
                                                                                    refine vv_iload_n (i := 3) 1686 hk dL_law_1685 rfl rfl rfl ?_
                                                                                    refine vv_iconst 1687 hk dL_law_1686 rfl ic_1 ?_
                                                                                    refine vv_iadd 1688 hk dL_law_1687 rfl ?_
                                                                                    refine vv_sld 1689 hk hs dL_law_1688 rfl (fun v342 => ?_)
                                                                                    refine vv_sload_n (i := 0) 1690 hk dL_law_1689 rfl rfl rfl ?_
                                                                                    refine vv_iload_n (i := 3) 1691 hk dL_law_1690 rfl rfl rfl ?_
                                                                                    refine vv_iconst 1692 hk dL_law_1691 rfl ic_2 ?_
                                                                                    refine vv_iadd 1693 hk dL_law_1692 rfl ?_
                                                                                    refine vv_sld 1694 hk hs dL_law_1693 rfl (fun v343 => ?_)
                                                                                    refine vv_sload_n (i := 0) 1695 hk dL_law_1694 rfl rfl rfl ?_
                                                                                    refine vv_iload_n (i := 3) 1696 hk dL_law_1695 rfl rfl rfl ?_
                                                                                    refine vv_iconst 1697 hk dL_law_1696 rfl ic_3 ?_
                                                                                    refine vv_iadd 1698 hk dL_law_1697 rfl ?_
                                                                                    refine vv_sld 1699 hk hs dL_law_1698 rfl (fun v344 => ?_)
                                                                                    refine vv_toM hs ?_
                                                                                    refine vv_invI (st := [(.int v340)]) 1702 (hkM hk) (heM hs) dL_law_1699 rfl ml_L_181 cf_X12_offer la_86 ci_12 (c_X12_offer G v342 v343 v344 t1.2.2) rfl rfl rfl rfl (fun v345 σ346 => vv_ofM hs ?_)
                                                                                    refine vv_icmp_eq 1763 1705 hk dL_law_1702 rfl rfl ?_ ?_
                                                                                    · skip
                                                                                      exact vv_le (ll_s rfl (ll_s rfl (ll_s rfl (ll_s rfl ll_0)))) (hk1763 (σ341, σ346))
                                                                                    · skip
                                                                                      refine vv_iconst 1706 hk dL_law_1705 rfl ic_0 ?_
                                                                                      exact hret _ _ _ dL_law_1706
                                                                                  · skip
                                                                                    refine vv_case (fun h39 => ?_) (fun h39 => ?_)
                                                                                    · skip
                                                                                      refine vv_tabIn 1707 hk dL_law_33 (by rw [h39]; decide +kernel) (by rw [h39]; decide +kernel) (off := 1674) (by rw [h39]; decide +kernel) rfl ?_
                                                                                      refine vv_aload_n (i := 1) 1708 hk dL_law_1707 rfl rfl rfl ?_
                                                                                      refine vv_sload_n (i := 0) 1709 hk dL_law_1708 rfl rfl rfl ?_
                                                                                      refine vv_iload_n (i := 3) 1710 hk dL_law_1709 rfl rfl rfl ?_
                                                                                      refine vv_iconst 1711 hk dL_law_1710 rfl ic_1 ?_
                                                                                      refine vv_iadd 1712 hk dL_law_1711 rfl ?_
                                                                                      refine vv_sld 1713 hk hs dL_law_1712 rfl (fun v347 => ?_)
                                                                                      refine vv_sload_n (i := 0) 1714 hk dL_law_1713 rfl rfl rfl ?_
                                                                                      refine vv_iload_n (i := 3) 1715 hk dL_law_1714 rfl rfl rfl ?_
                                                                                      refine vv_iconst 1716 hk dL_law_1715 rfl ic_2 ?_
                                                                                      refine vv_iadd 1717 hk dL_law_1716 rfl ?_
                                                                                      refine vv_sld 1718 hk hs dL_law_1717 rfl (fun v348 => ?_)
                                                                                      refine vv_toC hs ?_
                                                                                      refine vv_invI (st := []) 1721 (hkC hk) (heC hs) dL_law_1718 rfl ml_L_182 cf_X11_plan la_0 ci_11 (c_X11_plan G v347 v348 t1.2.1) rfl rfl rfl rfl (fun v349 σ350 => vv_ofC hs ?_)
                                                                                      refine vv_aload_n (i := 2) 1722 hk dL_law_1721 rfl rfl rfl ?_
                                                                                      refine vv_sload_n (i := 0) 1723 hk dL_law_1722 rfl rfl rfl ?_
                                                                                      refine vv_iload_n (i := 3) 1724 hk dL_law_1723 rfl rfl rfl ?_
                                                                                      refine vv_iconst 1725 hk dL_law_1724 rfl ic_1 ?_
                                                                                      refine vv_iadd 1726 hk dL_law_1725 rfl ?_
                                                                                      refine vv_sld 1727 hk hs dL_law_1726 rfl (fun v351 => ?_)
                                                                                      refine vv_sload_n (i := 0) 1728 hk dL_law_1727 rfl rfl rfl ?_
                                                                                      refine vv_iload_n (i := 3) 1729 hk dL_law_1728 rfl rfl rfl ?_
                                                                                      refine vv_iconst 1730 hk dL_law_1729 rfl ic_2 ?_
                                                                                      refine vv_iadd 1731 hk dL_law_1730 rfl ?_
                                                                                      refine vv_sld 1732 hk hs dL_law_1731 rfl (fun v352 => ?_)
                                                                                      refine vv_toM hs ?_
                                                                                      refine vv_invI (st := [(.int v349)]) 1735 (hkM hk) (heM hs) dL_law_1732 rfl ml_L_185 cf_X12_plan la_86 ci_12 (c_X12_plan G v351 v352 t1.2.2) rfl rfl rfl rfl (fun v353 σ354 => vv_ofM hs ?_)
                                                                                      refine vv_icmp_eq 1763 1738 hk dL_law_1735 rfl rfl ?_ ?_
                                                                                      · skip
                                                                                        exact vv_le (ll_s rfl (ll_s rfl (ll_s rfl (ll_s rfl ll_0)))) (hk1763 (σ350, σ354))
                                                                                      · skip
                                                                                        refine vv_iconst 1739 hk dL_law_1738 rfl ic_0 ?_
                                                                                        exact hret _ _ _ dL_law_1739
                                                                                    · skip
                                                                                      refine vv_case (fun h40 => ?_) (fun h40 => ?_)
                                                                                      · skip
                                                                                        refine vv_tabIn 1740 hk dL_law_33 (by rw [h40]; decide +kernel) (by rw [h40]; decide +kernel) (off := 1707) (by rw [h40]; decide +kernel) rfl ?_
                                                                                        refine vv_aload_n (i := 1) 1741 hk dL_law_1740 rfl rfl rfl ?_
                                                                                        refine vv_sload_n (i := 0) 1742 hk dL_law_1741 rfl rfl rfl ?_
                                                                                        refine vv_iload_n (i := 3) 1743 hk dL_law_1742 rfl rfl rfl ?_
                                                                                        refine vv_iconst 1744 hk dL_law_1743 rfl ic_1 ?_
                                                                                        refine vv_iadd 1745 hk dL_law_1744 rfl ?_
                                                                                        refine vv_sld 1746 hk hs dL_law_1745 rfl (fun v355 => ?_)
                                                                                        refine vv_toC hs ?_
                                                                                        refine vv_invIr (st := []) 1749 (hkC hk) (heC hs) dL_law_1746 rfl ml_L_186 cf_X11_count la_0 ci_11 (c_X11_count G v355 t1.2.1) rfl rfl rfl rfl (fun v356 => vv_ofC hs ?_)
                                                                                        refine vv_aload_n (i := 2) 1750 hk dL_law_1749 rfl rfl rfl ?_
                                                                                        refine vv_sload_n (i := 0) 1751 hk dL_law_1750 rfl rfl rfl ?_
                                                                                        refine vv_iload_n (i := 3) 1752 hk dL_law_1751 rfl rfl rfl ?_
                                                                                        refine vv_iconst 1753 hk dL_law_1752 rfl ic_1 ?_
                                                                                        refine vv_iadd 1754 hk dL_law_1753 rfl ?_
                                                                                        refine vv_sld 1755 hk hs dL_law_1754 rfl (fun v357 => ?_)
                                                                                        refine vv_toM hs ?_
                                                                                        refine vv_invIr (st := [(.int v356)]) 1758 (hkM hk) (heM hs) dL_law_1755 rfl ml_L_189 cf_X12_count la_86 ci_12 (c_X12_count G v357 t1.2.2) rfl rfl rfl rfl (fun v358 => vv_ofM hs ?_)
                                                                                        refine vv_icmp_eq 1763 1761 hk dL_law_1758 rfl rfl ?_ ?_
                                                                                        · skip
                                                                                          exact vv_le (ll_s rfl (ll_s rfl (ll_s rfl (ll_s rfl ll_0)))) (hk1763 (t1.2.1, t1.2.2))
                                                                                        · skip
                                                                                          refine vv_iconst 1762 hk dL_law_1761 rfl ic_0 ?_
                                                                                          exact hret _ _ _ dL_law_1762
                                                                                      · skip
                                                                                        refine vv_tabOut 1763 hk dL_law_33 (by have q0 := ne_int h0; have q1 := ne_int h1; have q2 := ne_int h2; have q3 := ne_int h3; have q4 := ne_int h4; have q5 := ne_int h5; have q6 := ne_int h6; have q7 := ne_int h7; have q8 := ne_int h8; have q9 := ne_int h9; have q10 := ne_int h10; have q11 := ne_int h11; have q12 := ne_int h12; have q13 := ne_int h13; have q14 := ne_int h14; have q15 := ne_int h15; have q16 := ne_int h16; have q17 := ne_int h17; have q18 := ne_int h18; have q19 := ne_int h19; have q20 := ne_int h20; have q21 := ne_int h21; have q22 := ne_int h22; have q23 := ne_int h23; have q24 := ne_int h24; have q25 := ne_int h25; have q26 := ne_int h26; have q27 := ne_int h27; have q28 := ne_int h28; have q29 := ne_int h29; have q30 := ne_int h30; have q31 := ne_int h31; have q32 := ne_int h32; have q33 := ne_int h33; have q34 := ne_int h34; have q35 := ne_int h35; have q36 := ne_int h36; have q37 := ne_int h37; have q38 := ne_int h38; have q39 := ne_int h39; have q40 := ne_int h40; rw [ti_0] at q0; rw [ti_1] at q1; rw [ti_2] at q2; rw [ti_3] at q3; rw [ti_4] at q4; rw [ti_5] at q5; rw [ti_6] at q6; rw [ti_7] at q7; rw [ti_8] at q8; rw [ti_9] at q9; rw [ti_10] at q10; rw [ti_11] at q11; rw [ti_12] at q12; rw [ti_13] at q13; rw [ti_14] at q14; rw [ti_15] at q15; rw [ti_16] at q16; rw [ti_17] at q17; rw [ti_18] at q18; rw [ti_19] at q19; rw [ti_20] at q20; rw [ti_21] at q21; rw [ti_22] at q22; rw [ti_23] at q23; rw [ti_24] at q24; rw [ti_25] at q25; rw [ti_26] at q26; rw [ti_27] at q27; rw [ti_28] at q28; rw [ti_29] at q29; rw [ti_30] at q30; rw [ti_31] at q31; rw [ti_32] at q32; rw [ti_33] at q33; rw [ti_34] at q34; rw [ti_35] at q35; rw [ti_36] at q36; rw [ti_37] at q37; rw [ti_38] at q38; rw [ti_39] at q39; rw [ti_40] at q40; omega) rfl ?_
                                                                                        exact vv_le (ll_s rfl (ll_s rfl (ll_s rfl (ll_s rfl ll_0)))) (hk1763 (t1.2.1, t1.2.2))
