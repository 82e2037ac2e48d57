/-! ===== gas is kept ===== -/
def sn (f : Nat → Nat) (g : Nat) : Nat → Nat
  | 0 => 0
  | n + 1 => sn f g n + f (3 * n + g)
theorem sn_s (f : Nat → Nat) (g n : Nat) : sn f g (n + 1) = sn f g n + f (3 * n + g) := rfl
theorem sn_le {f : Nat → Nat} {g k : Nat} : ∀ {n : Nat}, k < n → f (3 * k + g) ≤ sn f g n
  | 0, h => absurd h (by omega)
  | n + 1, h => by
    rw [sn_s]
    by_cases e : k = n
    · subst e; omega
    · have := sn_le (f := f) (g := g) (k := k) (n := n) (by omega); omega
theorem sn_un {f : Nat → Nat} {g j v : Nat} (hg : g < 3) : ∀ n, j < n → sn (un f (3 * j + g) v) g n + f (3 * j + g) = sn f g n + v
  | 0, h => absurd h (by omega)
  | n + 1, h => by
    rw [sn_s, sn_s, un_at]
    by_cases e : j = n
    · subst e
      rw [if_pos rfl]
      have h2 : ∀ m, m ≤ j → sn (un f (3 * j + g) v) g m = sn f g m := by
        intro m
        induction m with
        | zero => intro _; rfl
        | succ m ih =>
          intro hm
          rw [sn_s, sn_s, ih (by omega), un_at, if_neg (by omega)]
      rw [h2 j (Nat.le_refl j)]
      omega
    · have := sn_un (f := f) (g := g) (j := j) (v := v) hg n (by omega)
      rw [if_neg (by omega)]
      omega
theorem sn_uo {f : Nat → Nat} {g g' j v : Nat} (hg : g < 3) (hg' : g' < 3) (h : g' ≠ g) : ∀ n, sn (un f (3 * j + g) v) g' n = sn f g' n
  | 0 => rfl
  | n + 1 => by rw [sn_s, sn_s, sn_uo hg hg' h n, un_at, if_neg (by omega)]
theorem sn_mv {a : Nat → Nat} {s i j g : Nat} (hg : g < 3) (hi : i < 5) (hj : j < 5) (hn : i ≠ j) (g' : Nat) (hg' : g' < 3) : sn (mvN s (3 * i + g) (3 * j + g) a) g' 5 = sn a g' 5 := by
  by_cases h : g' = g
  · subst h
    have h1 := sn_un (f := a) (g := g') (j := i) (v := a (3 * i + g') - min (a (3 * i + g')) s) hg 5 hi
    have h2 := sn_un (f := un a (3 * i + g') (a (3 * i + g') - min (a (3 * i + g')) s)) (g := g') (j := j) (v := un a (3 * i + g') (a (3 * i + g') - min (a (3 * i + g')) s) (3 * j + g') + min (a (3 * i + g')) s) hg 5 hj
    unfold mvN
    omega
  · unfold mvN
    rw [sn_uo hg hg' h, sn_uo hg hg' h]
/-- of each gas: in rooms, on walls, in pumps is what was told -/
def KNk (B : Nat) (a w t d : Nat → Nat) : Prop := ∀ g, g < 3 → sn a g 5 + sn w g 5 + sn t g 8 = d g ∧ d g ≤ B
theorem KN_a {B : Nat} {a w t d : Nat → Nat} (h : KNk B a w t d) {k : Nat} (hk : k < 15) : a k ≤ B := by
  have h1 := h (k % 3) (by omega)
  have h2 := sn_le (f := a) (g := k % 3) (k := k / 3) (n := 5) (by omega)
  rw [show 3 * (k / 3) + k % 3 = k by omega] at h2
  omega
theorem KN_w {B : Nat} {a w t d : Nat → Nat} (h : KNk B a w t d) {k : Nat} (hk : k < 15) : w k ≤ B := by
  have h1 := h (k % 3) (by omega)
  have h2 := sn_le (f := w) (g := k % 3) (k := k / 3) (n := 5) (by omega)
  rw [show 3 * (k / 3) + k % 3 = k by omega] at h2
  omega
theorem KN_t {B : Nat} {a w t d : Nat → Nat} (h : KNk B a w t d) {k : Nat} (hk : k < 24) : t k ≤ B := by
  have h1 := h (k % 3) (by omega)
  have h2 := sn_le (f := t) (g := k % 3) (k := k / 3) (n := 8) (by omega)
  rw [show 3 * (k / 3) + k % 3 = k by omega] at h2
  omega
theorem KN_mv {B : Nat} {a w t d : Nat → Nat} (h : KNk B a w t d) {s i j g : Nat} (hg : g < 3) (hi : i < 5) (hj : j < 5) (hn : i ≠ j) : KNk B (mvN s (3 * i + g) (3 * j + g) a) w t d := fun g' hg' => by
  rw [sn_mv hg hi hj hn g' hg']
  exact h g' hg'
/-- from a room to a pump -/
theorem KN_dr {B : Nat} {a w t d : Nat → Nat} (h : KNk B a w t d) {r p g n : Nat} (hg : g < 3) (hr : r < 5) (hp : p < 8) (hn : n ≤ a (3 * r + g)) : KNk B (un a (3 * r + g) (a (3 * r + g) - n)) w (un t (3 * p + g) (t (3 * p + g) + n)) d := fun g' hg' => by
  have h0 := h g' hg'
  by_cases e : g' = g
  · subst e
    have h1 := sn_un (f := a) (g := g') (j := r) (v := a (3 * r + g') - n) hg 5 hr
    have h2 := sn_un (f := t) (g := g') (j := p) (v := t (3 * p + g') + n) hg 8 hp
    omega
  · rw [sn_uo hg hg' e, sn_uo hg hg' e]
    exact h0
theorem KN_gb {B : Nat} {a w t d : Nat → Nat} (h : KNk B a w t d) {r p g n : Nat} (hg : g < 3) (hr : r < 5) (hp : p < 8) (hn : n ≤ t (3 * p + g)) : KNk B (un a (3 * r + g) (a (3 * r + g) + n)) w (un t (3 * p + g) (t (3 * p + g) - n)) d := fun g' hg' => by
  have h0 := h g' hg'
  by_cases e : g' = g
  · subst e
    have h1 := sn_un (f := a) (g := g') (j := r) (v := a (3 * r + g') + n) hg 5 hr
    have h2 := sn_un (f := t) (g := g') (j := p) (v := t (3 * p + g') - n) hg 8 hp
    omega
  · rw [sn_uo hg hg' e, sn_uo hg hg' e]
    exact h0
theorem sn_ext {f f' : Nat → Nat} {g : Nat} : ∀ n, (∀ k, k < n → f (3 * k + g) = f' (3 * k + g)) → sn f g n = sn f' g n
  | 0, _ => rfl
  | n + 1, h => by rw [sn_s, sn_s, sn_ext n (fun k hk => h k (by omega)), h n (by omega)]
/-- walls give off -/
theorem KN_off {B : Nat} {pl : Nat → Nat → Nat} (hB : PB pl) {a w t d : Nat → Nat} (h : KNk B a w t d) : ∀ q, q ≤ 15 → KNk B (aO pl w a q) (wO pl w q) t d
  | 0, _ => by rw [aO_0, wO_0]; exact h
  | q + 1, hq => by
    have h1 := KN_off hB h q (by omega)
    rw [← aO_un, ← wO_un]
    intro g' hg'
    have h0 := h1 g' hg'
    have hs := shN_le hB w q
    have e3 : 3 * (q / 3) + q % 3 = q := by omega
    by_cases e : g' = q % 3
    · have h2 := sn_un (f := aO pl w a q) (g := q % 3) (j := q / 3) (v := a q + shN pl w q) (by omega) 5 (by omega)
      have h3 := sn_un (f := wO pl w q) (g := q % 3) (j := q / 3) (v := w q - shN pl w q) (by omega) 5 (by omega)
      rw [e3, aO_at] at h2
      rw [e3, wO_at] at h3
      rw [e] at h0 ⊢
      omega
    · have h2 := sn_uo (f := aO pl w a q) (g := q % 3) (g' := g') (j := q / 3) (v := a q + shN pl w q) (by omega) hg' e 5
      have h3 := sn_uo (f := wO pl w q) (g := q % 3) (g' := g') (j := q / 3) (v := w q - shN pl w q) (by omega) hg' e 5
      rw [e3] at h2 h3
      rw [h2, h3]
      exact h0
/-- leaks come in -/
theorem KN_leak {B : Nat} {pl : Nat → Nat → Nat} (hB : PB pl) {a w t d : Nat → Nat} (h : KNk B a w t d) : ∀ q, q ≤ 15 → ∀ g, g < 3 → sn (aL pl a q) g 5 + sn w g 5 + sn t g 8 = dL pl d q g ∧ dL pl d q g ≤ B + 999 * ((q + 2 - g) / 3)
  | 0, _ => fun g hg => by rw [aL_0]; have := h g hg; exact ⟨this.1, by show d g ≤ _; omega⟩
  | q + 1, hq => fun g hg => by
    have h1 := KN_leak hB h q (by omega) g hg
    have hk : pl 6 q ≤ 999 := hB.2.2.2.2.2.1 q
    rw [← aL_un]
    show _ = un (dL pl d q) (q % 3) _ g ∧ un (dL pl d q) (q % 3) _ g ≤ _
    rw [un_at]
    have e3 : 3 * (q / 3) + q % 3 = q := by omega
    by_cases e : g = q % 3
    · have h2 := sn_un (f := aL pl a q) (g := q % 3) (j := q / 3) (v := a q + pl 6 q) (by omega) 5 (by omega)
      rw [e3, aL_at] at h2
      rw [if_pos e]
      rw [e] at h1 ⊢
      omega
    · have h2 := sn_uo (f := aL pl a q) (g := q % 3) (g' := g) (j := q / 3) (v := a q + pl 6 q) (by omega) hg e 5
      rw [e3] at h2
      rw [h2, if_neg e]
      omega
theorem KN_leak' {B : Nat} {pl : Nat → Nat → Nat} (hB : PB pl) {a w t d : Nat → Nat} (h : KNk B a w t d) {q : Nat} (hq : q ≤ 15) : KNk (B + 4995) (aL pl a q) w t (dL pl d q) := fun g hg => by
  have := KN_leak hB h q hq g hg
  exact ⟨this.1, by omega⟩
theorem tkN_le {pl : Nat → Nat → Nat} (hB : PB pl) {p : Nat} (hp : p < pl 1 11) (g : Nat) (x : (Nat → Nat) × (Nat → Nat)) : tkN pl p g x ≤ x.1 (3 * pl 10 p + g) ∧ x.1 (3 * pl 10 p + g) * pl 11 (3 * p + g) / (100 * pl 2 (pl 10 p)) ≤ x.1 (3 * pl 10 p + g) := by
  obtain ⟨⟨b1, b2, b3, b4, b5⟩, b6, b7, b8, b9, b10, b11, b12, b13, b14⟩ := id hB
  have h1 := b6 _ (b12 p hp)
  have h2 := b13 (3 * p + g)
  have h3 : x.1 (3 * pl 10 p + g) * pl 11 (3 * p + g) ≤ x.1 (3 * pl 10 p + g) * (100 * pl 2 (pl 10 p)) := Nat.mul_le_mul_left _ (by omega)
  have h4 : x.1 (3 * pl 10 p + g) * pl 11 (3 * p + g) / (100 * pl 2 (pl 10 p)) ≤ x.1 (3 * pl 10 p + g) := Nat.div_le_of_le_mul (by rw [Nat.mul_comm (100 * pl 2 (pl 10 p))]; exact h3)
  refine ⟨?_, h4⟩
  unfold tkN
  split
  · omega
  · exact h4
theorem KN_mvs {B : Nat} {a w t d : Nat → Nat} (h : KNk B a w t d) {sh : Nat → Nat} {i j : Nat} (hi : i < 5) (hj : j < 5) (hn : i ≠ j) : ∀ g, g ≤ 3 → KNk B (mvs sh i j a g) w t d
  | 0, _ => h
  | g + 1, hg => KN_mv (KN_mvs h hi hj hn g (by omega)) (by omega) hi hj hn
theorem KN_fAs {B : Nat} {pl : Nat → Nat → Nat} (hB : PB pl) {a w t d b : Nat → Nat} (h : KNk B a w t d) {p : Nat} (hp : p < pl 1 6) (g : Nat) (hg : g ≤ 3) : KNk B (fAs pl b p a g) w t d := by
  obtain ⟨⟨b1, b2, b3, b4, b5⟩, b6, b7, b8, b9, b10, b11, b12, b13, b14⟩ := id hB
  have h1 := b11 p hp
  exact KN_mvs h (by omega) (by omega) h1.2.2.1 g hg
theorem KN_fBs {B : Nat} {pl : Nat → Nat → Nat} (hB : PB pl) {a w t d b : Nat → Nat} (h : KNk B a w t d) {p : Nat} (hp : p < pl 1 6) (g : Nat) (hg : g ≤ 3) : KNk B (fBs pl b p a g) w t d := by
  obtain ⟨⟨b1, b2, b3, b4, b5⟩, b6, b7, b8, b9, b10, b11, b12, b13, b14⟩ := id hB
  have h1 := b11 p hp
  exact KN_mvs h (by omega) (by omega) (fun e => h1.2.2.1 e.symm) g hg
theorem KN_fls {B : Nat} {pl : Nat → Nat → Nat} (hB : PB pl) {a w t d b : Nat → Nat} (h : KNk B a w t d) : ∀ p, p ≤ pl 1 6 → KNk B (fls pl b a p) w t d
  | 0, _ => h
  | p + 1, hp => by
    have h1 := KN_fls (b := b) hB h p (by omega)
    unfold fls
    split
    · exact KN_fBs hB (KN_fAs hB h1 (by omega) 3 (by omega)) (by omega) 3 (by omega)
    · exact h1
/-- traps hold no more than their limits; pumps that are not there hold nothing -/
def TN (pl : Nat → Nat → Nat) (t : Nat → Nat) : Prop := (∀ k, 0 < pl 12 k → hdN t k ≤ pl 12 k) ∧ ∀ k, pl 1 11 ≤ k → hdN t k = 0
theorem hd_un {t : Nat → Nat} {p g v k : Nat} (hg : g < 3) : hdN (un t (3 * p + g) v) k = if k = p then hdN t p - t (3 * p + g) + v else hdN t k := by
  unfold hdN
  simp only [un_at]
  by_cases e : k = p
  · subst e
    rw [if_pos rfl]
    rcases (by omega : g = 0 ∨ g = 1 ∨ g = 2) with rfl | rfl | rfl
    · rw [if_pos (by omega), if_neg (by omega), if_neg (by omega)]
      simp only [Nat.add_zero]
      omega
    · rw [if_neg (by omega), if_pos (by omega), if_neg (by omega)]; omega
    · rw [if_neg (by omega), if_neg (by omega), if_pos (by omega)]; omega
  · rw [if_neg e, if_neg (by omega), if_neg (by omega), if_neg (by omega)]
theorem hd_ge {t : Nat → Nat} {p g : Nat} (hg : g < 3) : t (3 * p + g) ≤ hdN t p := by
  unfold hdN
  rcases (by omega : g = 0 ∨ g = 1 ∨ g = 2) with rfl | rfl | rfl
  · simp only [Nat.add_zero]; omega
  · omega
  · omega
theorem TN_dr {pl : Nat → Nat → Nat} {p : Nat} (hp : p < pl 1 11) {g : Nat} (hg : g < 3) {x : (Nat → Nat) × (Nat → Nat)} (h : TN pl x.2) : TN pl (drN pl p g x).2 := by
  obtain ⟨h1, h2⟩ := h
  have h3 := hd_ge (t := x.2) (p := p) hg
  constructor
  · intro k hk
    show hdN (un x.2 _ _) k ≤ _
    rw [hd_un hg]
    have h4 := h1 k hk
    split
    · rename_i e
      subst e
      unfold tkN
      rw [if_pos hk]
      omega
    · exact h4
  · intro k hk
    show hdN (un x.2 _ _) k = _
    rw [hd_un hg, if_neg (by omega)]
    exact h2 k hk
theorem TN_gb {pl : Nat → Nat → Nat} {p : Nat} (hp : p < pl 1 11) {g : Nat} (hg : g < 3) {x : (Nat → Nat) × (Nat → Nat)} (h : TN pl x.2) : TN pl (gbN pl p g x).2 := by
  obtain ⟨h1, h2⟩ := h
  have h3 := hd_ge (t := x.2) (p := p) hg
  constructor
  · intro k hk
    show hdN (un x.2 _ _) k ≤ _
    rw [hd_un hg]
    have h4 := h1 k hk
    split
    · rename_i e
      subst e
      omega
    · exact h4
  · intro k hk
    show hdN (un x.2 _ _) k = _
    rw [hd_un hg, if_neg (by omega)]
    exact h2 k hk
theorem KN_drs {B : Nat} {pl : Nat → Nat → Nat} (hB : PB pl) {w d : Nat → Nat} {x : (Nat → Nat) × (Nat → Nat)} (h : KNk B x.1 w x.2 d ∧ TN pl x.2) {p : Nat} (hp : p < pl 1 11) : ∀ g, g ≤ 3 → KNk B (drs pl p x g).1 w (drs pl p x g).2 d ∧ TN pl (drs pl p x g).2
  | 0, _ => h
  | g + 1, hg => by
    have h1 := KN_drs hB h hp g (by omega)
    obtain ⟨⟨b1, b2, b3, b4, b5⟩, b6, b7, b8, b9, b10, b11, b12, b13, b14⟩ := id hB
    have h3 := b12 p hp
    exact ⟨KN_dr h1.1 (by omega) (by omega) (by omega) (tkN_le hB hp g _).1, TN_dr hp (by omega) h1.2⟩
theorem KN_sks {B : Nat} {pl : Nat → Nat → Nat} (hB : PB pl) {w d : Nat → Nat} {x : (Nat → Nat) × (Nat → Nat)} (h : KNk B x.1 w x.2 d ∧ TN pl x.2) : ∀ p, p ≤ pl 1 11 → KNk B (sks pl x p).1 w (sks pl x p).2 d ∧ TN pl (sks pl x p).2
  | 0, _ => h
  | p + 1, hp => by
    have h1 := KN_sks hB h p (by omega)
    unfold sks
    split
    · exact KN_drs hB h1 (by omega) 3 (by omega)
    · exact h1
theorem KN_gbs {B : Nat} {pl : Nat → Nat → Nat} (hB : PB pl) {w d : Nat → Nat} {x : (Nat → Nat) × (Nat → Nat)} (h : KNk B x.1 w x.2 d ∧ TN pl x.2) {p : Nat} (hp : p < pl 1 11) : ∀ g, g ≤ 3 → KNk B (gbs pl p x g).1 w (gbs pl p x g).2 d ∧ TN pl (gbs pl p x g).2
  | 0, _ => h
  | g + 1, hg => by
    have h1 := KN_gbs hB h hp g (by omega)
    obtain ⟨⟨b1, b2, b3, b4, b5⟩, b6, b7, b8, b9, b10, b11, b12, b13, b14⟩ := id hB
    have h3 := b12 p hp
    exact ⟨KN_gb h1.1 (by omega) (by omega) (by omega) (by omega), TN_gb hp (by omega) h1.2⟩
theorem KN_bks {B : Nat} {pl : Nat → Nat → Nat} (hB : PB pl) {w d : Nat → Nat} {x : ((Nat → Nat) × (Nat → Nat)) × Nat} (h : KNk B x.1.1 w x.1.2 d ∧ TN pl x.1.2) : ∀ p, p ≤ pl 1 11 → KNk B (bks pl x p).1.1 w (bks pl x p).1.2 d ∧ TN pl (bks pl x p).1.2
  | 0, _ => h
  | p + 1, hp => by
    have h1 := KN_bks hB h p (by omega)
    unfold bks
    split
    · exact KN_gbs hB h1 (by omega) 3 (by omega)
    · exact h1
/-- the state of the gas, as it may be -/
def NI (pl : Nat → Nat → Nat) (B : Nat) (x : GS) : Prop := (KNk B x.1.1 x.2.1 x.1.2 x.2.2.1 ∧ TN pl x.1.2) ∧ x.2.2.2 < 2 ^ 8
theorem NI_nps {B : Nat} {pl : Nat → Nat → Nat} (hB : PB pl) {x : GS} (h : NI pl B x) : KNk (B + 4995) (nps pl x).1.1 (nps pl x).2.1 (nps pl x).1.2 (nps pl x).2.2.1 ∧ TN pl (nps pl x).1.2 := by
  obtain ⟨⟨b1, b2, b3, b4, b5⟩, b6⟩ := id hB
  have h1 := KN_leak' hB (KN_off hB h.1.1 (3 * pl 1 0) (by omega)) (q := 3 * pl 1 0) (by omega)
  exact KN_bks hB (x := (sks pl (fls pl (aL pl (aO pl x.2.1 x.1.1 (3 * pl 1 0)) (3 * pl 1 0)) (aL pl (aO pl x.2.1 x.1.1 (3 * pl 1 0)) (3 * pl 1 0)) (pl 1 6), x.1.2) (pl 1 11), x.2.2.2)) (KN_sks hB (x := (_, x.1.2)) ⟨KN_fls hB h1 _ (Nat.le_refl _), h.1.2⟩ _ (Nat.le_refl _)) _ (Nat.le_refl _)
