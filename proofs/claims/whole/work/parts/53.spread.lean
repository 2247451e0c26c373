/-! ===== closed-up sets and sets of houses ===== -/
def xpd : Nat → Nat → Nat → Nat
  | 0, _, _ => 0
  | f + 1, L, s => if L % 2 = 1 then s % 2 + 2 * xpd f (L / 2) (s / 2) else 2 * xpd f (L / 2) s
def cpd : Nat → Nat → Nat → Nat
  | 0, _, _ => 0
  | f + 1, L, t => if L % 2 = 1 then t % 2 + 2 * cpd f (L / 2) (t / 2) else cpd f (L / 2) (t / 2)
theorem xpd_1 : ∀ L, L < 256 → ∀ s, s < 2 ^ pc L → xpd 8 L s < 256 ∧ pc (xpd 8 L s) = pc s ∧ dif (xpd 8 L s) L = 0 := by decide +kernel
theorem xpd_2 : ∀ L, L < 256 → ∀ s, s < 2 ^ pc L → s + 1 < 2 ^ pc L → xpd 8 L s < xpd 8 L (s + 1) := by decide +kernel
theorem xpd_3 : ∀ L, L < 256 → ∀ s, s < 2 ^ pc L → ∀ h, h < 8 → (xpd 8 L s).testBit h = (L.testBit h && s.testBit (cnt (fun t => L.testBit t) h)) := by decide +kernel
theorem xpd_4 : ∀ L, L < 256 → ∀ t, t < 256 → dif t L = 0 → cpd 8 L t < 2 ^ pc L ∧ xpd 8 L (cpd 8 L t) = t := by decide +kernel
theorem pc_z : ∀ x, x < 256 → pc x = 0 → x = 0 := by decide +kernel
theorem xpd_mono {L : Nat} (hL : L < 256) {a : Nat} : ∀ b, a ≤ b → b < 2 ^ pc L → xpd 8 L a ≤ xpd 8 L b
  | 0, h, _ => by
    have : a = 0 := by omega
    subst this
    exact Nat.le_refl _
  | b + 1, h, hb => by
    rcases Nat.lt_or_ge a (b + 1) with q | q
    · have h1 := xpd_mono hL b (show a ≤ b by omega) (by omega)
      have h2 := xpd_2 L hL b (by omega) hb
      omega
    · have : a = b + 1 := by omega
      subst this
      exact Nat.le_refl _
/-! ===== the first of the largest ===== -/
def bs (g : Nat → Bool) : Nat → Nat
  | 0 => 0
  | s + 1 => if pc (bs g s) < pc s ∧ g s = true then s else bs g s
theorem bs_spec (g : Nat → Bool) : ∀ n, (∀ s, s < n → g s = true → pc s ≤ pc (bs g n)) ∧ (bs g n = 0 ∨ (bs g n < n ∧ g (bs g n) = true)) ∧ (∀ s, s < n → g s = true → pc s = pc (bs g n) → bs g n ≤ s)
  | 0 => ⟨fun s h => absurd h (Nat.not_lt_zero s), Or.inl rfl, fun s h => absurd h (Nat.not_lt_zero s)⟩
  | n + 1 => by
    obtain ⟨h1, h2, h3⟩ := bs_spec g n
    have e : bs g (n + 1) = if pc (bs g n) < pc n ∧ g n = true then n else bs g n := rfl
    by_cases c : pc (bs g n) < pc n ∧ g n = true
    · rw [if_pos c] at e
      rw [e]
      refine ⟨fun s hs hg => ?_, Or.inr ⟨by omega, c.2⟩, fun s hs hg he => ?_⟩
      · by_cases q : s = n
        · rw [q]; exact Nat.le_refl _
        · have := h1 s (by omega) hg
          omega
      · by_cases q : s = n
        · omega
        · have := h1 s (by omega) hg
          omega
    · rw [if_neg c] at e
      rw [e]
      refine ⟨fun s hs hg => ?_, ?_, fun s hs hg he => ?_⟩
      · by_cases q : s = n
        · subst q
          rcases Nat.lt_or_ge (pc (bs g s)) (pc s) with w | w
          · exact absurd ⟨w, hg⟩ c
          · exact w
        · exact h1 s (by omega) hg
      · rcases h2 with q | q
        · exact Or.inl q
        · exact Or.inr ⟨by omega, q.2⟩
      · by_cases q : s = n
        · rcases h2 with w | w
          · omega
          · omega
        · exact h3 s (by omega) hg he
theorem bs_lt (g : Nat → Bool) {n : Nat} (hn : 0 < n) : bs g n < n := by
  rcases (bs_spec g n).2.1 with q | q
  · omega
  · exact q.1
/-- the class's best is the model's -/
theorem bs_xp {L : Nat} (hL : L < 256) (gC gM : Nat → Bool) (hg : ∀ s, s < 2 ^ pc L → gM (xpd 8 L s) = gC s) (hs : ∀ t, t < 256 → gM t = true → dif t L = 0) : bs gM 256 = xpd 8 L (bs gC (2 ^ pc L)) := by
  obtain ⟨m1, m2, m3⟩ := bs_spec gM 256
  obtain ⟨c1, c2, c3⟩ := bs_spec gC (2 ^ pc L)
  have cl := bs_lt gC (show 0 < 2 ^ pc L from Nat.pow_pos (by omega))
  have ml := bs_lt gM (show 0 < 256 by omega)
  obtain ⟨x1, x2, x3⟩ := xpd_1 L hL _ cl
  have A : ∀ t, t < 256 → gM t = true → pc t ≤ pc (xpd 8 L (bs gC (2 ^ pc L))) ∧ (pc t = pc (xpd 8 L (bs gC (2 ^ pc L))) → xpd 8 L (bs gC (2 ^ pc L)) ≤ t) := by
    intro t ht hgt
    obtain ⟨d1, d2⟩ := xpd_4 L hL t ht (hs t ht hgt)
    have e1 : gC (cpd 8 L t) = true := by rw [← hg _ d1, d2]; exact hgt
    have e2 : pc t = pc (cpd 8 L t) := by
      have := (xpd_1 L hL _ d1).2.1
      rw [d2] at this
      exact this
    refine ⟨by rw [x2, e2]; exact c1 _ d1 e1, fun q => ?_⟩
    have := c3 _ d1 e1 (by rw [← e2, q, x2])
    have := xpd_mono hL _ this d1
    rw [d2] at this
    exact this
  have z : xpd 8 L 0 = 0 := by
    have := (xpd_1 L hL 0 (Nat.pow_pos (by omega)))
    exact pc_z _ this.1 this.2.1
  have B : xpd 8 L (bs gC (2 ^ pc L)) = 0 ∨ gM (xpd 8 L (bs gC (2 ^ pc L))) = true := by
    rcases c2 with q | q
    · rw [q, z]; exact Or.inl rfl
    · right
      rw [hg _ cl]
      exact q.2
  rcases m2 with q | q
  · rcases B with w | w
    · rw [q, w]
    · have := m1 _ x1 w
      rw [q] at this
      have : pc (xpd 8 L (bs gC (2 ^ pc L))) = 0 := by
        have e : pc 0 = 0 := rfl
        omega
      rw [q, pc_z _ x1 this]
  · obtain ⟨a1, a2⟩ := A _ ml q.2
    rcases B with w | w
    · rw [w] at a1
      have : pc (bs gM 256) = 0 := by
        have e : pc 0 = 0 := rfl
        omega
      rw [w, pc_z _ ml this]
    · have b1 := m1 _ x1 w
      have e : pc (bs gM 256) = pc (xpd 8 L (bs gC (2 ^ pc L))) := by omega
      have b2 := m3 _ x1 w e.symm
      have b3 := a2 e
      omega
/-- what the spread set has in a house -/
theorem xpd_bit (R : Nat → Nat) {s : Nat} (hs : s < 2 ^ lvc R) {h : Nat} (hh : h < 8) : (xpd 8 (lvm R) s).testBit h = (lvp R h && s.testBit (cnt (lvp R) h)) := by
  have e : pc (lvm R) = lvc R := pc_msk _
  rw [xpd_3 (lvm R) (lvm_lt R) s (by rw [e]; exact hs) h hh]
  have eb : ∀ t, t < 8 → (lvm R).testBit t = lvp R t := by
    intro t ht
    unfold lvm
    rw [msk_bit, decide_eq_true ht, Bool.true_and]
  rw [eb h hh, cnt_c h (fun t ht => eb t (by omega))]
