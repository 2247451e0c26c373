/-! ===== longest: the tables of both ===== -/
section dp
variable (st : (Nat → Nat) → Nat → Nat)
def ed : Nat → Nat → Nat
  | 0, _ => 0
  | f + 1, s => st (ed f) s
def eE (s : Nat) : Nat := ed st (s + 1) s
end dp
theorem ed_st {st : (Nat → Nat) → Nat → Nat} (hst : ∀ A A' s, (∀ t, t < s → A t = A' t) → st A s = st A' s) : ∀ s f, s < f → ed st f s = eE st s := by
  intro s
  induction s using Nat.strongRecOn with
  | _ s ih =>
    intro f hf
    cases f with
    | zero => omega
    | succ f =>
      show st (ed st f) s = st (ed st s) s
      exact hst _ _ s (fun t ht => by rw [ih t ht f (by omega), ih t ht s ht])
theorem eE_eq {st : (Nat → Nat) → Nat → Nat} (hst : ∀ A A' s, (∀ t, t < s → A t = A' t) → st A s = st A' s) (s : Nat) : eE st s = st (eE st) s := hst (ed st s) (eE st) s (fun t ht => ed_st hst t s ht)
theorem dif_b {s i : Nat} (h : s.testBit i = true) : dif s (2 ^ i) < s := by
  have h1 := dif_le s (2 ^ i)
  have h2 : dif s (2 ^ i) ≠ s := by
    intro e
    rw [dif_eq] at e
    rw [e] at h
    cases h
  omega
theorem msk_c {p q : Nat → Bool} : ∀ n, (∀ i, i < n → p i = q i) → msk p n = msk q n
  | 0, _ => rfl
  | n + 1, h => by
    show msk p n ||| (if p n = true then 2 ^ n else 0) = msk q n ||| (if q n = true then 2 ^ n else 0)
    rw [msk_c n (fun i hi => h i (by omega)), h n (by omega)]
/-- the class's step, the model's step -/
def stC (G : Nat → Nat) (M : Nat) (A : Nat → Nat) (s : Nat) : Nat := msk (fun i => s.testBit i && (decide (dif s (2 ^ i) = 0) || !decide (A (dif s (2 ^ i)) &&& G i = 0))) M
def exM (R : Nat → Nat) (h v : Nat) : Bool := !al (fun j => !(v.testBit j && apt (R h) (R j))) 0 8
def stM (R : Nat → Nat) (A : Nat → Nat) (t : Nat) : Nat := if dif t (lvm R) = 0 then msk (fun h => t.testBit h && (decide (dif t (2 ^ h) = 0) || exM R h (A (dif t (2 ^ h))))) 8 else 0
theorem stC_c (G : Nat → Nat) (M : Nat) : ∀ A A' s, (∀ t, t < s → A t = A' t) → stC G M A s = stC G M A' s := by
  intro A A' s h
  refine msk_c M (fun i hi => ?_)
  cases c : s.testBit i with
  | false => rfl
  | true => rw [h _ (dif_b c)]
theorem stM_c (R : Nat → Nat) : ∀ A A' s, (∀ t, t < s → A t = A' t) → stM R A s = stM R A' s := by
  intro A A' s h
  unfold stM
  split
  · refine msk_c 8 (fun i hi => ?_)
    cases c : s.testBit i with
    | false => rfl
    | true => rw [h _ (dif_b c)]
  · rfl
/-- one house less -/
theorem xpd_dif (R : Nat → Nat) {s i : Nat} (hs : s < 2 ^ lvc R) (hi : i < lvc R) : dif (xpd 8 (lvm R) s) (2 ^ hH R i) = xpd 8 (lvm R) (dif s (2 ^ i)) := by
  have ep : pc (lvm R) = lvc R := pc_msk _
  have h1 := dif_le s (2 ^ i)
  obtain ⟨a1, a2, a3⟩ := hH_1 R hi
  have x1 := (xpd_1 (lvm R) (lvm_lt R) s (by rw [ep]; exact hs)).1
  have x2 := (xpd_1 (lvm R) (lvm_lt R) (dif s (2 ^ i)) (by rw [ep]; omega)).1
  have big : ∀ v, v < 256 → ∀ h, ¬ h < 8 → v.testBit h = false := fun v hv h hh => Nat.testBit_lt_two_pow (Nat.lt_of_lt_of_le hv (by
    have : 2 ^ 8 ≤ 2 ^ h := Nat.pow_le_pow_right (by omega) (by omega)
    exact this))
  apply Nat.eq_of_testBit_eq
  intro h
  rw [dif_bit, Nat.testBit_two_pow]
  by_cases c : h < 8
  · rw [xpd_bit R hs c, xpd_bit R (by omega) c, dif_bit, Nat.testBit_two_pow]
    cases cl : lvp R h with
    | false => rfl
    | true =>
      by_cases e : h = hH R i
      · rw [e, a3, decide_eq_true rfl, decide_eq_true rfl, Bool.and_assoc]
      · have ne : ¬ i = cnt (lvp R) h := by
          intro q
          apply e
          rw [q]
          exact (hH_2 R c cl).symm
        rw [decide_eq_false (fun q => e q.symm), decide_eq_false ne, Bool.and_assoc]
  · rw [big _ x1 h c, big _ x2 h c]
    rfl
theorem xpd_z (R : Nat → Nat) {s : Nat} (hs : s < 2 ^ lvc R) : xpd 8 (lvm R) s = 0 ↔ s = 0 := by
  have ep : pc (lvm R) = lvc R := pc_msk _
  have lc : lvc R ≤ 8 := cnt_le (lvp R) 8
  have s256 : s < 256 := Nat.lt_of_lt_of_le hs (by
    have : 2 ^ lvc R ≤ 2 ^ 8 := Nat.pow_le_pow_right (by omega) lc
    exact this)
  obtain ⟨x1, x2, x3⟩ := xpd_1 (lvm R) (lvm_lt R) s (by rw [ep]; exact hs)
  constructor
  · intro e
    rw [e] at x2
    exact pc_z s s256 x2.symm
  · intro e
    subst e
    exact pc_z _ x1 x2
/-- the tables tell the same -/
theorem tab_xpd (R G : Nat → Nat) (hG : ∀ i, i < lvc R → G i = msk (fun j => apt (R (hH R i)) (R (hH R j))) (lvc R)) : ∀ s, s < 2 ^ lvc R → eE (stM R) (xpd 8 (lvm R) s) = xpd 8 (lvm R) (eE (stC G (lvc R)) s) := by
  intro s
  induction s using Nat.strongRecOn with
  | _ s ih =>
    intro hs
    have ep : pc (lvm R) = lvc R := pc_msk _
    obtain ⟨x1, x2, x3⟩ := xpd_1 (lvm R) (lvm_lt R) s (by rw [ep]; exact hs)
    have hE : ∀ s, eE (stC G (lvc R)) s < 2 ^ lvc R := by
      intro s
      rw [eE_eq (stC_c _ _)]
      exact msk_lt _ _
    have hM : eE (stM R) (xpd 8 (lvm R) s) = msk (fun h => (xpd 8 (lvm R) s).testBit h && (decide (dif (xpd 8 (lvm R) s) (2 ^ h) = 0) || exM R h (eE (stM R) (dif (xpd 8 (lvm R) s) (2 ^ h))))) 8 := by
      rw [eE_eq (stM_c R)]
      exact if_pos x3
    have hC : eE (stC G (lvc R)) s = msk (fun i => s.testBit i && (decide (dif s (2 ^ i) = 0) || !decide (eE (stC G (lvc R)) (dif s (2 ^ i)) &&& G i = 0))) (lvc R) := by
      rw [eE_eq (stC_c _ _)]
      rfl
    have y1 := (xpd_1 (lvm R) (lvm_lt R) (eE (stC G (lvc R)) s) (by rw [ep]; exact hE s)).1
    rw [hM]
    apply Nat.eq_of_testBit_eq
    intro h
    rw [msk_bit]
    by_cases c : h < 8
    · rw [decide_eq_true c, Bool.true_and, xpd_bit R (hE s) c, xpd_bit R hs c, hC]
      cases cl : lvp R h with
      | false => rfl
      | true =>
        have ci : cnt (lvp R) h < lvc R := cnt_lt (lvp R) c cl
        have eh := hH_2 R c cl
        rw [msk_bit, decide_eq_true ci, Bool.true_and, Bool.true_and, Bool.true_and]
        cases cb : s.testBit (cnt (lvp R) h) with
        | false => rfl
        | true =>
          have lt := dif_b cb
          have ed := xpd_dif R hs ci
          rw [eh] at ed
          rw [ed, ih _ lt (by omega), Bool.true_and, Bool.true_and]
          have ez : decide (xpd 8 (lvm R) (dif s (2 ^ cnt (lvp R) h)) = 0) = decide (dif s (2 ^ cnt (lvp R) h) = 0) := by
            congr 1
            exact propext (xpd_z R (by omega))
          rw [ez]
          congr 1
          have hv := hE (dif s (2 ^ cnt (lvp R) h))
          generalize eE (stC G (lvc R)) (dif s (2 ^ cnt (lvp R) h)) = v at hv
          rw [hG _ ci]
          have P : exM R h (xpd 8 (lvm R) v) = true ↔ ¬ v &&& msk (fun j => apt (R (hH R (cnt (lvp R) h))) (R (hH R j))) (lvc R) = 0 := by
            rw [eh]
            unfold exM
            constructor
            · intro e q
              have : al (fun j => !((xpd 8 (lvm R) v).testBit j && apt (R h) (R j))) 0 8 = true := by
                rw [al_iff]
                intro j _ hj
                rw [xpd_bit R hv (by omega)]
                cases cj : lvp R j with
                | false => rfl
                | true =>
                  have cj2 : cnt (lvp R) j < lvc R := cnt_lt (lvp R) (by omega) cj
                  have b : (v &&& msk (fun j => apt (R h) (R (hH R j))) (lvc R)).testBit (cnt (lvp R) j) = false := by
                    rw [q]
                    exact Nat.zero_testBit _
                  rw [Nat.testBit_and, msk_bit, decide_eq_true cj2, hH_2 R (by omega) cj, Bool.true_and] at b
                  rw [Bool.true_and, b]
                  rfl
              rw [this] at e
              cases e
            · intro q
              cases e : al (fun j => !((xpd 8 (lvm R) v).testBit j && apt (R h) (R j))) 0 8 with
              | false => rfl
              | true =>
                exfalso
                apply q
                rw [al_iff] at e
                apply Nat.eq_of_testBit_eq
                intro j
                rw [Nat.testBit_and, msk_bit, Nat.zero_testBit]
                by_cases hj : j < lvc R
                · obtain ⟨b1, b2, b3⟩ := hH_1 R hj
                  have := e (hH R j) (Nat.zero_le _) (by omega)
                  rw [xpd_bit R hv b1, b2, b3, Bool.true_and] at this
                  rw [decide_eq_true hj, Bool.true_and]
                  cases q1 : v.testBit j
                  · rfl
                  · cases q2 : apt (R h) (R (hH R j))
                    · rfl
                    · rw [q1, q2] at this
                      exact absurd this (by decide)
                · rw [decide_eq_false hj, Bool.false_and, Bool.and_false]
          cases e1 : exM R h (xpd 8 (lvm R) v) with
          | false =>
            by_cases q : v &&& msk (fun j => apt (R (hH R (cnt (lvp R) h))) (R (hH R j))) (lvc R) = 0
            · rw [decide_eq_true q]; rfl
            · rw [P.2 q] at e1
              cases e1
          | true => rw [decide_eq_false (P.1 e1)]; rfl
    · rw [decide_eq_false c, Bool.false_and]
      exact (Nat.testBit_lt_two_pow (Nat.lt_of_lt_of_le y1 (by
        have : 2 ^ 8 ≤ 2 ^ h := Nat.pow_le_pow_right (by omega) (by omega)
        exact this))).symm
def ml (E : Nat → Nat) : Nat → Nat
  | 0 => 0
  | s + 1 => if E s ≠ 0 ∧ ml E s < pc s then pc s else ml E s
theorem ml_spec (E : Nat → Nat) : ∀ n, (∀ s, s < n → E s ≠ 0 → pc s ≤ ml E n) ∧ (ml E n = 0 ∨ ∃ s, s < n ∧ E s ≠ 0 ∧ pc s = ml E n)
  | 0 => ⟨fun s h => absurd h (Nat.not_lt_zero s), Or.inl rfl⟩
  | n + 1 => by
    obtain ⟨h1, h2⟩ := ml_spec E n
    have e : ml E (n + 1) = if E n ≠ 0 ∧ ml E n < pc n then pc n else ml E n := rfl
    by_cases c : E n ≠ 0 ∧ ml E n < pc n
    · rw [if_pos c] at e
      rw [e]
      refine ⟨fun s hs hE => ?_, Or.inr ⟨n, by omega, c.1, rfl⟩⟩
      by_cases q : s = n
      · rw [q]; exact Nat.le_refl _
      · have := h1 s (by omega) hE
        omega
    · rw [if_neg c] at e
      rw [e]
      refine ⟨fun s hs hE => ?_, ?_⟩
      · by_cases q : s = n
        · subst q
          rcases Nat.lt_or_ge (ml E s) (pc s) with w | w
          · exact absurd ⟨hE, w⟩ c
          · exact w
        · exact h1 s (by omega) hE
      · rcases h2 with q | ⟨s, s1, s2, s3⟩
        · exact Or.inl q
        · exact Or.inr ⟨s, by omega, s2, s3⟩
theorem ml_xpd (R : Nat → Nat) : ml (eE (stC (fun i => msk (fun j => apt (R (hH R i)) (R (hH R j))) (lvc R)) (lvc R))) (2 ^ lvc R) = ml (eE (stM R)) 256 := by
  have ep : pc (lvm R) = lvc R := pc_msk _
  have hE : ∀ s, eE (stC (fun i => msk (fun j => apt (R (hH R i)) (R (hH R j))) (lvc R)) (lvc R)) s < 2 ^ lvc R := by
    intro s
    rw [eE_eq (stC_c _ _)]
    exact msk_lt _ _
  obtain ⟨c1, c2⟩ := ml_spec (eE (stC (fun i => msk (fun j => apt (R (hH R i)) (R (hH R j))) (lvc R)) (lvc R))) (2 ^ lvc R)
  obtain ⟨m1, m2⟩ := ml_spec (eE (stM R)) 256
  apply Nat.le_antisymm
  · rcases c2 with q | ⟨s, s1, s2, s3⟩
    · omega
    · obtain ⟨x1, x2, x3⟩ := xpd_1 (lvm R) (lvm_lt R) s (by rw [ep]; exact s1)
      have := m1 _ x1 (by rw [tab_xpd R _ (fun _ _ => rfl) s s1]; intro q; exact s2 ((xpd_z R (hE s)).1 q))
      omega
  · rcases m2 with q | ⟨t, t1, t2, t3⟩
    · omega
    · have sub : dif t (lvm R) = 0 := by
        apply Classical.byContradiction
        intro q
        apply t2
        rw [eE_eq (stM_c R)]
        unfold stM
        rw [if_neg q]
      obtain ⟨d1, d2⟩ := xpd_4 (lvm R) (lvm_lt R) t t1 sub
      rw [ep] at d1
      have e := tab_xpd R (fun i => msk (fun j => apt (R (hH R i)) (R (hH R j))) (lvc R)) (fun _ _ => rfl) _ d1
      rw [d2] at e
      have := c1 _ d1 (by
        intro q
        rw [q] at e
        apply t2
        rw [e]
        exact (xpd_z R (Nat.pow_pos (by omega))).2 rfl)
      obtain ⟨x1, x2, x3⟩ := xpd_1 (lvm R) (lvm_lt R) (cpd 8 (lvm R) t) (by rw [ep]; exact d1)
      rw [d2] at x2
      omega
