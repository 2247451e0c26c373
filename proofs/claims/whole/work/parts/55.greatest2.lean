/-! ===== greatest: both ===== -/
theorem shl_M : ∀ M, M < 9 → (1 : Int32) <<< (nI M &&& 31) = nI (2 ^ M) := by decide +kernel
theorem bsh : ∀ h, h < 8 → ∀ b : Bool, bI b <<< (nI h &&& 31) = nI (if b = true then 2 ^ h else 0) := by decide +kernel
/-- the houses of the first i of a closed-up set -/
def hso (R : Nat → Nat) (s i : Nat) : Nat := msk (fun h => lvp R h && (decide (cnt (lvp R) h < i) && s.testBit (cnt (lvp R) h))) 8
theorem hso_s (R : Nat → Nat) (s : Nat) {i : Nat} (hi : i < lvc R) : hso R s i ||| (if s.testBit i = true then 2 ^ hH R i else 0) = hso R s (i + 1) := by
  obtain ⟨a1, a2, a3⟩ := hH_1 R hi
  apply Nat.eq_of_testBit_eq
  intro h
  unfold hso
  rw [Nat.testBit_or, msk_bit, msk_bit]
  by_cases c : h < 8
  · rw [decide_eq_true c, Bool.true_and, Bool.true_and]
    by_cases e : h = hH R i
    · rw [e, a2, a3, decide_eq_false (show ¬ i < i by omega), decide_eq_true (show i < i + 1 by omega)]
      cases s.testBit i
      · rw [if_neg (by decide), Nat.zero_testBit]; rfl
      · rw [if_pos rfl, Nat.testBit_two_pow, decide_eq_true rfl]; rfl
    · have e2 : (if s.testBit i = true then 2 ^ hH R i else 0 : Nat).testBit h = false := by
        split
        · rw [Nat.testBit_two_pow, decide_eq_false (fun q => e q.symm)]
        · exact Nat.zero_testBit h
      rw [e2, Bool.or_false]
      cases cl : lvp R h with
      | false => rfl
      | true =>
        have ne : cnt (lvp R) h ≠ i := by
          intro q
          apply e
          rw [← q]
          exact (hH_2 R c cl).symm
        rw [show decide (cnt (lvp R) h < i + 1) = decide (cnt (lvp R) h < i) by congr 1; apply propext; omega]
  · have e2 : (if s.testBit i = true then 2 ^ hH R i else 0 : Nat).testBit h = false := by
      split
      · rw [Nat.testBit_two_pow, decide_eq_false (by omega)]
      · exact Nat.zero_testBit h
    rw [e2, decide_eq_false c]
    rfl
theorem hso_M (R : Nat → Nat) {s : Nat} (hs : s < 2 ^ lvc R) : hso R s (lvc R) = xpd 8 (lvm R) s := by
  have ep : pc (lvm R) = lvc R := pc_msk _
  have xl := (xpd_1 (lvm R) (lvm_lt R) s (by rw [ep]; exact hs)).1
  apply Nat.eq_of_testBit_eq
  intro h
  unfold hso
  rw [msk_bit]
  by_cases c : h < 8
  · rw [decide_eq_true c, Bool.true_and, xpd_bit R hs c]
    cases cl : lvp R h with
    | false => rfl
    | true =>
      have : cnt (lvp R) h < lvc R := cnt_lt (lvp R) c cl
      rw [decide_eq_true this, Bool.true_and]
  · have : (xpd 8 (lvm R) s).testBit h = false := Nat.testBit_lt_two_pow (Nat.lt_of_lt_of_le xl (by
      have : 2 ^ 8 ≤ 2 ^ h := Nat.pow_le_pow_right (by omega) (by omega)
      exact this))
    rw [decide_eq_false c, this]
    rfl
theorem X4_housesOf {S : jS} {R G : Nat → Nat} (hS : stl S R G) {s : Nat} (hs : s < 2 ^ lvc R) : f_X4_housesOf (nI s) S = some (nI (xpd 8 (lvm R) s), S) := by
  have lc : lvc R ≤ 8 := cnt_le (lvp R) 8
  have s256 : s < 256 := Nat.lt_of_lt_of_le hs (by
    have : 2 ^ lvc R ≤ 2 ^ 8 := Nat.pow_le_pow_right (by omega) lc
    exact this)
  unfold f_X4_housesOf f_X4_housesOf_e lp_X4_housesOf_4
  have z : hso R s 0 = 0 := by
    unfold hso
    apply Nat.eq_of_testBit_eq
    intro h
    rw [msk_bit, Nat.zero_testBit, decide_eq_false (show ¬ cnt (lvp R) h < 0 by omega), Bool.false_and, Bool.and_false, Bool.and_false]
  refine jloop_u (fun i => (nI s, nI (hso R s i), nI i, S)) (lvc R) (by rw [z]; rfl) (by omega) (fun i hi g => ?_) (fun g => ?_)
  · dsimp only
    unfold f_X4_housesOf_4
    rw [hS.1, itlt (by omega) (by omega), if_pos hi, jld_nI (by omega) (by omega), (hS.2 i hi).1, bit_nI s (by omega) i (by omega), bsh _ (hH_1 R hi).1, or_nI, hso_s R s hi, show nI i + 1 = nI (i + 1) from qadd _ 1]
  · dsimp only
    unfold f_X4_housesOf_4 f_X4_housesOf_33
    rw [hS.1, itlt (by omega) (by omega), if_neg (by omega), hso_M R hs]
theorem bs_1 (g : Nat → Bool) : bs g 1 = 0 := by
  show (if pc 0 < pc 0 ∧ g 0 = true then 0 else 0) = 0
  rw [ite_self]
theorem X4_greatestSet {S : jS} {R : Nat → Nat} (hT : tabs S) (hR : rw8 R) (hc : ∀ j, j < 8 → S.1 22 j = nI (R j)) : ∃ S1, f_X4_settleApart_r22 S = some S1 ∧ f_X4_greatestSet S1 = some (nI (xpd 8 (lvm R) (bs (fun s => al (iap (fun i => msk (fun j => apt (R (hH R i)) (R (hH R j))) (lvc R)) s) 0 (lvc R)) (2 ^ lvc R))), S1) ∧ Ev S S1 := by
  have lc : lvc R ≤ 8 := cnt_le (lvp R) 8
  have p8 : 2 ^ lvc R ≤ 256 := by
    have : 2 ^ lvc R ≤ 2 ^ 8 := Nat.pow_le_pow_right (by omega) lc
    exact this
  have p1 : 0 < 2 ^ lvc R := Nat.pow_pos (by omega)
  obtain ⟨S1, e1, ev, hS⟩ := X4_settleApart hT hR hc
  refine ⟨S1, e1, ?_, ev⟩
  unfold f_X4_greatestSet f_X4_greatestSet_e lp_X4_greatestSet_4
  refine jloop_u (fun i => (nI (bs (fun s => al (iap (fun i => msk (fun j => apt (R (hH R i)) (R (hH R j))) (lvc R)) s) 0 (lvc R)) (i + 1)), nI (i + 1), S1)) (2 ^ lvc R - 1) (by rw [bs_1]; rfl) (by omega) (fun i hi g => ?_) (fun g => ?_)
  · have hb := bs_lt (fun s => al (iap (fun i => msk (fun j => apt (R (hH R i)) (R (hH R j))) (lvc R)) s) 0 (lvc R)) (show 0 < i + 1 by omega)
    have h1 := pc_8 (i + 1) (by omega)
    have h2 := pc_8 (bs (fun s => al (iap (fun i => msk (fun j => apt (R (hH R i)) (R (hH R j))) (lvc R)) s) 0 (lvc R)) (i + 1)) (by omega)
    dsimp only
    unfold f_X4_greatestSet_4 f_X4_greatestSet_35
    rw [hS.1, shl_M _ (by omega), itlt (by omega) (by omega), if_pos (by omega), J6_bitCount (by omega), jcl_s, J6_bitCount (by omega), jcl_s, itlt (by omega) (by omega), X4_isApart hS (by omega), jcl_s, ite_b, show nI (i + 1) + 1 = nI (i + 1 + 1) from qadd _ 1]
    have e : bs (fun s => al (iap (fun i => msk (fun j => apt (R (hH R i)) (R (hH R j))) (lvc R)) s) 0 (lvc R)) (i + 1 + 1) = if pc (bs (fun s => al (iap (fun i => msk (fun j => apt (R (hH R i)) (R (hH R j))) (lvc R)) s) 0 (lvc R)) (i + 1)) < pc (i + 1) ∧ al (iap (fun i => msk (fun j => apt (R (hH R i)) (R (hH R j))) (lvc R)) (i + 1)) 0 (lvc R) = true then i + 1 else bs (fun s => al (iap (fun i => msk (fun j => apt (R (hH R i)) (R (hH R j))) (lvc R)) s) 0 (lvc R)) (i + 1) := rfl
    rw [e]
    by_cases c : pc (bs (fun s => al (iap (fun i => msk (fun j => apt (R (hH R i)) (R (hH R j))) (lvc R)) s) 0 (lvc R)) (i + 1)) < pc (i + 1)
    · rw [if_pos c]
      by_cases c2 : al (iap (fun i => msk (fun j => apt (R (hH R i)) (R (hH R j))) (lvc R)) (i + 1)) 0 (lvc R) = true
      · rw [if_pos c2, if_pos ⟨c, c2⟩]
      · rw [if_neg c2, if_neg (fun q => c2 q.2)]
    · rw [if_neg c, if_neg (fun q => c q.1)]
  · have hb := bs_lt (fun s => al (iap (fun i => msk (fun j => apt (R (hH R i)) (R (hH R j))) (lvc R)) s) 0 (lvc R)) p1
    dsimp only
    unfold f_X4_greatestSet_4 f_X4_greatestSet_41
    rw [show 2 ^ lvc R - 1 + 1 = 2 ^ lvc R by omega, hS.1, shl_M _ (by omega), itlt (by omega) (by omega), if_neg (by omega), X4_housesOf hS hb, jcl_s]
