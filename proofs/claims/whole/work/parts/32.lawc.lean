/-! ===== the class's own laws ===== -/
theorem X5_lets {a b : Nat} (x : Int32) (ha0 : 0 < a) (ha : a ≤ 300) (hb0 : 0 < b) (hb : b ≤ 300) (S : jS) : f_X5_lets (nI a) (nI b) x S = some (bI (pln a b), S) := by
  have key : ∀ l g : Nat, 0 < l → l ≤ g → g ≤ 300 → f_X5_lets_22 (nI g) (nI l) S = some (bI (decide (l = g) || !dvs l g), S) := by
    intro l g h1 h2 h3
    unfold f_X5_lets_22 f_X5_lets_45 f_X5_lets_50
    have hm := Nat.mod_lt g h1
    simp (disch := omega) only [q1, qeq, qlt, jrm_nI]
    simp (disch := omega) only [q0, qeq]
    unfold dvs
    by_cases h : l = g
    · rw [if_pos h, decide_eq_true h]; rfl
    · rw [if_neg h, if_neg (by omega), decide_eq_false h]
      by_cases h9 : g % l = 0
      · rw [if_pos h9, decide_eq_true h9]; rfl
      · rw [if_neg h9, decide_eq_false h9]; rfl
  unfold f_X5_lets f_X5_lets_e f_X5_lets_10
  simp (disch := omega) only [qlt]
  unfold pln
  rcases Nat.lt_or_ge a b with h | h
  · rw [if_pos h, if_pos h, key a b ha0 (by omega) hb]
    have : dvs b a = false := by
      unfold dvs
      rw [Nat.mod_eq_of_lt h]
      exact decide_eq_false (by omega)
    rw [this]
    cases dvs a b <;> rfl
  · rw [if_neg (by omega), if_neg (by omega), key b a hb0 h ha]
    by_cases e : a = b
    · subst e
      rw [decide_eq_true rfl]; rfl
    · have : dvs a b = false := by
        unfold dvs
        rw [Nat.mod_eq_of_lt (by omega : b < a)]
        exact decide_eq_false (by omega)
      rw [this, decide_eq_false e, decide_eq_false (fun h => e h.symm)]
      cases dvs b a <;> rfl
theorem X5_r7 : f_X5_lets_r7 = f_X5_lets := rfl
theorem X5_r8 : f_X5_lets_r8 = f_X5_lets := rfl
theorem X5_r9 : f_X5_lets_r9 = f_X5_lets := rfl
theorem X5_r10 : f_X5_lets_r10 = f_X5_lets := rfl
theorem X5_r11 : f_X5_lets_r11 = f_X5_lets := rfl
theorem X0_lets {a b : Nat} (x : Int32) (ha0 : 0 < a) (ha : a ≤ 300) (hb0 : 0 < b) (hb : b ≤ 300) (S : jS) : f_X0_lets (nI a) (nI b) x S = some (bI (pln a b && evn a b), S) := by
  unfold f_X0_lets f_X0_lets_e f_X0_lets_22 f_X0_lets_23
  rw [qadd, q2, jrm_nI (by omega) (by omega) (by omega), X5_r7, X5_lets x ha0 ha hb0 hb S, jcl_s, ite_b]
  simp (disch := omega) only [q0, qeq]
  unfold evn
  by_cases h : (a + b) % 2 = 0
  · rw [if_pos h, decide_eq_true h]
    cases pln a b <;> rfl
  · rw [if_neg h, decide_eq_false h]
    cases pln a b <;> rfl
theorem X0_r9 : f_X0_lets_r9 = f_X0_lets := rfl
theorem X3_isPrime {S : jS} (hT : tabs S) {x : Nat} (h0 : 0 < x) (hx : x ≤ 300) : f_X3_isPrime (nI x) S = some (bI (prm x), S) := by
  unfold f_X3_isPrime f_X3_isPrime_e f_X3_isPrime_27 f_X3_isPrime_28 prm
  have hp := pt_le x
  rw [if_pos (show (0 : Int32) < nI x from nI_lt (a := 0) (b := x) h0 (by omega)), if_pos (show nI x < 301 from nI_lt (a := x) (b := 301) (by omega) (by decide)), jld_nI (by omega) (by omega), (hT x hx).1]
  simp (disch := omega) only [q1, qeq]
  by_cases h : pt x = 1
  · rw [if_pos h, decide_eq_true h]; rfl
  · rw [if_neg h, decide_eq_false h]; rfl
theorem X3_isSquare {S : jS} (hT : tabs S) {x : Nat} (h0 : 0 < x) (hx : x ≤ 300) : f_X3_isSquare (nI x) S = some (bI (sqr x), S) := by
  unfold f_X3_isSquare f_X3_isSquare_e f_X3_isSquare_26 f_X3_isSquare_27
  rw [if_pos (show (0 : Int32) < nI x from nI_lt (a := 0) (b := x) h0 (by omega)), if_pos (show nI x < 301 from nI_lt (a := x) (b := 301) (by omega) (by decide)), jld_nI (by omega) (by omega), (hT x hx).2.1, decide_eq_true h0, ite_b]
  cases sqr x <;> rfl
theorem X3_partsOf {S : jS} (hT : tabs S) {x : Nat} (h0 : 0 < x) (hx : x ≤ 300) : f_X3_partsOf (nI x) S = some (nI (pt x), S) := by
  unfold f_X3_partsOf f_X3_partsOf_e f_X3_partsOf_27
  simp (disch := omega) only [q1, q300, qlt, jld_nI, (hT x hx).1]
  rw [if_neg (by omega), if_neg (by omega)]
theorem X3_areFriends {S : jS} (hT : tabs S) {a b : Nat} (ha0 : 0 < a) (ha : a ≤ 300) (hb0 : 0 < b) (hb : b ≤ 300) : f_X3_areFriends (nI a) (nI b) S = some (bI (decide (pt a = b) && decide (pt b = a)), S) := by
  unfold f_X3_areFriends f_X3_areFriends_e f_X3_areFriends_38 f_X3_areFriends_39
  have hpa := pt_le a
  have hpb := pt_le b
  rw [X11_isNumber, jcl_s, okr_nI (by omega), decide_eq_true (show 1 ≤ a ∧ a ≤ 300 from ⟨ha0, ha⟩), ite_b, if_pos rfl, X11_isNumber, jcl_s, okr_nI (by omega), decide_eq_true (show 1 ≤ b ∧ b ≤ 300 from ⟨hb0, hb⟩), ite_b, if_pos rfl]
  simp (disch := omega) only [jld_nI, (hT a ha).1, (hT b hb).1, qeq]
  by_cases h1 : pt a = b
  · rw [if_pos h1, decide_eq_true h1]
    by_cases h2 : pt b = a
    · rw [if_pos h2, decide_eq_true h2]; rfl
    · rw [if_neg h2, decide_eq_false h2]; rfl
  · rw [if_neg h1, decide_eq_false h1]; rfl
theorem X6_lets {S : jS} (hT : tabs S) {a b : Nat} (x : Int32) (ha0 : 0 < a) (ha : a ≤ 300) (hb0 : 0 < b) (hb : b ≤ 300) : f_X6_lets (nI a) (nI b) x S = some (bI (pln a b && (!prm a && !prm b)), S) := by
  unfold f_X6_lets f_X6_lets_e f_X6_lets_36 f_X6_lets_37
  simp only [X3_isPrime hT ha0 ha, X3_isPrime hT hb0 hb, X5_r8, X5_lets x ha0 ha hb0 hb S, jcl_s, ite_b]
  cases pln a b <;> cases prm a <;> cases prm b <;> rfl
theorem X6_r11 : f_X6_lets_r11 = f_X6_lets := rfl
theorem X9_lets {S : jS} (hT : tabs S) {a b : Nat} (x : Int32) (ha0 : 0 < a) (ha : a ≤ 300) (hb0 : 0 < b) (hb : b ≤ 300) : f_X9_lets (nI a) (nI b) x S = some (bI ((pln a b && evn a b) || (sqr a && sqr b)), S) := by
  unfold f_X9_lets f_X9_lets_e f_X9_lets_36 f_X9_lets_32 f_X9_lets_37
  simp only [X3_isSquare hT ha0 ha, X3_isSquare hT hb0 hb, X0_r9, X0_lets x ha0 ha hb0 hb S, jcl_s, ite_b]
  cases pln a b && evn a b <;> cases sqr a <;> cases sqr b <;> rfl
theorem abs_lt {a b n : Nat} (ha : a ≤ 300) (hb : b ≤ 300) (hn : n ≤ 300) : ((if 0 ≤ nI a - nI b then nI a - nI b else 0 - (nI a - nI b)) < nI n) = (a < b + n ∧ b < a + n) := by
  apply propext
  have h0 : (0 ≤ nI a - nI b) ↔ b ≤ a := by
    rw [Int32.le_iff_toInt_le, pk_sub_toInt (by omega) (by omega)]
    show (0 : Int) ≤ _ ↔ _
    omega
  by_cases h : b ≤ a
  · rw [if_pos (h0.mpr h), sub_lt ha hb hn]
    omega
  · rw [if_neg (fun h9 => h (h0.mp h9)), nsub (by omega) hb]
    have e : (0 : Int32) - (0 - nI (b - a)) = nI (b - a) := by
      apply Int32.toInt_inj.mp
      rw [← nsub (by omega : a < b) hb]
      have h2 := pk_sub_toInt (a := a) (b := b) (by omega) (by omega)
      rw [Int32.toInt_sub, h2, nI_toInt (by omega)]
      show ((0 : Int) - _).bmod _ = _
      rw [Int.bmod_eq_of_le (by omega) (by omega)]
      omega
    rw [e, nI_ltI (by omega) (by omega)]
    omega
theorem X8_lets {a b n : Nat} (hn : n ≤ 300) (ha0 : 0 < a) (ha : a ≤ 300) (hb0 : 0 < b) (hb : b ≤ 300) (S : jS) : f_X8_lets (nI a) (nI b) (nI n) S = some (bI (pln a b && decide (b + n ≤ a ∨ a + n ≤ b)), S) := by
  unfold f_X8_lets f_X8_lets_e f_X8_lets_24 f_X8_lets_25
  simp only [X5_r10, X5_lets (nI n) ha0 ha hb0 hb S, jcl_s, ite_b, abs_lt ha hb hn]
  by_cases h : a < b + n ∧ b < a + n
  · rw [if_pos h, decide_eq_false (by omega)]
    cases pln a b <;> rfl
  · rw [if_neg h, decide_eq_true (by omega)]
    cases pln a b <;> rfl
theorem X1_lets {S : jS} (hT : tabs S) {a b : Nat} (x : Int32) (ha0 : 0 < a) (ha : a ≤ 300) (hb0 : 0 < b) (hb : b ≤ 300) : f_X1_lets (nI a) (nI b) x S = some (bI ((pln a b && (!prm a && !prm b)) || (decide (pt a = b) && decide (pt b = a))), S) := by
  unfold f_X1_lets f_X1_lets_e f_X1_lets_22 f_X1_lets_27
  simp only [X6_r11, X6_lets hT x ha0 ha hb0 hb, X3_areFriends hT ha0 ha hb0 hb, jcl_s, ite_b]
  cases pln a b && (!prm a && !prm b) <;> cases decide (pt a = b) && decide (pt b = a) <;> rfl
/-- beside nobody everybody may live -/
def mayE (k n a b : Nat) : Bool := decide (a = 0) || (decide (b = 0) || may k n a b)
theorem X2_allows {S : jS} (hT : tabs S) {k n a b : Nat} (hk : k < 6) (hn : n < 10) (ha : a ≤ 300) (hb : b ≤ 300) : f_X2_allows (nI (10 * k + n)) (nI a) (nI b) S = some (bI (mayE k n a b), S) := by
  unfold f_X2_allows f_X2_allows_e f_X2_allows_18 f_X2_allows_50 f_X2_allows_55 mayE
  by_cases ha0 : a = 0
  · subst ha0; rfl
  · rw [if_neg (show ¬ nI a = 0 from nI_ne0 (by omega) (by omega)), decide_eq_false ha0]
    by_cases hb0 : b = 0
    · subst hb0; rfl
    · rw [if_neg (show ¬ nI b = 0 from nI_ne0 (by omega) (by omega)), decide_eq_false hb0]
      rw [if_neg (nI_pos (by omega)), if_pos (show nI (10 * k + n) < 60 from nI_lt (a := 10 * k + n) (b := 60) (by omega) (by decide))]
      have e1 : (10 * k + n) / 10 = k := by omega
      have e2 : (10 * k + n) % 10 = n := by omega
      simp (disch := omega) only [q10, jdv_nI, jrm_nI, e1, e2]
      rw [X5_lets _ (by omega) ha (by omega) hb, X0_lets _ (by omega) ha (by omega) hb, X6_lets hT _ (by omega) ha (by omega) hb, X9_lets hT _ (by omega) ha (by omega) hb, X8_lets (by omega) (by omega) ha (by omega) hb, X1_lets hT _ (by omega) ha (by omega) hb]
      simp only [jcl_s, ite_b]
      simp (disch := omega) only [q0, q1, q2, q3, q4, q5, qeq]
      unfold may
      rcases (show k = 0 ∨ k = 1 ∨ k = 2 ∨ k = 3 ∨ k = 4 ∨ k = 5 by omega) with rfl | rfl | rfl | rfl | rfl | rfl
      · show (if pln a b = true then _ else _) = some (bI (pln a b), S)
        cases pln a b <;> rfl
      · show (if (pln a b && evn a b) = true then _ else _) = some (bI (pln a b && evn a b), S)
        cases pln a b && evn a b <;> rfl
      · show (if (pln a b && (!prm a && !prm b)) = true then _ else _) = some (bI (pln a b && (!prm a && !prm b)), S)
        cases pln a b && (!prm a && !prm b) <;> rfl
      · show (if ((pln a b && evn a b) || (sqr a && sqr b)) = true then _ else _) = some (bI ((pln a b && evn a b) || (sqr a && sqr b)), S)
        cases (pln a b && evn a b) || (sqr a && sqr b) <;> rfl
      · show (if (pln a b && decide (b + n ≤ a ∨ a + n ≤ b)) = true then _ else _) = some (bI (pln a b && decide (b + n ≤ a ∨ a + n ≤ b)), S)
        cases pln a b && decide (b + n ≤ a ∨ a + n ≤ b) <;> rfl
      · show (if ((pln a b && (!prm a && !prm b)) || (decide (pt a = b) && decide (pt b = a))) = true then _ else _) = some (bI ((pln a b && (!prm a && !prm b)) || (decide (pt a = b) && decide (pt b = a))), S)
        cases (pln a b && (!prm a && !prm b)) || (decide (pt a = b) && decide (pt b = a)) <;> rfl
