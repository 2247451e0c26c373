/-! ===== the sum of the parts of any number ===== -/
def sumr (p : Nat → Bool) : Nat → Nat
  | 0 => 0
  | n + 1 => sumr p n + (if p n = true then n else 0)
theorem sumr_c {p q : Nat → Bool} : ∀ n, (∀ j, j < n → p j = q j) → sumr p n = sumr q n
  | 0, _ => rfl
  | n + 1, h => by
    show sumr p n + (if p n = true then n else 0) = sumr q n + (if q n = true then n else 0)
    rw [sumr_c n (fun j hj => h j (by omega)), h n (by omega)]
theorem sumr_up {p q : Nat → Bool} {a : Nat} (hp : p a = false) (hq : q a = true) : ∀ n, a < n → (∀ j, j < n → j ≠ a → q j = p j) → sumr q n = sumr p n + a
  | 0, h, _ => absurd h (Nat.not_lt_zero a)
  | n + 1, h, e => by
    show sumr q n + (if q n = true then n else 0) = sumr p n + (if p n = true then n else 0) + a
    rcases Nat.lt_or_ge a n with hl | hl
    · rw [sumr_up hp hq n hl (fun j hj => e j (by omega)), e n (by omega) (by omega)]
      omega
    · have ea : a = n := by omega
      subst ea
      rw [sumr_c (p := q) (q := p) a (fun j hj => e j (by omega) (by omega)), hp, hq]
      rfl
theorem sumr_le (p : Nat → Bool) : ∀ n, sumr p n ≤ n * n
  | 0 => Nat.le_refl _
  | n + 1 => by
    have h := sumr_le p n
    show sumr p n + (if p n = true then n else 0) ≤ (n + 1) * (n + 1)
    rw [Nat.add_mul, Nat.mul_add]
    split <;> omega
def sd (x : Nat) : Nat := sumr (fun j => decide (x % j = 0)) x
theorem sd_pt : ∀ x, x < 301 → pt x = sd x := by decide +kernel
theorem sd_lt {x : Nat} (h : x ≤ 9999) : sd x < 100000000 := by
  have h1 := sumr_le (fun j => decide (x % j = 0)) x
  have h2 : x * x ≤ 9999 * 9999 := Nat.mul_le_mul h h
  unfold sd
  omega
theorem X12_partsOf {x : Nat} (h0 : 0 < x) (hx : x ≤ 9999) (S : jS) : f_X12_partsOf (nI x) S = some (nI (sd x), S) := by
  unfold f_X12_partsOf f_X12_partsOf_e lp_X12_partsOf_4
  refine jloop_u (fun i => (nI x, nI (sumr (fun j => decide (x % j = 0)) (i + 1)), nI (i + 1), S)) (x - 1) (by show (nI x, 0, 1, S) = (nI x, nI (0 + (if decide (x % 0 = 0) = true then 0 else 0)), nI 1, S); rw [ite_self]; rfl) (by omega) (fun i hi g => ?_) (fun g => ?_)
  · dsimp only
    unfold f_X12_partsOf_4 f_X12_partsOf_21
    have hm := Nat.mod_lt x (show i + 1 > 0 by omega)
    rw [itlt (by omega) (by omega), if_pos (by omega), jrm_nI (by omega) (by omega) (by omega), itv q0 (by omega) (by omega), qadd, show nI (sumr (fun j => decide (x % j = 0)) (i + 1)) + 0 = nI (sumr (fun j => decide (x % j = 0)) (i + 1) + 0) from qadd _ 0, show nI (i + 1) + 1 = nI (i + 1 + 1) from qadd _ 1]
    show _ = g (nI x, nI (sumr (fun j => decide (x % j = 0)) (i + 1) + (if decide (x % (i + 1) = 0) = true then i + 1 else 0)), nI (i + 1 + 1), S)
    simp only [decide_eq_true_eq]
    split <;> rfl
  · dsimp only
    unfold f_X12_partsOf_4 f_X12_partsOf_29
    rw [show x - 1 + 1 = x by omega, itlt (by omega) (by omega), if_neg (by omega)]
    rfl
/-- the parts that are seen below d, or whose other part is -/
def pD (x d j : Nat) : Bool := decide (x % j = 0) && (decide (j < d) || decide (x / j < d))
theorem pD_end {x d : Nat} (h : x < d * d) : sumr (pD x d) x = sd x := by
  refine sumr_c x (fun j hj => ?_)
  unfold pD
  by_cases c : x % j = 0
  · rw [decide_eq_true c]
    by_cases c2 : j < d
    · rw [decide_eq_true c2]; rfl
    · have h0 : 0 < j := by
        rcases Nat.eq_zero_or_pos j with e | e
        · subst e
          rw [Nat.mod_zero] at c
          omega
        · exact e
      have : x / j < d := by
        rw [Nat.div_lt_iff_lt_mul h0]
        exact Nat.lt_of_lt_of_le h (Nat.mul_le_mul_left d (by omega))
      rw [decide_eq_true this, Bool.or_true]; rfl
  · rw [decide_eq_false c]; rfl
theorem pD_2 {x : Nat} (hx : 2 ≤ x) : sumr (pD x 2) x = 1 := by
  have z : ∀ n, sumr (fun _ => false) n = 0 := by
    intro n
    induction n with
    | zero => rfl
    | succ n ih => show sumr (fun _ => false) n + 0 = 0; rw [ih]
  have := sumr_up (p := fun _ => false) (q := pD x 2) (a := 1) rfl (by unfold pD; rw [Nat.mod_one]; rfl) x (by omega) (fun j hj hne => ?_)
  · rw [this, z]
  · unfold pD
    by_cases c : x % j = 0
    · have h0 : 0 < j := by
        rcases Nat.eq_zero_or_pos j with e | e
        · subst e
          rw [Nat.mod_zero] at c
          omega
        · exact e
      have e := Nat.div_add_mod x j
      rw [c, Nat.add_zero] at e
      have : ¬ x / j < 2 := by
        intro q
        have q2 : x / j = 0 ∨ x / j = 1 := by
          revert q
          generalize x / j = z
          intro q
          omega
        rcases q2 with q | q
        · rw [q, Nat.mul_zero] at e; omega
        · rw [q, Nat.mul_one] at e; omega
      rw [decide_eq_false this, decide_eq_false (show ¬ j < 2 by omega), Bool.or_false, Bool.and_false]
    · rw [decide_eq_false c]; rfl
theorem pD_out {x d j : Nat} (hx : 0 < x) (h1 : j ≠ d) (h2 : ¬ (x % d = 0 ∧ j = x / d)) : pD x (d + 1) j = pD x d j := by
  unfold pD
  by_cases c : x % j = 0
  · have h0 : 0 < j := by
      rcases Nat.eq_zero_or_pos j with e | e
      · subst e
        rw [Nat.mod_zero] at c
        omega
      · exact e
    have e := Nat.div_add_mod x j
    rw [c] at e
    have e : j * (x / j) = x := e
    have ne : x / j ≠ d := by
      intro q
      rw [q] at e
      apply h2
      have hd : 0 < d := by
        rcases Nat.eq_zero_or_pos d with g | g
        · rw [g, Nat.mul_zero] at e; omega
        · exact g
      rw [← e, Nat.mul_mod_left, Nat.mul_div_cancel j hd]
      exact ⟨rfl, rfl⟩
    rw [show decide (j < d + 1) = decide (j < d) by congr 1; apply propext; omega, show decide (x / j < d + 1) = decide (x / j < d) by congr 1; apply propext; omega]
  · rw [decide_eq_false c]; rfl
theorem pD_no {x d : Nat} (hx : 0 < x) (h : x % d ≠ 0) : sumr (pD x (d + 1)) x = sumr (pD x d) x := by
  refine sumr_c x (fun j hj => ?_)
  by_cases e : j = d
  · subst e
    unfold pD
    rw [decide_eq_false h]; rfl
  · exact pD_out hx e (fun q => h q.1)
theorem pD_at {x d : Nat} (hd : 2 ≤ d) (hdd : d * d ≤ x) (h : x % d = 0) : pD x d d = false ∧ pD x (d + 1) d = true ∧ d < x := by
  have h1 : d ≤ x / d := (Nat.le_div_iff_mul_le (by omega)).2 hdd
  refine ⟨?_, ?_, ?_⟩
  · unfold pD
    rw [decide_eq_false (show ¬ d < d by omega), decide_eq_false (show ¬ x / d < d by omega), Bool.or_false, Bool.and_false]
  · unfold pD
    rw [decide_eq_true h, decide_eq_true (show d < d + 1 by omega)]; rfl
  · have : 2 * d ≤ d * d := Nat.mul_le_mul_right d hd
    omega
theorem pD_sq {x d : Nat} (hd : 2 ≤ d) (hdd : d * d ≤ x) (h : x % d = 0) (he : x / d = d) : sumr (pD x (d + 1)) x = sumr (pD x d) x + d := by
  obtain ⟨h1, h2, h3⟩ := pD_at hd hdd h
  refine sumr_up h1 h2 x h3 (fun j hj hne => pD_out (by omega) hne (fun q => hne (by rw [q.2, he])))
theorem pD_two {x d : Nat} (hd : 2 ≤ d) (hdd : d * d ≤ x) (h : x % d = 0) (he : x / d ≠ d) : sumr (pD x (d + 1)) x = sumr (pD x d) x + (d + x / d) := by
  obtain ⟨h1, h2, h3⟩ := pD_at hd hdd h
  have hx : 0 < x := by omega
  have ge : d ≤ x / d := (Nat.le_div_iff_mul_le (by omega)).2 hdd
  have em := Nat.div_add_mod x d
  rw [h] at em
  have em : d * (x / d) = x := em
  have lt : x / d < x := Nat.div_lt_self hx (by omega)
  have md : x % (x / d) = 0 := by
    have : x = d * (x / d) := em.symm
    conv => lhs; lhs; rw [this]
    exact Nat.mul_mod_left d (x / d)
  have dv : x / (x / d) = d := by
    have : x = d * (x / d) := em.symm
    conv => lhs; lhs; rw [this]
    exact Nat.mul_div_cancel d (by omega)
  have s1 := sumr_up (p := pD x d) (q := fun j => pD x d j || decide (j = d)) (a := d) h1 (by simp) x h3 (fun j hj hne => by rw [decide_eq_false hne, Bool.or_false])
  have f1 : pD x d (x / d) = false := by
    unfold pD
    rw [decide_eq_false (show ¬ x / d < d by omega), dv, decide_eq_false (show ¬ d < d by omega), Bool.or_false, Bool.and_false]
  have f2 : pD x (d + 1) (x / d) = true := by
    unfold pD
    rw [decide_eq_true md, dv, decide_eq_true (show d < d + 1 by omega), Bool.or_true]; rfl
  have s2 := sumr_up (p := fun j => pD x d j || decide (j = d)) (q := pD x (d + 1)) (a := x / d) (by show (pD x d (x / d) || decide (x / d = d)) = false; rw [f1, decide_eq_false he]; rfl) f2 x lt (fun j hj hne => by
    by_cases e : j = d
    · subst e
      rw [h2, decide_eq_true rfl, Bool.or_true]
    · rw [decide_eq_false e, Bool.or_false]
      exact pD_out hx e (fun q => hne q.2))
  rw [s2, s1]
  omega
theorem X3_addParts {x : Nat} (h0 : 300 < x) (hx : x ≤ 9999) (S : jS) : f_X3_addParts (nI x) S = some (nI (sd x), S) := by
  unfold f_X3_addParts f_X3_addParts_e lp_X3_addParts_4
  refine jloop_wf (fun a => ∃ d, 2 ≤ d ∧ d ≤ 100 ∧ a = (nI x, nI (sumr (pD x d) x), nI d, S)) (fun a => 200 - a.2.2.1.toNatClampNeg) (fun _ => some (nI (sd x), S)) ?_ jN (nI x, 1, 2, S) ⟨2, by omega, by omega, by rw [pD_2 (by omega)]; rfl⟩ (jN_big (by show 200 - (nI 2).toNatClampNeg < _; omega))
  rintro _ ⟨d, hd, hd2, rfl⟩ g hg
  dsimp only
  unfold f_X3_addParts_4 f_X3_addParts_41 f_X3_addParts_43 f_X3_addParts_49
  have hdd : d * d ≤ 100 * 100 := Nat.mul_le_mul hd2 hd2
  have hm := Nat.mod_lt x (show d > 0 by omega)
  have hv : x / d ≤ x := Nat.div_le_self x d
  rw [itg (show (9999 : Int32) = nI 9999 from rfl) (by omega) (by omega), if_neg (by omega), qmul, itlt (by omega) (by omega)]
  by_cases c : x < d * d
  · rw [if_pos c, pD_end c]
  · have d99 : d < 100 := by
      rcases Nat.lt_or_ge d 100 with q | q
      · exact q
      · have e : d = 100 := by omega
        subst e
        omega
    rw [if_neg c, jrm_nI (by omega) (by omega) (by omega), itv q0 (by omega) (by omega), jdv_nI (by omega) (by omega) (by omega), iteq (by omega) (by omega), show nI d + 1 = nI (d + 1) from qadd _ 1, qadd, qadd, qadd]
    have st : g (nI x, nI (sumr (pD x (d + 1)) x), nI (d + 1), S) = some (nI (sd x), S) := hg _ ⟨d + 1, by omega, by omega, rfl⟩ (by dsimp only; rw [qcl (by omega), qcl (by omega)]; omega)
    by_cases c1 : x % d = 0
    · rw [if_pos c1]
      by_cases c2 : x / d = d
      · rw [if_pos c2]
        rw [pD_sq hd (by omega) c1 c2] at st
        exact st
      · rw [if_neg c2]
        rw [pD_two hd (by omega) c1 c2] at st
        exact st
    · rw [if_neg c1]
      rw [pD_no (by omega) c1] at st
      exact st
theorem X3_sd {S : jS} (hT : tabs S) {x : Nat} (h0 : 0 < x) (hx : x ≤ 9999) : f_X3_partsOf (nI x) S = some (nI (sd x), S) := by
  by_cases c : x ≤ 300
  · rw [X3_partsOf hT h0 c, sd_pt x (by omega)]
  · unfold f_X3_partsOf f_X3_partsOf_e f_X3_partsOf_27
    rw [itl q1 (by omega) (by omega), if_neg (by omega), itg q300 (by omega) (by omega), if_pos (by omega), X3_addParts (by omega) hx, jcl_s]
/-! ===== chain ===== -/
def ch (x : Nat) : Nat → Nat
  | 0 => x
  | i + 1 => sd (ch x i)
/-- none of the first i is v -/
def nin (x v i : Nat) : Bool := al (fun t => !decide (ch x t = v)) 0 i
def en (x i : Nat) : Bool := decide (ch x i = 0) || (decide (9999 < ch x i) || !nin x (ch x i) i)
theorem en_stop (x : Nat) : ∀ f i, i + f = 20 → ∃ m, i ≤ m ∧ m ≤ 20 ∧ (∀ t, i ≤ t → t < m → en x t = false) ∧ (en x m = true ∨ m = 20)
  | 0, i, e => ⟨i, Nat.le_refl _, by omega, fun t h1 h2 => by omega, Or.inr (by omega)⟩
  | f + 1, i, e => by
    cases c : en x i with
    | true => exact ⟨i, Nat.le_refl _, by omega, fun t h1 h2 => by omega, Or.inl c⟩
    | false =>
      obtain ⟨m, h1, h2, h3, h4⟩ := en_stop x f (i + 1) (by omega)
      refine ⟨m, by omega, h2, fun t g1 g2 => ?_, h4⟩
      by_cases q : t = i
      · rw [q]; exact c
      · exact h3 t (by omega) g2
theorem en_f {x i : Nat} (h : en x i = false) : 0 < ch x i ∧ ch x i ≤ 9999 := by
  unfold en at h
  rw [Bool.or_eq_false_iff, Bool.or_eq_false_iff, decide_eq_false_iff_not, decide_eq_false_iff_not] at h
  omega
theorem X11_isLink {S : jS} {x v n : Nat} (hn : n ≤ 21) (hv : v < 2147483648) (h10 : S.1 0 10 = nI n) (h40 : ∀ t, t < n → S.1 40 t = nI (ch x t) ∧ ch x t < 2147483648) : f_X11_isLink (nI v) S = some (bI (!nin x v n), S) := by
  unfold f_X11_isLink f_X11_isLink_e lp_X11_isLink_2
  refine jloop_wf (fun a => ∃ i, i ≤ n ∧ a = (nI v, nI i, S)) (fun a => 21 - a.2.1.toNatClampNeg) (fun a => some (bI (!al (fun t => !decide (ch x t = v)) a.2.1.toNatClampNeg (n - a.2.1.toNatClampNeg)), S)) ?_ jN (nI v, 0, S) ⟨0, by omega, rfl⟩ (jN_big (by show 21 - (nI 0).toNatClampNeg < _; omega))
  rintro _ ⟨i, hi, rfl⟩ g hg
  dsimp only
  unfold f_X11_isLink_2 f_X11_isLink_29 f_X11_isLink_37
  rw [qcl (by omega), h10, itlt (by omega) (by omega)]
  by_cases c : i < n
  · obtain ⟨r1, r2⟩ := h40 i c
    rw [if_pos c, itl (show (21 : Int32) = nI 21 from rfl) (by omega) (by omega), if_pos (by omega), jld_nI (by omega) (by omega), r1, iteq r2 hv, show n - i = (n - (i + 1)) + 1 by omega, al_s, show nI i + 1 = nI (i + 1) from qadd _ 1]
    by_cases c2 : ch x i = v
    · rw [if_pos c2, decide_eq_true c2]; rfl
    · rw [if_neg c2, decide_eq_false c2]
      dsimp only
      rw [hg _ ⟨i + 1, by omega, rfl⟩ (by dsimp only; rw [qcl (by omega), qcl (by omega)]; omega)]
      dsimp only
      rw [qcl (by omega)]
      rfl
  · rw [if_neg c, show n - i = 0 by omega]
    rfl
theorem X12_chain_94 {k130 : Int32 → Int32 → Int32 → Int32 → jS → Option (Int32 × jS)} {S : jS} {x v n : Nat} (y w : Int32) (b : Bool) (hn : n ≤ 20) (hv : v < 2147483648) (h51 : ∀ t, t < n → S.1 51 t = nI (ch x t) ∧ ch x t < 2147483648) : lp_X12_chain_94 k130 y w (nI n) (bI b) (nI v) 0 S = k130 y w (nI n) (bI (b || !nin x v n)) S := by
  unfold lp_X12_chain_94
  refine (jloop_wf (fun a => ∃ i b, i ≤ n ∧ a = (y, w, nI n, bI b, nI v, nI i, S)) (fun a => 21 - a.2.2.2.2.2.1.toNatClampNeg) (fun a => k130 y w (nI n) (bI (!decide (a.2.2.2.1 = 0) || !al (fun t => !decide (ch x t = v)) a.2.2.2.2.2.1.toNatClampNeg (n - a.2.2.2.2.2.1.toNatClampNeg))) S) ?_ jN (y, w, nI n, bI b, nI v, 0, S) ⟨0, b, by omega, rfl⟩ (jN_big (by show 21 - (nI 0).toNatClampNeg < _; omega))).trans ?_
  · rintro _ ⟨i, b, hi, rfl⟩ g hg
    dsimp only
    unfold f_X12_chain_94 f_X12_chain_117 f_X12_chain_122
    have eb0 : ∀ b, (!decide (bI b = 0)) = b := by intro b; cases b <;> rfl
    rw [qcl (by omega), eb0, itlt (by omega) (by omega), show nI i + 1 = nI (i + 1) from qadd _ 1, ite_b]
    by_cases c : i < n
    · obtain ⟨r1, r2⟩ := h51 i c
      have st : ∀ b', g (y, w, nI n, bI b', nI v, nI (i + 1), S) = k130 y w (nI n) (bI (b' || !al (fun t => !decide (ch x t = v)) (i + 1) (n - (i + 1)))) S := by
        intro b'
        rw [hg _ ⟨i + 1, b', by omega, rfl⟩ (by dsimp only; rw [qcl (by omega), qcl (by omega)]; omega)]
        dsimp only
        rw [qcl (by omega), eb0]
      rw [if_pos c, show n - i = (n - (i + 1)) + 1 by omega, al_s]
      cases b
      · rw [if_neg (by decide), jld_nI (by omega) (by omega), r1, iteq r2 hv]
        by_cases c2 : ch x i = v
        · rw [if_pos c2, decide_eq_true c2]
          exact st true
        · rw [if_neg c2, decide_eq_false c2]
          exact st false
      · rw [if_pos rfl]
        exact st true
    · rw [if_neg c, show n - i = 0 by omega]
      cases b <;> rfl
  · dsimp only
    cases b <;> rfl
theorem op_chain (x y : Int32) {S : jS} (h : GG S) : O2 (f_X11_chain x y S) (f_X12_chain x y) := by
  obtain ⟨B, T, tl, hR⟩ := id h
  cases hx : okr x 1 300 with
  | false =>
    refine O2_bad h (-2) ?_ ?_
    · unfold f_X11_chain f_X11_chain_e f_X11_chain_16
      rw [X11_isNumber, jcl_s, hx, ite_b, if_neg (by decide), X11_refuseBad, jcl_s]
    · unfold f_X12_chain f_X12_chain_e f_X12_chain_19
      rw [X12_isNumber, jcl_s, hx, ite_b, if_neg (by decide), X12_bad, jcl_s]
      rfl
  | true =>
    cases hy : okr y 0 2 with
    | false =>
      refine O2_bad h (-2) ?_ ?_
      · unfold f_X11_chain f_X11_chain_e f_X11_chain_16
        rw [X11_isNumber, jcl_s, hx, ite_b, if_pos rfl, show (2 : Int32) = nI 2 from rfl, rng0 y 2 (by omega), hy, if_neg (by decide), X11_refuseBad, jcl_s]
        rfl
      · unfold f_X12_chain f_X12_chain_e f_X12_chain_19
        rw [X12_isNumber, jcl_s, hx, ite_b, if_pos rfl, show f_X12_in y.toInt64 0 2 _ = some (bI (okr y 0 2), _) from X12_inN y 0 2 (by omega) (by omega) _, jcl_s, hy, ite_b, if_neg (by decide), X12_bad, jcl_s]
        rfl
    | true =>
      obtain ⟨a, ha0, ha, rfl⟩ := okr_of hx (by omega)
      obtain ⟨w, -, hw, rfl⟩ := okr_of hy (by omega)
      obtain ⟨m, m1, m2, m3, m4⟩ := en_stop a 19 1 (by omega)
      have cb : ∀ i, i < m → 0 < ch a i ∧ ch a i ≤ 9999 := by
        intro i hi
        rcases Nat.eq_zero_or_pos i with e | e
        · subst e
          exact ⟨by show 0 < a; omega, by show a ≤ 9999; omega⟩
        · exact en_f (m3 i (by omega) hi)
      have cl : ∀ i, i ≤ m → ch a i < 100000000 := by
        intro i hi
        cases i with
        | zero => show a < _; omega
        | succ i => exact sd_lt (cb i (by omega)).2
      have e11 : ∃ S1, f_X11_followChain (nI a) S = some (nI (ch a m), S1) ∧ Ev S S1 ∧ S1.1 0 10 = nI (m + 1) := by
        unfold f_X11_followChain f_X11_followChain_e
        rw [q0, jst_nI (by omega) (by omega), jpt_s]
        unfold lp_X11_followChain_19
        refine jloop_i (fun i q => ∃ S', q = (nI (ch a i), bI (decide (0 < i) && en a i), nI (i + 1), S') ∧ Ev S S' ∧ S'.1 0 10 = nI (i + 1) ∧ ∀ t, t ≤ i → S'.1 40 t = nI (ch a t)) (fun r => ∃ S1, r = some (nI (ch a m), S1) ∧ Ev S S1 ∧ S1.1 0 10 = nI (m + 1)) m (by omega) ?_ ?_ ⟨_, rfl, (Ev.I S 40 0 _ rfl (by omega) (by omega) (by omega)).tr (Ev.F _ 0 10 _ (by omega)), rfl, fun t ht => ?_⟩
        · rintro i hi _ ⟨S', rfl, ev, h10, h40⟩
          have hz : (decide (0 < i) && en a i) = false := by
            rcases Nat.eq_zero_or_pos i with e | e
            · subst e; rfl
            · rw [m3 i (by omega) hi, Bool.and_false]
          have c1 := cb i hi
          have c2 := cl (i + 1) (by omega)
          refine ⟨_, ⟨jsI (jsI S' 40 (i + 1) (nI (ch a (i + 1)))) 0 10 (nI (i + 1 + 1)), rfl, ev.tr ((Ev.I S' 40 _ _ rfl (by omega) (by omega) (by omega)).tr (Ev.F _ 0 10 _ (by omega))), rfl, fun t ht => ?_⟩, fun g => ?_⟩
          · show upd (S'.1 40) (i + 1) (nI (ch a (i + 1))) t = _
            rw [upd_1]
            by_cases e : t = i + 1
            · rw [if_pos e, e]
            · rw [if_neg e]
              exact h40 t (by omega)
          · dsimp only
            unfold f_X11_followChain_19 f_X11_followChain_58 f_X11_followChain_63
            rw [itg (show (20 : Int32) = nI 20 from rfl) (by omega) (by omega), if_neg (by omega), hz, if_pos (by decide), X3_sd (tabs_ev hR.1 ev) c1.1 c1.2, jcl_s]
            have e1 : sd (ch a i) = ch a (i + 1) := rfl
            rw [e1, itv q0 (by omega) (by omega), itg (show (9999 : Int32) = nI 9999 from rfl) (by omega) (by omega), X11_isLink (x := a) (show i + 1 ≤ 21 by omega) (by omega) h10 (fun t ht => ⟨h40 t (by omega), by have := cl t (by omega); omega⟩), jcl_s, ite_b, jst_nI (by omega) (by omega), jpt_s, jst_nI (by omega) (by omega), jpt_s, show nI (i + 1) + 1 = nI (i + 1 + 1) from qadd _ 1, decide_eq_true (show 0 < i + 1 by omega)]
            have e2 : en a (i + 1) = (decide (ch a (i + 1) = 0) || (decide (9999 < ch a (i + 1)) || !nin a (ch a (i + 1)) (i + 1))) := rfl
            rw [e2]
            dsimp only
            by_cases d1 : ch a (i + 1) = 0
            · rw [if_pos d1, decide_eq_true d1]; rfl
            · rw [if_neg d1, decide_eq_false d1]
              by_cases d2 : 9999 < ch a (i + 1)
              · rw [if_pos d2, decide_eq_true d2]; rfl
              · rw [if_neg d2, decide_eq_false d2]
                cases nin a (ch a (i + 1)) (i + 1) <;> rfl
        · rintro _ ⟨S', rfl, ev, h10, h40⟩
          refine ⟨_, ⟨S', rfl, ev, h10⟩, fun g => ?_⟩
          dsimp only
          unfold f_X11_followChain_19 f_X11_followChain_86
          rw [itg (show (20 : Int32) = nI 20 from rfl) (by omega) (by omega)]
          rcases m4 with e | e
          · rw [e, decide_eq_true (show 0 < m by omega), if_neg (show ¬ bI (true && true) = 0 by decide), ite_self]
          · rw [if_pos (by omega)]
        · have : t = 0 := by omega
          subst this
          rfl
      obtain ⟨S1, e1, ev1, h10⟩ := e11
      have em : ∀ S0 : jS, RR S0 B T tl → ∃ S2, f_X12_chain (nI a) (nI w) S0 = f_X12_chain_133 (nI a) (nI w) (nI m) S2 ∧ Ev S0 S2 ∧ S2.1 51 m = nI (ch a m) := by
        intro S0 hR0
        unfold f_X12_chain f_X12_chain_e
        rw [X12_isNumber, jcl_s, hx, ite_b, if_pos rfl, show f_X12_in (nI w).toInt64 0 2 _ = some (bI (okr (nI w) 0 2), _) from X12_inN (nI w) 0 2 (by omega) (by omega) _, jcl_s, hy, ite_b, if_pos rfl, q0, jst_nI (by omega) (by omega)]
        unfold lp_X12_chain_38
        refine jloop_i (fun i q => ∃ S', q = (nI a, nI w, nI i, bI (decide (0 < i) && en a i), S') ∧ Ev S0 S' ∧ ∀ t, t ≤ i → S'.1 51 t = nI (ch a t)) (fun r => ∃ S2, r = f_X12_chain_133 (nI a) (nI w) (nI m) S2 ∧ Ev S0 S2 ∧ S2.1 51 m = nI (ch a m)) m (by omega) ?_ ?_ ⟨_, rfl, Ev.I S0 51 0 _ rfl (by omega) (by omega) (by omega), fun t ht => ?_⟩
        · rintro i hi _ ⟨S', rfl, ev, h51⟩
          have hz : (decide (0 < i) && en a i) = false := by
            rcases Nat.eq_zero_or_pos i with e | e
            · subst e; rfl
            · rw [m3 i (by omega) hi, Bool.and_false]
          have c1 := cb i hi
          have c2 := cl (i + 1) (by omega)
          have n51 : ∀ t, t ≤ i + 1 → (jsI S' 51 (i + 1) (nI (ch a (i + 1)))).1 51 t = nI (ch a t) := by
            intro t ht
            show upd (S'.1 51) (i + 1) (nI (ch a (i + 1))) t = _
            rw [upd_1]
            by_cases e : t = i + 1
            · rw [if_pos e, e]
            · rw [if_neg e]
              exact h51 t (by omega)
          refine ⟨_, ⟨jsI S' 51 (i + 1) (nI (ch a (i + 1))), rfl, ev.tr (Ev.I S' 51 _ _ rfl (by omega) (by omega) (by omega)), n51⟩, fun g => ?_⟩
          dsimp only
          unfold f_X12_chain_38 f_X12_chain_84 f_X12_chain_89
          rw [itl (show (20 : Int32) = nI 20 from rfl) (by omega) (by omega), if_pos (by omega), hz, if_pos (by decide), jld_nI (by omega) (by omega), h51 i (Nat.le_refl i), X12_partsOf c1.1 c1.2, jcl_s, show nI i + 1 = nI (i + 1) from qadd _ 1, jst_nI (by omega) (by omega)]
          have e1 : sd (ch a i) = ch a (i + 1) := rfl
          rw [e1, itv q0 (by omega) (by omega), itg (show (9999 : Int32) = nI 9999 from rfl) (by omega) (by omega)]
          have lp := fun b => X12_chain_94 (k130 := f_X12_chain_130 (fun x1 x2 x3 x4 S => g (x1, x2, x3, x4, S)) f_X12_chain_133) (x := a) (nI a) (nI w) b (show i + 1 ≤ 20 by omega) (show ch a (i + 1) < 2147483648 by omega) (fun t ht => ⟨n51 t (by omega), by have := cl t (by omega); omega⟩)
          have lp1 := lp true
          have lp0 := lp false
          have lp1 : lp_X12_chain_94 (f_X12_chain_130 (fun x1 x2 x3 x4 S => g (x1, x2, x3, x4, S)) f_X12_chain_133) (nI a) (nI w) (nI (i + 1)) 1 (nI (ch a (i + 1))) 0 (jsI S' 51 (i + 1) (nI (ch a (i + 1)))) = _ := lp1
          have lp0 : lp_X12_chain_94 (f_X12_chain_130 (fun x1 x2 x3 x4 S => g (x1, x2, x3, x4, S)) f_X12_chain_133) (nI a) (nI w) (nI (i + 1)) 0 (nI (ch a (i + 1))) 0 (jsI S' 51 (i + 1) (nI (ch a (i + 1)))) = _ := lp0
          rw [lp1, lp0]
          unfold f_X12_chain_130
          have e2 : en a (i + 1) = (decide (ch a (i + 1) = 0) || (decide (9999 < ch a (i + 1)) || !nin a (ch a (i + 1)) (i + 1))) := rfl
          rw [e2, decide_eq_true (show 0 < i + 1 by omega)]
          by_cases d1 : ch a (i + 1) = 0
          · rw [if_pos d1, decide_eq_true d1]; rfl
          · rw [if_neg d1, decide_eq_false d1]
            by_cases d2 : 9999 < ch a (i + 1)
            · rw [if_pos d2, decide_eq_true d2]; rfl
            · rw [if_neg d2, decide_eq_false d2]; rfl
        · rintro _ ⟨S', rfl, ev, h51⟩
          refine ⟨_, ⟨S', rfl, ev, h51 m (Nat.le_refl m)⟩, fun g => ?_⟩
          dsimp only
          unfold f_X12_chain_38
          rw [itl (show (20 : Int32) = nI 20 from rfl) (by omega) (by omega)]
          rcases m4 with e | e
          · rw [e, decide_eq_true (show 0 < m by omega), if_neg (show ¬ bI (true && true) = 0 by decide), ite_self]
          · rw [if_neg (by omega)]
        · have : t = 0 := by omega
          subst this
          rfl
      rcases (show w = 0 ∨ w = 1 ∨ w = 2 by omega) with rfl | rfl | rfl
      · obtain ⟨S2, g1, ev2, h51⟩ := em S1 (RR_ev hR ev1)
        refine O2_ev h (nI m) ⟨S1, ?_, ev1, S2, ?_, ev2⟩
        · unfold f_X11_chain f_X11_chain_e f_X11_chain_67
          rw [X11_isNumber, jcl_s, hx, ite_b, if_pos rfl, show (2 : Int32) = nI 2 from rfl, rng0 _ 2 (by omega), hy, if_pos rfl, if_neg (by decide), e1, jcl_s, if_pos (by decide), h10, q1, qsub (by omega), show m + 1 - 1 = m by omega]
        · rw [g1]
          rfl
      · obtain ⟨S2, g1, ev2, h51⟩ := em S1 (RR_ev hR ev1)
        refine O2_ev h (nI (ch a m)) ⟨S1, ?_, ev1, S2, ?_, ev2⟩
        · unfold f_X11_chain f_X11_chain_e f_X11_chain_67
          rw [X11_isNumber, jcl_s, hx, ite_b, if_pos rfl, show (2 : Int32) = nI 2 from rfl, rng0 _ 2 (by omega), hy, if_pos rfl, if_neg (by decide), e1, jcl_s, if_neg (by decide)]
        · rw [g1]
          unfold f_X12_chain_133 f_X12_chain_170
          rw [if_neg (by decide), if_pos (by decide), jld_nI (by omega) (by omega), h51]
      · obtain ⟨S2, g1, ev2, h51⟩ := em S hR
        have hp := pt_le a
        refine O2_ev h (bI (decide (pt a = a))) ⟨S, ?_, Ev.rfl' S, S2, ?_, ev2⟩
        · unfold f_X11_chain f_X11_chain_e f_X11_chain_43
          rw [X11_isNumber, jcl_s, hx, ite_b, if_pos rfl, show (2 : Int32) = nI 2 from rfl, rng0 _ 2 (by omega), hy, if_pos rfl, if_pos (by decide), X3_partsOf hR.1 ha0 ha, jcl_s, iteq (by omega) (by omega)]
          by_cases c : pt a = a
          · rw [if_pos c, decide_eq_true c]; rfl
          · rw [if_neg c, decide_eq_false c]; rfl
        · rw [g1]
          unfold f_X12_chain_133 f_X12_chain_170
          rw [if_neg (by decide), if_neg (by decide), jld_nI (by omega) (by omega), ((tabs_ev hR.1 ev2) a ha).2.2, iteq (by omega) (by omega)]
          by_cases c : pt a = a
          · rw [if_pos c, decide_eq_true c]; rfl
          · rw [if_neg c, decide_eq_false c]; rfl
