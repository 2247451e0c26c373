/-! ===== longest: the class's loops ===== -/
theorem ml_9 (E : Nat → Nat) {n : Nat} (hn : n ≤ 256) : ml E n ≤ 8 := by
  rcases (ml_spec E n).2 with q | ⟨s, s1, _, s3⟩
  · omega
  · have := pc_8 s (by omega)
    omega
theorem p2_8 {m : Nat} (h : m ≤ 8) : 2 ^ m ≤ 256 := by
  have : 2 ^ m ≤ 2 ^ 8 := Nat.pow_le_pow_right (by omega) h
  exact this
def pC (G A : Nat → Nat) (s i : Nat) : Bool := s.testBit i && (decide (dif s (2 ^ i) = 0) || !decide (A (dif s (2 ^ i)) &&& G i = 0))
theorem X4_endsOf {S : jS} {R G A : Nat → Nat} (hS : stl S R G) {s : Nat} (hs : s < 2 ^ lvc R) (hA : ∀ t, t < s → 0 < t → S.1 17 t = nI (A t) ∧ A t < 256) : f_X4_endsOf (nI s) S = some (nI (stC G (lvc R) A s), S) := by
  have lc : lvc R ≤ 8 := cnt_le (lvp R) 8
  have p8 := p2_8 lc
  unfold f_X4_endsOf f_X4_endsOf_e lp_X4_endsOf_4
  refine jloop_u (fun i => (nI s, nI (msk (pC G A s) i), nI i, S)) (lvc R) rfl (by omega) (fun i hi g => ?_) (fun g => ?_)
  · have d1 := dif_le s (2 ^ i)
    have e : msk (pC G A s) (i + 1) = msk (pC G A s) i ||| (if pC G A s i = true then 2 ^ i else 0) := rfl
    have e1 : pC G A s i = (s.testBit i && (decide (dif s (2 ^ i) = 0) || !decide (A (dif s (2 ^ i)) &&& G i = 0))) := rfl
    dsimp only
    unfold f_X4_endsOf_4 f_X4_endsOf_32 f_X4_endsOf_61 f_X4_endsOf_67
    rw [hS.1, itlt (by omega) (by omega), if_pos hi, shl_1 i (by omega), dif_nI, iteq (by omega) (by omega), itv q0 (by omega) (by omega), or_nI, show nI i + 1 = nI (i + 1) from qadd _ 1, e, e1]
    by_cases c1 : dif s (2 ^ i) = s
    · rw [if_pos c1, if_pos (show (0 : Int32) = 0 from rfl)]
      rw [dif_eq] at c1
      rw [c1, Bool.false_and, if_neg (by decide), Nat.or_zero]
    · rw [if_neg c1, if_neg (show ¬ (1 : Int32) = 0 by decide)]
      have c1' := c1
      rw [dif_eq, Bool.not_eq_false] at c1'
      have lt := dif_b c1'
      rw [c1', Bool.true_and]
      by_cases c2 : dif s (2 ^ i) = 0
      · rw [if_pos c2, decide_eq_true c2, Bool.true_or, if_pos rfl]
      · obtain ⟨a1, a2⟩ := hA _ lt (by omega)
        have a3 : A (dif s (2 ^ i)) &&& G i ≤ A (dif s (2 ^ i)) := Nat.and_le_left
        rw [if_neg c2, decide_eq_false c2, Bool.false_or, jld_nI (by omega) (by omega), jld_nI (by omega) (by omega), a1, (hS.2 i hi).2.2, and_nI, itv q0 (by omega) (by omega)]
        by_cases c3 : A (dif s (2 ^ i)) &&& G i = 0
        · rw [if_pos c3, decide_eq_true c3, Bool.not_true, if_neg (by decide), Nat.or_zero]
        · rw [if_neg c3, decide_eq_false c3, Bool.not_false, if_pos rfl]
  · dsimp only
    unfold f_X4_endsOf_4 f_X4_endsOf_73
    rw [hS.1, itlt (by omega) (by omega), if_neg (by omega)]
    rfl
theorem ml_1 (E : Nat → Nat) : ml E 1 = 0 := by
  show (if E 0 ≠ 0 ∧ 0 < pc 0 then pc 0 else 0) = 0
  rw [if_neg (fun q => absurd q.2 (by decide))]
theorem X4_longestRow {S : jS} {R : Nat → Nat} (hT : tabs S) (hR : rw8 R) (hc : ∀ j, j < 8 → S.1 22 j = nI (R j)) : ∃ S0, f_X4_settleApart_r22 S = some S0 ∧ ∃ S1, f_X4_longestRow S0 = some (nI (ml (eE (stM R)) 256), S1) ∧ Ev S S1 := by
  have lc : lvc R ≤ 8 := cnt_le (lvp R) 8
  have p8 := p2_8 lc
  have p1 : 0 < 2 ^ lvc R := Nat.pow_pos (by omega)
  obtain ⟨S0, e0, ev0, hS0⟩ := X4_settleApart hT hR hc
  rw [← ml_xpd R]
  generalize hG : (fun i => msk (fun j => apt (R (hH R i)) (R (hH R j))) (lvc R)) = G at hS0 ⊢
  have hE : ∀ s, eE (stC G (lvc R)) s < 2 ^ lvc R := by
    intro s
    rw [eE_eq (stC_c _ _)]
    exact msk_lt _ _
  refine ⟨S0, e0, ?_⟩
  unfold f_X4_longestRow f_X4_longestRow_e lp_X4_longestRow_4
  refine jloop_i (fun i a => ∃ S', a = (nI (ml (eE (stC G (lvc R))) (i + 1)), nI (i + 1), S') ∧ Ev S S' ∧ stl S' R G ∧ ∀ t, t < i + 1 → 0 < t → S'.1 17 t = nI (eE (stC G (lvc R)) t)) (fun r => ∃ S1, r = some (nI (ml (eE (stC G (lvc R))) (2 ^ lvc R)), S1) ∧ Ev S S1) (2 ^ lvc R - 1) (by omega) ?_ ?_ ⟨S0, by rw [ml_1]; rfl, ev0, hS0, fun t h1 h2 => by omega⟩
  · rintro i hi _ ⟨S', rfl, ev, hS, h17⟩
    have hb := hE (i + 1)
    have m9 := ml_9 (eE (stC G (lvc R))) (show i + 1 ≤ 256 by omega)
    have pb := pc_8 (i + 1) (by omega)
    refine ⟨_, ⟨jsI S' 17 (i + 1) (nI (eE (stC G (lvc R)) (i + 1))), rfl, ev.tr (Ev.I S' 17 _ _ rfl (by omega) (by omega) (by omega)), hS, fun t h1 h2 => ?_⟩, fun g => ?_⟩
    · show upd (S'.1 17) (i + 1) _ t = _
      rw [upd_1]
      by_cases e : t = i + 1
      · rw [if_pos e, e]
      · rw [if_neg e]
        exact h17 t (by omega) h2
    · dsimp only
      unfold f_X4_longestRow_4 f_X4_longestRow_43
      rw [hS.1, shl_M _ (by omega), itlt (by omega) (by omega), if_pos (by omega), X4_endsOf (A := eE (stC G (lvc R))) hS (by omega) (fun t h1 h2 => ⟨h17 t h1 h2, by have := hE t; omega⟩), jcl_s, ← eE_eq (stC_c _ _), jst_nI (by omega) (by omega), jld_nI (by omega) (by omega), show (jsI S' 17 (i + 1) (nI (eE (stC G (lvc R)) (i + 1)))).1 17 (i + 1) = nI (eE (stC G (lvc R)) (i + 1)) from upd_s _ _ _, itv q0 (by omega) (by omega), J6_bitCount (by omega), jcl_s, itlt (by omega) (by omega), show nI (i + 1) + 1 = nI (i + 1 + 1) from qadd _ 1]
      have e : ml (eE (stC G (lvc R))) (i + 1 + 1) = if eE (stC G (lvc R)) (i + 1) ≠ 0 ∧ ml (eE (stC G (lvc R))) (i + 1) < pc (i + 1) then pc (i + 1) else ml (eE (stC G (lvc R))) (i + 1) := rfl
      rw [e]
      by_cases c : eE (stC G (lvc R)) (i + 1) = 0
      · rw [if_pos c, if_neg (fun q => q.1 c)]
      · rw [if_neg c]
        by_cases c2 : ml (eE (stC G (lvc R))) (i + 1) < pc (i + 1)
        · rw [if_pos c2, if_pos ⟨c, c2⟩]
        · rw [if_neg c2, if_neg (fun q => c2 q.2)]
  · rintro _ ⟨S', rfl, ev, hS, h17⟩
    refine ⟨_, ⟨S', rfl, ev⟩, fun g => ?_⟩
    dsimp only
    unfold f_X4_longestRow_4 f_X4_longestRow_49
    rw [show 2 ^ lvc R - 1 + 1 = 2 ^ lvc R by omega, hS.1, shl_M _ (by omega), itlt (by omega) (by omega), if_neg (by omega)]
/-! ===== longest: the model's loops ===== -/
theorem or_0I (m : Nat) : nI m ||| 0 = nI m := by
  rw [show (0 : Int32) = nI 0 from rfl, or_nI, Nat.or_zero]
def qM (R : Nat → Nat) (h v j : Nat) : Bool := !(v.testBit j && apt (R h) (R j))
theorem X12_lastsOf_43 {k94 : Int32 → Int32 → Int32 → Int32 → jS → Option (Int32 × jS)} {S : jS} {R : Nat → Nat} (hR : rw8 R) (hm : ∀ j, j < 8 → S.1 42 j = nI (R j)) {h u v : Nat} (x1 x2 : Int32) (hh : h < 8) (hu : u < 256) (hp : 0 < R h) (h50 : S.1 50 u = nI v) (hv : v < 256) (hvp : ∀ j, j < 8 → v.testBit j = true → 0 < R j) (b : Bool) : lp_X12_lastsOf_43 k94 x1 x2 (nI h) (nI u) (bI b) 0 S = k94 x1 x2 (nI h) (bI (b || exM R h v)) S := by
  unfold lp_X12_lastsOf_43
  refine jloop_u (fun i => (x1, x2, nI h, nI u, bI (b || !al (qM R h v) 0 i), nI i, S)) 8 (by show (x1, x2, nI h, nI u, bI b, (0 : Int32), S) = (x1, x2, nI h, nI u, bI (b || false), nI 0, S); rw [Bool.or_false]; rfl) (by omega) (fun i hi g => ?_) (fun g => ?_)
  · have e : ∀ x y z : Bool, (x || !(y && z)) = ((x || !y) || !z) := by decide
    have e2 : qM R h v i = !(v.testBit i && apt (R h) (R i)) := rfl
    dsimp only
    unfold f_X12_lastsOf_43 f_X12_lastsOf_85 f_X12_lastsOf_81 f_X12_lastsOf_86
    rw [itl q8 (by omega) (by omega), if_pos hi, jld_nI (by omega) (by omega), h50, bit_nI v (by omega) i (by omega), show nI i + 1 = nI (i + 1) from qadd _ 1, pre_al, Nat.zero_add, e, e2]
    generalize (b || !al (qM R h v) 0 i) = c
    cases c with
    | true => rw [if_neg (show ¬ bI true = 0 by decide)]; rfl
    | false =>
      rw [if_pos (show bI false = 0 from rfl)]
      cases c1 : v.testBit i with
      | false => rw [if_neg (show ¬ bI false = 1 by decide)]; rfl
      | true =>
        rw [if_pos (show bI true = 1 from rfl), X12_areApart hR hm hh hi hp (hvp i hi c1), jcl_s, ite_b]
        cases apt (R h) (R i) <;> rfl
  · dsimp only
    unfold f_X12_lastsOf_43
    rw [if_neg (by decide)]
    rfl
def pM (R A : Nat → Nat) (t h : Nat) : Bool := t.testBit h && (decide (dif t (2 ^ h) = 0) || exM R h (A (dif t (2 ^ h))))
theorem X12_lastsOf {S : jS} {R A : Nat → Nat} (hR : rw8 R) (hm : ∀ j, j < 8 → S.1 42 j = nI (R j)) {t : Nat} (ht : t < 256) (hsub : dif t (lvm R) = 0) (hA : ∀ u, u < t → S.1 50 u = nI (A u) ∧ A u < 256 ∧ ∀ j, j < 8 → (A u).testBit j = true → 0 < R j) : f_X12_lastsOf (nI t) S = some (nI (stM R A t), S) := by
  unfold f_X12_lastsOf f_X12_lastsOf_e lp_X12_lastsOf_4
  refine jloop_u (fun i => (nI t, nI (msk (pM R A t) i), nI i, S)) 8 rfl (by omega) (fun i hi g => ?_) (fun g => ?_)
  · have d1 := dif_le t (2 ^ i)
    have e : msk (pM R A t) (i + 1) = msk (pM R A t) i ||| (if pM R A t i = true then 2 ^ i else 0) := rfl
    have e1 : pM R A t i = (t.testBit i && (decide (dif t (2 ^ i) = 0) || exM R i (A (dif t (2 ^ i))))) := rfl
    dsimp only
    unfold f_X12_lastsOf_4 f_X12_lastsOf_38
    rw [itl q8 (by omega) (by omega), if_pos hi, bit_nI t (by omega) i (by omega), shl_1 i (by omega), dif_nI, itv q0 (by omega) (by omega), e, e1]
    cases c : t.testBit i with
    | false =>
      unfold f_X12_lastsOf_109
      rw [if_neg (show ¬ bI false = 1 by decide), Bool.false_and, if_neg (by decide), Nat.or_zero, show nI i + 1 = nI (i + 1) from qadd _ 1]
    | true =>
      have lt := dif_b c
      obtain ⟨a1, a2, a3⟩ := hA _ lt
      have hp : 0 < R i := by
        have := (sub_iff (lvp R) ht).1 hsub i hi c
        unfold lvp at this
        rw [decide_eq_true_eq] at this
        exact this
      rw [if_pos (show bI true = 1 from rfl), Bool.true_and]
      have key : ∀ b : Bool, lp_X12_lastsOf_43 (f_X12_lastsOf_94 (fun x1 x2 x3 S => g (x1, x2, x3, S)) f_X12_lastsOf_115) (nI t) (nI (msk (pM R A t) i)) (nI i) (nI (dif t (2 ^ i))) (bI b) 0 S = g (nI t, nI (msk (pM R A t) i ||| if (b || exM R i (A (dif t (2 ^ i)))) = true then 2 ^ i else 0), nI (i + 1), S) := by
        intro b
        rw [X12_lastsOf_43 hR hm _ _ hi (by omega) hp a1 a2 a3 b]
        unfold f_X12_lastsOf_94 f_X12_lastsOf_107 f_X12_lastsOf_109
        rw [ite_b, or_0I, shl_1 i (by omega), or_nI, show nI i + 1 = nI (i + 1) from qadd _ 1]
        cases (b || exM R i (A (dif t (2 ^ i)))) with
        | false => rw [if_neg (by decide), if_neg (by decide), Nat.or_zero]
        | true => rw [if_pos rfl, if_pos rfl]
      by_cases c2 : dif t (2 ^ i) = 0
      · rw [if_pos c2, decide_eq_true c2]
        exact key true
      · rw [if_neg c2, decide_eq_false c2]
        exact key false
  · dsimp only
    unfold f_X12_lastsOf_4 f_X12_lastsOf_115
    rw [if_neg (by decide)]
    unfold stM
    rw [if_pos hsub]
    rfl
theorem X12_longest_45 {g : Int32 → Int32 → Int32 → jS → Option (Int32 × jS)} {k78 : Int32 → jS → Option (Int32 × jS)} {S : jS} {v m s : Nat} (x1 : Int32) (hs : s < 256) (hv : v < 256) (hm : m ≤ 8) : f_X12_longest_45 g k78 (nI v) (nI s) x1 (nI m) (nI s) S = g x1 (nI (if v ≠ 0 ∧ m < pc s then pc s else m)) (nI (s + 1)) (jsI S 50 s (nI v)) := by
  have pb := pc_8 s hs
  unfold f_X12_longest_45 f_X12_longest_70 f_X12_longest_71
  rw [jst_nI (by omega) (by omega), jld_nI (by omega) (by omega), show (jsI S 50 s (nI v)).1 50 s = nI v from upd_s _ _ _, itv q0 (by omega) (by omega), X12_bits (by omega), jcl_s, itlt (by omega) (by omega), X12_bits (by omega), jcl_s, show nI s + 1 = nI (s + 1) from qadd _ 1]
  by_cases c : v = 0
  · rw [if_pos c, if_neg (fun q => q.1 c)]
  · rw [if_neg c]
    by_cases c2 : m < pc s
    · rw [if_pos c2, if_pos ⟨c, c2⟩]
    · rw [if_neg c2, if_neg (fun q => c2 q.2)]
theorem stM_0 (R A : Nat → Nat) : stM R A 0 = 0 := by
  unfold stM
  split
  · apply Nat.eq_of_testBit_eq
    intro i
    rw [msk_bit, Nat.zero_testBit, Bool.false_and, Bool.and_false]
  · rfl
theorem stM_p (R A : Nat → Nat) {t : Nat} (ht : t < 256) : stM R A t < 256 ∧ ∀ j, j < 8 → (stM R A t).testBit j = true → 0 < R j := by
  unfold stM
  split
  · next c =>
    refine ⟨msk_lt _ 8, fun j hj hb => ?_⟩
    rw [msk_bit, Bool.and_eq_true, Bool.and_eq_true] at hb
    have := (sub_iff (lvp R) ht).1 c j hj hb.2.1
    unfold lvp at this
    rw [decide_eq_true_eq] at this
    exact this
  · refine ⟨by omega, fun j _ hb => ?_⟩
    rw [Nat.zero_testBit] at hb
    cases hb
theorem X12_longest {S : jS} {R : Nat → Nat} (hv : vB R) (hm : mB (S.1 42) R) : ∃ S1, f_X12_longest S = some (nI (ml (eE (stM R)) 256), S1) ∧ Ev S S1 := by
  have hR : rw8 R := hv.1
  have hL := lvm_lt R
  have hE : ∀ u, u < 256 → eE (stM R) u < 256 ∧ ∀ j, j < 8 → (eE (stM R) u).testBit j = true → 0 < R j := by
    intro u hu
    rw [eE_eq (stM_c R)]
    exact stM_p R _ hu
  have j0 : ∀ E : jS → Option (Int32 × jS), jst S 50 0 256 0 E = E (jsI S 50 0 0) := fun E => jst_nI (a := 0) (by omega) (by omega)
  unfold f_X12_longest f_X12_longest_e
  rw [X12_lived hv hm, jcl_s, j0]
  unfold lp_X12_longest_16
  refine jloop_i (fun i a => ∃ S', a = (nI (lvm R), nI (ml (eE (stM R)) (i + 1)), nI (i + 1), S') ∧ Ev S S' ∧ ∀ u, u < i + 1 → S'.1 50 u = nI (eE (stM R) u)) (fun r => ∃ S1, r = some (nI (ml (eE (stM R)) 256), S1) ∧ Ev S S1) 255 (by omega) ?_ ?_ ⟨jsI S 50 0 0, by rw [ml_1]; rfl, Ev.I S 50 0 0 rfl (by omega) (by omega) (by omega), fun u hu => ?_⟩
  · rintro i hi _ ⟨S', rfl, ev, h50⟩
    have hb := hE (i + 1) (by omega)
    have m9 := ml_9 (eE (stM R)) (show i + 1 ≤ 256 by omega)
    refine ⟨_, ⟨jsI S' 50 (i + 1) (nI (eE (stM R) (i + 1))), rfl, ev.tr (Ev.I S' 50 _ _ rfl (by omega) (by omega) (by omega)), fun u h1 => ?_⟩, fun g => ?_⟩
    · show upd (S'.1 50) (i + 1) _ u = _
      rw [upd_1]
      by_cases e : u = i + 1
      · rw [if_pos e, e]
      · rw [if_neg e]
        exact h50 u (by omega)
    · dsimp only
      unfold f_X12_longest_16
      have e : ml (eE (stM R)) (i + 1 + 1) = if eE (stM R) (i + 1) ≠ 0 ∧ ml (eE (stM R)) (i + 1) < pc (i + 1) then pc (i + 1) else ml (eE (stM R)) (i + 1) := rfl
      rw [itl (show (256 : Int32) = nI 256 from rfl) (by omega) (by omega), if_pos (by omega), dif_nI, itv q0 (dif_lt (by omega)) (by omega), e]
      by_cases c : dif (i + 1) (lvm R) = 0
      · rw [if_pos c, X12_lastsOf (A := eE (stM R)) hR (fun j hj => by rw [ev.2.1 42 rfl]; exact hm j (by omega)) (by omega) c (fun u hu => ⟨h50 u hu, hE u (by omega)⟩), jcl_s, ← eE_eq (stM_c R), X12_longest_45 _ (by omega) hb.1 m9]
      · have z : eE (stM R) (i + 1) = 0 := by
          rw [eE_eq (stM_c R)]
          unfold stM
          rw [if_neg c]
        rw [if_neg c, z]
        exact X12_longest_45 (v := 0) _ (by omega) (by omega) m9
  · rintro _ ⟨S', rfl, ev, h50⟩
    refine ⟨_, ⟨S', rfl, ev⟩, fun g => ?_⟩
    dsimp only
    unfold f_X12_longest_16 f_X12_longest_78
    rw [if_neg (by decide)]
  · have : u = 0 := by omega
    subst this
    rw [eE_eq (stM_c R), stM_0]
    rfl
theorem op_longest {S : jS} (h : GG S) : O2 (f_X11_longest S) f_X12_longest := by
  obtain ⟨B, T, tl, hR⟩ := id h
  obtain ⟨h1, hv, hm, hc, h5⟩ := id hR
  obtain ⟨S0, e0, S1, e1, ev1⟩ := X4_longestRow h1 hv.1 hc.1
  have hm1 : mB (S1.1 42) B := by rw [ev1.2.1 42 rfl]; exact hm
  obtain ⟨S2, e2, ev2⟩ := X12_longest hv hm1
  refine O2_ev h (nI (ml (eE (stM B)) 256)) ⟨S1, ?_, ev1, S2, e2, ev2⟩
  unfold f_X11_longest f_X11_longest_e
  rw [e0, jcv_s, e1, jcl_s]
