/-! ===== those who live, closed up ===== -/
def hmr (p : Nat → Bool) : Nat → Nat → Nat
  | 0, _ => 0
  | n + 1, m => if p n = true ∧ cnt p n = m then n else hmr p n m
theorem hmr_2 (p : Nat → Bool) : ∀ n t, t < n → p t = true → hmr p n (cnt p t) = t
  | 0, t, h, _ => absurd h (Nat.not_lt_zero t)
  | n + 1, t, h, hp => by
    show (if p n = true ∧ cnt p n = cnt p t then n else hmr p n (cnt p t)) = t
    by_cases e : t = n
    · subst e
      rw [if_pos ⟨hp, rfl⟩]
    · have := cnt_lt p (show t < n by omega) hp
      rw [if_neg (fun q => by have := q.2; omega)]
      exact hmr_2 p n t (by omega) hp
theorem cnt_ex (p : Nat → Bool) : ∀ n m, m < cnt p n → ∃ t, t < n ∧ p t = true ∧ cnt p t = m
  | 0, m, h => absurd h (Nat.not_lt_zero m)
  | n + 1, m, h => by
    have ec : cnt p (n + 1) = cnt p n + (if p n = true then 1 else 0) := rfl
    rcases Nat.lt_or_ge m (cnt p n) with hl | hl
    · obtain ⟨t, t1, t2, t3⟩ := cnt_ex p n m hl
      exact ⟨t, by omega, t2, t3⟩
    · by_cases c : p n = true
      · rw [if_pos c] at ec
        exact ⟨n, by omega, c, by omega⟩
      · rw [if_neg c] at ec
        omega
/-- the house of the m-th -/
def hH (R : Nat → Nat) (m : Nat) : Nat := hmr (lvp R) 8 m
theorem hH_1 (R : Nat → Nat) {m : Nat} (h : m < lvc R) : hH R m < 8 ∧ lvp R (hH R m) = true ∧ cnt (lvp R) (hH R m) = m := by
  obtain ⟨t, t1, t2, t3⟩ := cnt_ex (lvp R) 8 m h
  have e : hH R m = t := by
    unfold hH
    rw [← t3]
    exact hmr_2 _ _ _ t1 t2
  rw [e]
  exact ⟨t1, t2, t3⟩
theorem hH_2 (R : Nat → Nat) {t : Nat} (h : t < 8) (hp : lvp R t = true) : hH R (cnt (lvp R) t) = t := hmr_2 _ _ _ h hp
theorem hH_p (R : Nat → Nat) {m : Nat} (h : m < lvc R) : 0 < R (hH R m) := by
  have := (hH_1 R h).2.1
  unfold lvp at this
  rw [decide_eq_true_eq] at this
  exact this
theorem jsI_I (S : jS) (k j : Nat) (v w : Int32) : jsI (jsI S k j v) k j w = jsI S k j w := by
  rw [jsI_d, jsI_d, jsR_R, jsR_s]
  unfold jsI
  congr 1
  funext t
  rw [upd_1, upd_1, upd_1]
  split <;> rfl
/-- the class's closed-up row, with the good ones of each -/
def stl (S : jS) (R : Nat → Nat) (G : Nat → Nat) : Prop := S.1 12 6 = nI (lvc R) ∧ ∀ i, i < lvc R → S.1 14 i = nI (hH R i) ∧ S.1 13 i = nI (R (hH R i)) ∧ S.1 15 i = nI (G i)
theorem X4_gather {S : jS} {R : Nat → Nat} (hR : rw8 R) (hc : ∀ j, j < 8 → S.1 22 j = nI (R j)) : ∃ S1, f_X4_gather_r22 S = some S1 ∧ Ev S S1 ∧ S1.1 12 6 = nI (lvc R) ∧ ∀ i, i < lvc R → S1.1 14 i = nI (hH R i) ∧ S1.1 13 i = nI (R (hH R i)) := by
  unfold f_X4_gather_r22 f_X4_gather_r22_e
  rw [jpt_s]
  unfold lp_X4_gather_r22_7
  refine jloop_i (fun i a => ∃ S', a = (nI i, S') ∧ Ev S S' ∧ S'.1 12 6 = nI (cnt (lvp R) i) ∧ ∀ t, t < i → lvp R t = true → S'.1 14 (cnt (lvp R) t) = nI t ∧ S'.1 13 (cnt (lvp R) t) = nI (R t)) (fun r => ∃ S1, r = some S1 ∧ Ev S S1 ∧ S1.1 12 6 = nI (lvc R) ∧ ∀ i, i < lvc R → S1.1 14 i = nI (hH R i) ∧ S1.1 13 i = nI (R (hH R i))) 8 (by omega) ?_ ?_ ⟨_, rfl, Ev.I S 12 6 0 rfl (by omega) (by omega) (by omega), rfl, fun t ht => absurd ht (Nat.not_lt_zero t)⟩
  · rintro i hi _ ⟨S', rfl, ev, h12, hf⟩
    have hx := hR i hi
    have hl := cnt_le (lvp R) i
    have ec : cnt (lvp R) (i + 1) = cnt (lvp R) i + (if lvp R i = true then 1 else 0) := rfl
    have h22 : S'.1 22 i = nI (R i) := by rw [ev.2.1 22 rfl]; exact hc i hi
    by_cases c : 0 < R i
    · have cp : lvp R i = true := decide_eq_true c
      rw [if_pos cp] at ec
      refine ⟨_, ⟨jsI (jsI (jsI S' 14 (cnt (lvp R) i) (nI i)) 13 (cnt (lvp R) i) (nI (R i))) 12 6 (nI (cnt (lvp R) i + 1)), rfl, ev.tr ((Ev.I S' 14 _ _ rfl (by omega) (by omega) (by omega)).tr ((Ev.I _ 13 _ _ rfl (by omega) (by omega) (by omega)).tr (Ev.I _ 12 _ _ rfl (by omega) (by omega) (by omega)))), by rw [ec]; rfl, fun t ht hp => ?_⟩, fun g => ?_⟩
      · show upd (S'.1 14) (cnt (lvp R) i) (nI i) (cnt (lvp R) t) = _ ∧ upd (S'.1 13) (cnt (lvp R) i) (nI (R i)) (cnt (lvp R) t) = _
        rw [upd_1, upd_1]
        by_cases e : t = i
        · subst e
          rw [if_pos rfl, if_pos rfl]
          exact ⟨rfl, rfl⟩
        · have := cnt_lt (lvp R) (show t < i by omega) hp
          rw [if_neg (by omega), if_neg (by omega)]
          exact hf t (by omega) hp
      · dsimp only
        unfold f_X4_gather_r22_7 f_X4_gather_r22_57
        rw [itl q8 (by omega) (by omega), if_pos hi, itl q8 (by omega) (by omega), if_pos hi, jld_nI (by omega) (by omega), h22, itg q0 (by omega) (by omega), if_pos c, h12, jst_nI (by omega) (by omega), jld_nI (by omega) (by omega), show (jsI S' 14 (cnt (lvp R) i) (nI i)).1 22 i = nI (R i) from h22, show (jsI S' 14 (cnt (lvp R) i) (nI i)).1 12 6 = nI (cnt (lvp R) i) from h12, jst_nI (by omega) (by omega), show (jsI (jsI S' 14 (cnt (lvp R) i) (nI i)) 13 (cnt (lvp R) i) (nI (R i))).1 12 6 = nI (cnt (lvp R) i) from h12, jpt_s, show nI i + 1 = nI (i + 1) from qadd _ 1, show nI (cnt (lvp R) i) + 1 = nI (cnt (lvp R) i + 1) from qadd _ 1]
    · have cp : ¬ lvp R i = true := by unfold lvp; rw [decide_eq_true_eq]; exact c
      rw [if_neg cp] at ec
      refine ⟨_, ⟨S', rfl, ev, by rw [ec]; exact h12, fun t ht hp => ?_⟩, fun g => ?_⟩
      · by_cases e : t = i
        · subst e
          exact absurd hp cp
        · exact hf t (by omega) hp
      · dsimp only
        unfold f_X4_gather_r22_7 f_X4_gather_r22_57
        rw [itl q8 (by omega) (by omega), if_pos hi, itl q8 (by omega) (by omega), if_pos hi, jld_nI (by omega) (by omega), h22, itg q0 (by omega) (by omega), if_neg c, show nI i + 1 = nI (i + 1) from qadd _ 1]
  · rintro _ ⟨S', rfl, ev, h12, hf⟩
    refine ⟨_, ⟨S', rfl, ev, h12, fun i hi => ?_⟩, fun g => ?_⟩
    · obtain ⟨a1, a2, a3⟩ := hH_1 R hi
      have := hf (hH R i) a1 a2
      rw [a3] at this
      exact this
    · dsimp only
      unfold f_X4_gather_r22_7 f_X4_gather_r22_63
      rw [if_neg (by decide)]
theorem hH_300 {R : Nat → Nat} (hR : rw8 R) {i : Nat} (hi : i < lvc R) : R (hH R i) ≤ 300 := hR _ (hH_1 R hi).1
theorem X4_settle_25 {k77 : Int32 → Int32 → jS → Option jS} {S : jS} {R : Nat → Nat} {k n i : Nat} (hT : tabs S) (hk : k < 6) (hn : n < 10) (hR : rw8 R) (h12 : S.1 12 6 = nI (lvc R)) (h13 : ∀ i, i < lvc R → S.1 13 i = nI (R (hH R i))) (hi : i < lvc R) : lp_X4_settle_r22_25 k77 (nI (10 * k + n)) (nI i) 0 (jsI S 15 i 0) = k77 (nI (10 * k + n)) (nI i) (jsI S 15 i (nI (msk (fun j => mayE k n (R (hH R i)) (R (hH R j))) (lvc R)))) := by
  have lc : lvc R ≤ 8 := cnt_le (lvp R) 8
  unfold lp_X4_settle_r22_25
  refine jloop_u (fun j => (nI (10 * k + n), nI i, nI j, jsI S 15 i (nI (msk (fun j => mayE k n (R (hH R i)) (R (hH R j))) j)))) (lvc R) rfl (by omega) (fun j hj g => ?_) (fun g => ?_)
  · dsimp only
    unfold f_X4_settle_r22_25 f_X4_settle_r22_71
    rw [show (jsI S 15 i (nI (msk (fun j => mayE k n (R (hH R i)) (R (hH R j))) j))).1 12 6 = nI (lvc R) from h12, itlt (by omega) (by omega), if_pos hj, jld_nI (by omega) (by omega), jld_nI (by omega) (by omega), show (jsI S 15 i (nI (msk (fun j => mayE k n (R (hH R i)) (R (hH R j))) j))).1 13 i = nI (R (hH R i)) from h13 i hi, show (jsI S 15 i (nI (msk (fun j => mayE k n (R (hH R i)) (R (hH R j))) j))).1 13 j = nI (R (hH R j)) from h13 j hj, X2_allows (S := jsI S 15 i (nI (msk (fun j => mayE k n (R (hH R i)) (R (hH R j))) j))) (tabs_c hT rfl rfl rfl) hk hn (hH_300 hR hi) (hH_300 hR hj), jcl_s, ite_b, jld_nI (by omega) (by omega), jst_nI (by omega) (by omega), jsI_I, show (jsI S 15 i (nI (msk (fun j => mayE k n (R (hH R i)) (R (hH R j))) j))).1 15 i = nI (msk (fun j => mayE k n (R (hH R i)) (R (hH R j))) j) from upd_s _ _ _, shl_1 j (by omega), or_nI, show nI j + 1 = nI (j + 1) from qadd _ 1]
    dsimp only
    show _ = g (nI (10 * k + n), nI i, nI (j + 1), jsI S 15 i (nI (msk (fun j => mayE k n (R (hH R i)) (R (hH R j))) j ||| (if mayE k n (R (hH R i)) (R (hH R j)) = true then 2 ^ j else 0))))
    cases mayE k n (R (hH R i)) (R (hH R j))
    · rw [if_neg (by decide), if_neg (by decide), Nat.or_zero]
    · rw [if_pos rfl, if_pos rfl]
  · dsimp only
    unfold f_X4_settle_r22_25
    rw [show (jsI S 15 i (nI (msk (fun j => mayE k n (R (hH R i)) (R (hH R j))) (lvc R)))).1 12 6 = nI (lvc R) from h12, itlt (by omega) (by omega), if_neg (by omega)]
theorem X4_settle {S : jS} {R : Nat → Nat} {k n : Nat} (hT : tabs S) (hk : k < 6) (hn : n < 10) (hR : rw8 R) (hc : ∀ j, j < 8 → S.1 22 j = nI (R j)) : ∃ S1, f_X4_settle_r22 (nI (10 * k + n)) S = some S1 ∧ Ev S S1 ∧ stl S1 R (fun i => msk (fun j => mayE k n (R (hH R i)) (R (hH R j))) (lvc R)) := by
  have lc : lvc R ≤ 8 := cnt_le (lvp R) 8
  obtain ⟨S0, e0, ev0, h12, hg⟩ := X4_gather hR hc
  unfold f_X4_settle_r22 f_X4_settle_r22_e
  rw [e0, jcv_s]
  unfold lp_X4_settle_r22_7
  refine jloop_i (fun i a => ∃ S', a = (nI (10 * k + n), nI i, S') ∧ Ev S S' ∧ S'.1 12 6 = nI (lvc R) ∧ (∀ i, i < lvc R → S'.1 14 i = nI (hH R i) ∧ S'.1 13 i = nI (R (hH R i))) ∧ ∀ t, t < i → S'.1 15 t = nI (msk (fun j => mayE k n (R (hH R t)) (R (hH R j))) (lvc R))) (fun r => ∃ S1, r = some S1 ∧ Ev S S1 ∧ stl S1 R (fun i => msk (fun j => mayE k n (R (hH R i)) (R (hH R j))) (lvc R))) (lvc R) (by omega) ?_ ?_ ⟨S0, rfl, ev0, h12, hg, fun t ht => absurd ht (Nat.not_lt_zero t)⟩
  · rintro i hi _ ⟨S', rfl, ev, a12, ag, a15⟩
    refine ⟨_, ⟨jsI S' 15 i (nI (msk (fun j => mayE k n (R (hH R i)) (R (hH R j))) (lvc R))), rfl, ev.tr (Ev.I S' 15 _ _ rfl (by omega) (by omega) (by omega)), a12, ag, fun t ht => ?_⟩, fun g => ?_⟩
    · show upd (S'.1 15) i _ t = _
      rw [upd_1]
      by_cases e : t = i
      · rw [if_pos e, e]
      · rw [if_neg e]
        exact a15 t (by omega)
    · dsimp only
      unfold f_X4_settle_r22_7
      rw [a12, itlt (by omega) (by omega), if_pos hi, jst_nI (by omega) (by omega), X4_settle_25 (tabs_ev hT ev) hk hn hR a12 (fun i hi => (ag i hi).2) hi]
      unfold f_X4_settle_r22_77
      rw [show nI i + 1 = nI (i + 1) from qadd _ 1]
  · rintro _ ⟨S', rfl, ev, a12, ag, a15⟩
    refine ⟨_, ⟨S', rfl, ev, a12, fun i hi => ⟨(ag i hi).1, (ag i hi).2, a15 i hi⟩⟩, fun g => ?_⟩
    dsimp only
    unfold f_X4_settle_r22_7 f_X4_settle_r22_83
    rw [a12, itlt (by omega) (by omega), if_neg (by omega)]
/-- neither divides the other -/
def apt (a b : Nat) : Bool := !dvs a b && !dvs b a
theorem apt_s (a : Nat) : apt a a = false := by
  unfold apt dvs
  rw [Nat.mod_self]
  rfl
theorem pln_apt {a b : Nat} (h : a ≠ b) : pln a b = apt a b := by
  unfold pln apt
  rw [decide_eq_false h, Bool.false_or]
/-- j of the good ones have been looked at -/
def gdj (a : Nat) (Q : Nat → Nat) (j t : Nat) : Bool := if t < j then apt a (Q t) else mayE 0 0 a (Q t)
theorem gdj_step {a : Nat} {Q : Nat → Nat} {j M : Nat} (ha : 0 < a) (hq : 0 < Q j) (hj : j < M) : (if a = Q j then dif (msk (gdj a Q j) M) (2 ^ j) else msk (gdj a Q j) M) = msk (gdj a Q (j + 1)) M := by
  apply Nat.eq_of_testBit_eq
  intro t
  have e0 : mayE 0 0 a (Q j) = pln a (Q j) := by
    unfold mayE
    rw [decide_eq_false (by omega), decide_eq_false (by omega)]
    rfl
  by_cases c : a = Q j
  · rw [if_pos c, dif_bit, msk_bit, msk_bit, Nat.testBit_two_pow]
    unfold gdj
    by_cases e : t = j
    · subst e
      rw [decide_eq_true rfl, if_pos (show t < t + 1 by omega), ← c, apt_s]
      simp
    · rw [decide_eq_false (show ¬ j = t by omega)]
      by_cases e2 : t < j
      · rw [if_pos e2, if_pos (by omega)]; simp
      · rw [if_neg e2, if_neg (by omega)]; simp
  · rw [if_neg c, msk_bit, msk_bit]
    unfold gdj
    by_cases e : t = j
    · subst e
      rw [if_neg (show ¬ t < t by omega), if_pos (show t < t + 1 by omega), e0, pln_apt c]
    · by_cases e2 : t < j
      · rw [if_pos e2, if_pos (by omega)]
      · rw [if_neg e2, if_neg (by omega)]
theorem gdj_0 (a : Nat) (Q : Nat → Nat) : gdj a Q 0 = fun t => mayE 0 0 a (Q t) := by
  funext t
  exact if_neg (Nat.not_lt_zero t)
theorem gdj_M (a : Nat) (Q : Nat → Nat) (M : Nat) : msk (gdj a Q M) M = msk (fun t => apt a (Q t)) M := by
  apply Nat.eq_of_testBit_eq
  intro t
  rw [msk_bit, msk_bit]
  by_cases c : t < M
  · unfold gdj
    rw [if_pos c]
  · rw [decide_eq_false c]
    rfl
theorem X4_apart_18 {k61 : Int32 → jS → Option jS} {S : jS} {R : Nat → Nat} {i : Nat} (hR : rw8 R) (h12 : S.1 12 6 = nI (lvc R)) (h13 : ∀ i, i < lvc R → S.1 13 i = nI (R (hH R i))) (hi : i < lvc R) (h15 : S.1 15 i = nI (msk (fun t => mayE 0 0 (R (hH R i)) (R (hH R t))) (lvc R))) : ∃ v, v = msk (fun t => apt (R (hH R i)) (R (hH R t))) (lvc R) ∧ lp_X4_settleApart_r22_18 k61 (nI i) 0 S = k61 (nI i) (jsI S 15 i (nI v)) := by
  refine ⟨_, rfl, ?_⟩
  have lc : lvc R ≤ 8 := cnt_le (lvp R) 8
  unfold lp_X4_settleApart_r22_18
  have e0 : jsI S 15 i (nI (msk (gdj (R (hH R i)) (fun t => R (hH R t)) 0) (lvc R))) = S := by
    rw [gdj_0, jsI_d, ← h15]
    have : upd (S.1 15) i (S.1 15 i) = S.1 15 := by
      funext t
      rw [upd_1]
      split
      · next q => rw [q]
      · rfl
    rw [this, jsR_self]
  rw [← gdj_M]
  refine jloop_u (fun j => (nI i, nI j, jsI S 15 i (nI (msk (gdj (R (hH R i)) (fun t => R (hH R t)) j) (lvc R))))) (lvc R) (by rw [e0]; rfl) (by omega) (fun j hj g => ?_) (fun g => ?_)
  · dsimp only
    unfold f_X4_settleApart_r22_18 f_X4_settleApart_r22_55
    have p1 := hH_p R hi
    have p2 := hH_p R hj
    have p3 := hH_300 hR hi
    have p4 := hH_300 hR hj
    rw [show (jsI S 15 i (nI (msk (gdj (R (hH R i)) (fun t => R (hH R t)) j) (lvc R)))).1 12 6 = nI (lvc R) from h12, itlt (by omega) (by omega), if_pos hj, jld_nI (by omega) (by omega), jld_nI (by omega) (by omega), show (jsI S 15 i (nI (msk (gdj (R (hH R i)) (fun t => R (hH R t)) j) (lvc R)))).1 13 i = nI (R (hH R i)) from h13 i hi, show (jsI S 15 i (nI (msk (gdj (R (hH R i)) (fun t => R (hH R t)) j) (lvc R)))).1 13 j = nI (R (hH R j)) from h13 j hj, iteq (by omega) (by omega), jld_nI (by omega) (by omega), jst_nI (by omega) (by omega), jsI_I, show (jsI S 15 i (nI (msk (gdj (R (hH R i)) (fun t => R (hH R t)) j) (lvc R)))).1 15 i = nI (msk (gdj (R (hH R i)) (fun t => R (hH R t)) j) (lvc R)) from upd_s _ _ _, shl_1 j (by omega), dif_nI, show nI j + 1 = nI (j + 1) from qadd _ 1]
    dsimp only
    rw [← gdj_step (Q := fun t => R (hH R t)) p1 p2 hj]
    by_cases c : R (hH R i) = R (hH R j)
    · rw [if_pos c, if_pos c]
    · rw [if_neg c, if_neg c]
  · dsimp only
    unfold f_X4_settleApart_r22_18
    rw [show (jsI S 15 i (nI (msk (gdj (R (hH R i)) (fun t => R (hH R t)) (lvc R)) (lvc R)))).1 12 6 = nI (lvc R) from h12, itlt (by omega) (by omega), if_neg (by omega)]
theorem X4_settleApart {S : jS} {R : Nat → Nat} (hT : tabs S) (hR : rw8 R) (hc : ∀ j, j < 8 → S.1 22 j = nI (R j)) : ∃ S1, f_X4_settleApart_r22 S = some S1 ∧ Ev S S1 ∧ stl S1 R (fun i => msk (fun j => apt (R (hH R i)) (R (hH R j))) (lvc R)) := by
  have lc : lvc R ≤ 8 := cnt_le (lvp R) 8
  obtain ⟨S0, e0, ev0, h12, hg⟩ := X4_settle (k := 0) (n := 0) hT (by omega) (by omega) hR hc
  have e0 : f_X4_settle_r22 0 S = some S0 := e0
  unfold f_X4_settleApart_r22 f_X4_settleApart_r22_e
  rw [e0, jcv_s]
  unfold lp_X4_settleApart_r22_8
  refine jloop_i (fun i a => ∃ S', a = (nI i, S') ∧ Ev S S' ∧ S'.1 12 6 = nI (lvc R) ∧ (∀ i, i < lvc R → S'.1 14 i = nI (hH R i) ∧ S'.1 13 i = nI (R (hH R i))) ∧ (∀ t, i ≤ t → t < lvc R → S'.1 15 t = nI (msk (fun j => mayE 0 0 (R (hH R t)) (R (hH R j))) (lvc R))) ∧ ∀ t, t < i → S'.1 15 t = nI (msk (fun j => apt (R (hH R t)) (R (hH R j))) (lvc R))) (fun r => ∃ S1, r = some S1 ∧ Ev S S1 ∧ stl S1 R (fun i => msk (fun j => apt (R (hH R i)) (R (hH R j))) (lvc R))) (lvc R) (by omega) ?_ ?_ ⟨S0, rfl, ev0, h12, fun i hi => ⟨(hg i hi).1, (hg i hi).2.1⟩, fun t _ ht => (hg t ht).2.2, fun t ht => absurd ht (Nat.not_lt_zero t)⟩
  · rintro i hi _ ⟨S', rfl, ev, a12, ag, a15, b15⟩
    refine ⟨_, ⟨jsI S' 15 i (nI (msk (fun j => apt (R (hH R i)) (R (hH R j))) (lvc R))), rfl, ev.tr (Ev.I S' 15 _ _ rfl (by omega) (by omega) (by omega)), a12, ag, fun t h1 h2 => ?_, fun t ht => ?_⟩, fun g => ?_⟩
    · show upd (S'.1 15) i _ t = _
      rw [upd_1, if_neg (by omega)]
      exact a15 t (by omega) h2
    · show upd (S'.1 15) i _ t = _
      rw [upd_1]
      by_cases e : t = i
      · rw [if_pos e, e]
      · rw [if_neg e]
        exact b15 t (by omega)
    · dsimp only
      unfold f_X4_settleApart_r22_8
      obtain ⟨v, hv, e⟩ := X4_apart_18 (k61 := f_X4_settleApart_r22_61 (fun x2 S => g (x2, S)) f_X4_settleApart_r22_67) hR a12 (fun i hi => (ag i hi).2) hi (a15 i (Nat.le_refl i) hi)
      rw [a12, itlt (by omega) (by omega), if_pos hi, e, hv]
      unfold f_X4_settleApart_r22_61
      rw [show nI i + 1 = nI (i + 1) from qadd _ 1]
  · rintro _ ⟨S', rfl, ev, a12, ag, a15, b15⟩
    refine ⟨_, ⟨S', rfl, ev, a12, fun i hi => ⟨(ag i hi).1, (ag i hi).2, b15 i hi⟩⟩, fun g => ?_⟩
    dsimp only
    unfold f_X4_settleApart_r22_8 f_X4_settleApart_r22_67
    rw [a12, itlt (by omega) (by omega), if_neg (by omega)]
