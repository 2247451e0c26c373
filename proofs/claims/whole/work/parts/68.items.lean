/-! ===== words, numbers, items: what a text tells ===== -/
def wd6 (a b c d e f k : Nat) : Nat := if k = 0 then a else if k = 1 then b else if k = 2 then c else if k = 3 then d else if k = 4 then e else f
def wS : Nat → Nat := wd6 115 116 114 101 101 116
def wH : Nat → Nat := wd6 104 111 117 115 101 0
def tkV (T : Nat → Nat) (tl a : Nat) : Nat := dec T a (tkE T tl a - a)
def tkN (T : Nat → Nat) (tl a : Nat) : Nat := sk T tl (tkE T tl a)
def wok (T : Nat → Nat) (tl : Nat) (W : Nat → Nat) (n a : Nat) : Bool := decide (kd T tl a = 1) && (decide (tkE T tl a - a = n) && al (fun k => decide (T (a + k) = W k)) 0 n)
def nbo (T : Nat → Nat) (tl m a : Nat) : Bool := decide (kd T tl a = 2) && (decide (tkE T tl a - a ≤ 3) && decide (tkV T tl a ≤ m))
/-- an item from the token at a: where it goes wrong, or its numbers and its end -/
def itm (T : Nat → Nat) (tl : Nat) (W : Nat → Nat) (n m1 m2 a : Nat) : Sum Nat (Nat × Nat × Nat) :=
  if wok T tl W n a = true then
    if nbo T tl m1 (tkN T tl a) = true then
      if nbo T tl m2 (tkN T tl (tkN T tl a)) = true then
        if kd T tl (tkN T tl (tkN T tl (tkN T tl a))) = 3 then Sum.inr (tkV T tl (tkN T tl a), tkV T tl (tkN T tl (tkN T tl a)), tkE T tl (tkN T tl (tkN T tl (tkN T tl a))))
        else Sum.inl (tkN T tl (tkN T tl (tkN T tl a)))
      else Sum.inl (tkN T tl (tkN T tl a))
    else Sum.inl (tkN T tl a)
  else Sum.inl a
theorem tkN_in (T : Nat → Nat) {tl a : Nat} (h : a ≤ tl) : tkN T tl a ≤ tl ∧ tkE T tl a ≤ tkN T tl a := by
  have h1 := (tkE_in T h).2.1
  exact ⟨(sk_in T h1).2, (sk_in T h1).1⟩
theorem nbo_t {T : Nat → Nat} {tl m a : Nat} (h : nbo T tl m a = true) : kd T tl a = 2 ∧ tkE T tl a - a ≤ 3 ∧ tkV T tl a ≤ m := by
  unfold nbo at h
  rw [Bool.and_eq_true, Bool.and_eq_true, decide_eq_true_eq, decide_eq_true_eq, decide_eq_true_eq] at h
  exact h
theorem tkE_2 {T : Nat → Nat} {tl a : Nat} (h : kd T tl a = 2) : tkE T tl a = ef T tl a := by
  unfold tkE
  rw [h, if_neg (by omega), if_neg (by omega), if_pos rfl]
theorem tkV_b {T : Nat → Nat} {tl a : Nat} (h : kd T tl a = 2) (h3 : tkE T tl a - a ≤ 3) : tkV T tl a < 1000 := dec_999 T h3 (fun i hi => by
  rw [tkE_2 h] at hi
  exact ef_fg T (tl := tl) (a := a) (by omega) (by omega))
/-! ===== the class's items ===== -/
/-- the class has looked at the token at a -/
def lkc (S : jS) (T : Nat → Nat) (tl a : Nat) : Prop := S.1 18 6 = nI (tkE T tl a) ∧ S.1 18 7 = nI (kd T tl a) ∧ S.1 18 8 = nI a
theorem ch_r100 (S : jS) : ∀ k, k < 6 → f_J0_charAt_5068e_r100 (nI k) S = some (nI (wS k), S) := by
  intro k hk
  rcases (show k = 0 ∨ k = 1 ∨ k = 2 ∨ k = 3 ∨ k = 4 ∨ k = 5 by omega) with rfl | rfl | rfl | rfl | rfl | rfl
  · rfl
  · rfl
  · rfl
  · rfl
  · rfl
  · rfl
theorem X7_tokenIs_r100 {S : jS} {T : Nat → Nat} {tl : Nat} (hx : txt S T tl) {a : Nat} (ha : a ≤ tl) (h : lkc S T tl a) : f_X7_tokenIs_r100 S = some (bI (decide (tkE T tl a - a = 6) && al (fun k => decide (T (a + k) = wS k)) 0 6), S) := by
  obtain ⟨t1, t2, t3, t4⟩ := id hx
  obtain ⟨h6, h7, h8⟩ := h
  obtain ⟨e1, e2, e3⟩ := tkE_in T ha
  have len : ∀ S', f_J0_length_8abf5_r100 S' = some (nI 6, S') := fun S' => by
    unfold f_J0_length_8abf5_r100 f_J0_length_8abf5_r100_e f_J0_coder_7d493_r100 f_J0_coder_7d493_r100_e f_J0_coder_7d493_r100_14 jbr
    rw [if_neg (by decide), if_pos (by decide), jcl_s, show (6 : Int32) >>> (0 &&& 31) = nI 6 from by decide]
  unfold f_X7_tokenIs_r100 f_X7_tokenIs_r100_e
  rw [len, jcl_s, h6, h8, qsub e1, iteq (by omega) (by omega), jzr_0]
  by_cases c : tkE T tl a - a = 6
  · rw [if_pos c, decide_eq_true c, Bool.true_and]
    unfold lp_X7_tokenIs_r100_20
    have wb : ∀ k, k < 6 → wS k ≤ 127 := by decide
    have step : ∀ g k, k < 6 → f_X7_tokenIs_r100_20 g f_X7_tokenIs_r100_46 f_X7_tokenIs_r100_54 (nI k) S = if T (a + k) = wS k then g (nI (k + 1)) S else some (bI false, S) := by
      intro g k hk
      have b3 := (t4 (a + k) (by omega)).2.2
      have wk := wb k hk
      unfold f_X7_tokenIs_r100_20 f_X7_tokenIs_r100_46
      rw [len, jcl_s, itlt (by omega) (by omega), if_pos hk, h8, qadd, X7_byteAt hx (by omega), jcl_s, if_pos (show a + k < tl by omega), ch_r100 S k hk, jcl_s, iteq (by omega) (by omega), jzr_0, show nI k + 1 = nI (k + 1) from qadd _ 1]
    have key : ∀ m k N, k + m = 6 → m < N → jloop (α := Int32 × jS) (fun g q => f_X7_tokenIs_r100_20 (fun x2 S => g (x2, S)) f_X7_tokenIs_r100_46 f_X7_tokenIs_r100_54 q.1 q.2) N (nI k, S) = some (bI (al (fun k => decide (T (a + k) = wS k)) k m), S) := by
      intro m
      induction m with
      | zero =>
        intro k N hk hN
        cases N with
        | zero => omega
        | succ N =>
          have e : k = 6 := by omega
          subst e
          rw [jloop_1]
          dsimp only
          unfold f_X7_tokenIs_r100_20 f_X7_tokenIs_r100_54
          rw [len, jcl_s, if_neg (by decide), jzr_1]
          rfl
      | succ m ih =>
        intro k N hk hN
        cases N with
        | zero => omega
        | succ N =>
          rw [jloop_1]
          dsimp only
          rw [step _ k (by omega), al_s]
          by_cases q : T (a + k) = wS k
          · rw [if_pos q, decide_eq_true q, Bool.true_and]
            exact ih (k + 1) N (by omega) (by omega)
          · rw [if_neg q, decide_eq_false q, Bool.false_and]
    exact key 6 0 jN (by omega) (jN_big (by omega))
  · rw [if_neg c, decide_eq_false c, Bool.false_and]
theorem X7_expectWord_r100 {S : jS} {T : Nat → Nat} {tl : Nat} (hx : txt S T tl) {a : Nat} (ha : a ≤ tl) (h : lkc S T tl a) : f_X7_expectWord_r100 S = some (if wok T tl wS 6 a = true then S else jsI S 18 4 (nI a)) := by
  have k4 := kd_4 T tl a
  unfold f_X7_expectWord_r100 f_X7_expectWord_r100_e f_X7_expectWord_r100_16 f_X7_expectWord_r100_24
  rw [h.2.1, itv q1 (by omega) (by omega), X7_tokenIs_r100 hx ha h, jcl_s, ite_b, jpt_s, h.2.2]
  unfold wok
  by_cases c : kd T tl a = 1
  · rw [if_pos c, decide_eq_true c, Bool.true_and]
    split <;> rfl
  · rw [if_neg c, decide_eq_false c, Bool.false_and, if_neg nft]
theorem ch_r101 (S : jS) : ∀ k, k < 5 → f_J0_charAt_5068e_r101 (nI k) S = some (nI (wH k), S) := by
  intro k hk
  rcases (show k = 0 ∨ k = 1 ∨ k = 2 ∨ k = 3 ∨ k = 4 by omega) with rfl | rfl | rfl | rfl | rfl
  · rfl
  · rfl
  · rfl
  · rfl
  · rfl
theorem X7_tokenIs_r101 {S : jS} {T : Nat → Nat} {tl : Nat} (hx : txt S T tl) {a : Nat} (ha : a ≤ tl) (h : lkc S T tl a) : f_X7_tokenIs_r101 S = some (bI (decide (tkE T tl a - a = 5) && al (fun k => decide (T (a + k) = wH k)) 0 5), S) := by
  obtain ⟨t1, t2, t3, t4⟩ := id hx
  obtain ⟨h6, h7, h8⟩ := h
  obtain ⟨e1, e2, e3⟩ := tkE_in T ha
  have len : ∀ S', f_J0_length_8abf5_r101 S' = some (nI 5, S') := fun S' => by
    unfold f_J0_length_8abf5_r101 f_J0_length_8abf5_r101_e f_J0_coder_7d493_r101 f_J0_coder_7d493_r101_e f_J0_coder_7d493_r101_14 jbr
    rw [if_neg (by decide), if_pos (by decide), jcl_s, show (5 : Int32) >>> (0 &&& 31) = nI 5 from by decide]
  unfold f_X7_tokenIs_r101 f_X7_tokenIs_r101_e
  rw [len, jcl_s, h6, h8, qsub e1, iteq (by omega) (by omega), jzr_0]
  by_cases c : tkE T tl a - a = 5
  · rw [if_pos c, decide_eq_true c, Bool.true_and]
    unfold lp_X7_tokenIs_r101_20
    have wb : ∀ k, k < 5 → wH k ≤ 127 := by decide
    have step : ∀ g k, k < 5 → f_X7_tokenIs_r101_20 g f_X7_tokenIs_r101_46 f_X7_tokenIs_r101_54 (nI k) S = if T (a + k) = wH k then g (nI (k + 1)) S else some (bI false, S) := by
      intro g k hk
      have b3 := (t4 (a + k) (by omega)).2.2
      have wk := wb k hk
      unfold f_X7_tokenIs_r101_20 f_X7_tokenIs_r101_46
      rw [len, jcl_s, itlt (by omega) (by omega), if_pos hk, h8, qadd, X7_byteAt hx (by omega), jcl_s, if_pos (show a + k < tl by omega), ch_r101 S k hk, jcl_s, iteq (by omega) (by omega), jzr_0, show nI k + 1 = nI (k + 1) from qadd _ 1]
    have key : ∀ m k N, k + m = 5 → m < N → jloop (α := Int32 × jS) (fun g q => f_X7_tokenIs_r101_20 (fun x2 S => g (x2, S)) f_X7_tokenIs_r101_46 f_X7_tokenIs_r101_54 q.1 q.2) N (nI k, S) = some (bI (al (fun k => decide (T (a + k) = wH k)) k m), S) := by
      intro m
      induction m with
      | zero =>
        intro k N hk hN
        cases N with
        | zero => omega
        | succ N =>
          have e : k = 5 := by omega
          subst e
          rw [jloop_1]
          dsimp only
          unfold f_X7_tokenIs_r101_20 f_X7_tokenIs_r101_54
          rw [len, jcl_s, if_neg (by decide), jzr_1]
          rfl
      | succ m ih =>
        intro k N hk hN
        cases N with
        | zero => omega
        | succ N =>
          rw [jloop_1]
          dsimp only
          rw [step _ k (by omega), al_s]
          by_cases q : T (a + k) = wH k
          · rw [if_pos q, decide_eq_true q, Bool.true_and]
            exact ih (k + 1) N (by omega) (by omega)
          · rw [if_neg q, decide_eq_false q, Bool.false_and]
    exact key 5 0 jN (by omega) (jN_big (by omega))
  · rw [if_neg c, decide_eq_false c, Bool.false_and]
theorem X7_expectWord_r101 {S : jS} {T : Nat → Nat} {tl : Nat} (hx : txt S T tl) {a : Nat} (ha : a ≤ tl) (h : lkc S T tl a) : f_X7_expectWord_r101 S = some (if wok T tl wH 5 a = true then S else jsI S 18 4 (nI a)) := by
  have k4 := kd_4 T tl a
  unfold f_X7_expectWord_r101 f_X7_expectWord_r101_e f_X7_expectWord_r101_16 f_X7_expectWord_r101_24
  rw [h.2.1, itv q1 (by omega) (by omega), X7_tokenIs_r101 hx ha h, jcl_s, ite_b, jpt_s, h.2.2]
  unfold wok
  by_cases c : kd T tl a = 1
  · rw [if_pos c, decide_eq_true c, Bool.true_and]
    split <;> rfl
  · rw [if_neg c, decide_eq_false c, Bool.false_and, if_neg nft]
theorem X7_num {S : jS} {T : Nat → Nat} {tl : Nat} (hx : txt S T tl) {i : Nat} (hi : i ≤ tl) (h6 : S.1 18 6 = nI i) (h4 : S.1 18 4 = -1) {m : Nat} (hm : m ≤ 300) : ∃ S1, f_X7_expectNumber (nI m) S = some (if nbo T tl m (sk T tl i) = true then nI (tkV T tl (sk T tl i)) else 0, S1) ∧ Rd S S1 ∧ S1.1 18 6 = nI (tkE T tl (sk T tl i)) ∧ S1.1 18 4 = if nbo T tl m (sk T tl i) = true then -1 else nI (sk T tl i) := by
  obtain ⟨S1, e1, r1, a4, a6, a7, a8, a9⟩ := X7_scan hx hi h6
  generalize sk T tl i = a at *
  have k4 := kd_4 T tl a
  unfold f_X7_expectNumber f_X7_expectNumber_e f_X7_expectNumber_37
  rw [h4, if_pos rfl, e1, jcv_s, a7, itv q2 (by omega) (by omega), jpt_s, a8]
  have bad : nbo T tl m a = false → ∃ S1', some ((0 : Int32), jsI S1 18 4 (nI a)) = some (if nbo T tl m a = true then nI (tkV T tl a) else 0, S1') ∧ Rd S S1' ∧ S1'.1 18 6 = nI (tkE T tl a) ∧ S1'.1 18 4 = if nbo T tl m a = true then -1 else nI a := fun q => by
    rw [q, if_neg nft, if_neg nft]
    exact ⟨_, rfl, r1.tr (Rd.I _ _ (by omega)), a6, rfl⟩
  by_cases c : kd T tl a = 2
  · have a9 := a9 c
    unfold dv at a9
    rw [if_pos c]
    by_cases c3 : tkE T tl a - a ≤ 3
    · have vb := tkV_b c c3
      rw [if_pos c3] at a9
      have a9 : S1.1 18 9 = nI (tkV T tl a) := a9
      rw [a9, if_neg (nI_pos (by omega)), itlt (by omega) (by omega)]
      by_cases cm : m < tkV T tl a
      · rw [if_pos cm]
        refine bad ?_
        unfold nbo
        rw [decide_eq_false (show ¬ tkV T tl a ≤ m by omega), Bool.and_false, Bool.and_false]
      · have hn : nbo T tl m a = true := by
          unfold nbo
          rw [decide_eq_true c, decide_eq_true c3, decide_eq_true (show tkV T tl a ≤ m by omega)]
          rfl
        rw [if_neg cm, hn, if_pos ptt, if_pos ptt]
        exact ⟨S1, rfl, r1, a6, a4.trans h4⟩
    · rw [if_neg c3] at a9
      rw [a9, if_pos (show (-1 : Int32) < 0 by decide)]
      refine bad ?_
      unfold nbo
      rw [decide_eq_false c3, Bool.false_and, Bool.and_false]
  · rw [if_neg c]
    refine bad ?_
    unfold nbo
    rw [decide_eq_false c, Bool.false_and]
theorem X7_stop {S : jS} {T : Nat → Nat} {tl : Nat} (hx : txt S T tl) {i : Nat} (hi : i ≤ tl) (h6 : S.1 18 6 = nI i) (h4 : S.1 18 4 = -1) : ∃ S1, f_X7_expectStop S = some S1 ∧ Rd S S1 ∧ S1.1 18 6 = nI (tkE T tl (sk T tl i)) ∧ S1.1 18 4 = if kd T tl (sk T tl i) = 3 then -1 else nI (sk T tl i) := by
  obtain ⟨S1, e1, r1, a4, a6, a7, a8, a9⟩ := X7_scan hx hi h6
  generalize sk T tl i = a at *
  have k4 := kd_4 T tl a
  unfold f_X7_expectStop f_X7_expectStop_e f_X7_expectStop_29
  rw [h4, if_pos rfl, e1, jcv_s, a7, itv q3 (by omega) (by omega), jpt_s, a8]
  by_cases c : kd T tl a = 3
  · rw [if_pos c, if_pos c]
    exact ⟨S1, rfl, r1, a6, a4.trans h4⟩
  · rw [if_neg c, if_neg c]
    exact ⟨_, rfl, r1.tr (Rd.I _ _ (by omega)), a6, rfl⟩
theorem X7_num_f {S : jS} (x : Int32) {f : Nat} (hf : f ≤ 150) (h4 : S.1 18 4 = nI f) : f_X7_expectNumber x S = some (0, S) := by
  unfold f_X7_expectNumber f_X7_expectNumber_e
  rw [h4, if_neg (nI_m1 (by omega))]
theorem X7_stop_f {S : jS} {f : Nat} (hf : f ≤ 150) (h4 : S.1 18 4 = nI f) : f_X7_expectStop S = some S := by
  unfold f_X7_expectStop f_X7_expectStop_e
  rw [h4, if_neg (nI_m1 (by omega))]
/-- what the class has behind an item -/
def cOut (S S1 : jS) (x y : Int32) : Sum Nat (Nat × Nat × Nat) → Prop
  | Sum.inl f => S1.1 18 4 = nI f
  | Sum.inr (v1, v2, e) => x = nI v1 ∧ y = nI v2 ∧ S1.1 18 4 = -1 ∧ S1.1 18 6 = nI e
theorem X7_item {S : jS} {T : Nat → Nat} {tl : Nat} (hx : txt S T tl) {W : Nat → Nat} {n a m1 m2 : Nat} (ha : a ≤ tl) (hm1 : m1 ≤ 300) (hm2 : m2 ≤ 300) (h : lkc S T tl a) (h4 : S.1 18 4 = -1) {EW : Option jS} (hE : EW = some (if wok T tl W n a = true then S else jsI S 18 4 (nI a))) (K : Int32 → Int32 → jS → Option jS) : ∃ x y S1, jcv EW (fun S1 => jcl (f_X7_expectNumber (nI m1) S1) (fun v3 S2 => jcl (f_X7_expectNumber (nI m2) S2) (fun v5 S4 => jcv (f_X7_expectStop S4) (fun S6 => K v3 v5 S6)))) = K x y S1 ∧ Rd S S1 ∧ cOut S S1 x y (itm T tl W n m1 m2 a) := by
  have t1 := hx.1
  obtain ⟨n1, n1'⟩ := tkN_in T ha
  obtain ⟨n2, n2'⟩ := tkN_in T n1
  obtain ⟨n3, n3'⟩ := tkN_in T n2
  rw [hE, jcv_s]
  unfold itm
  cases cw : wok T tl W n a with
  | false =>
    rw [if_neg nft, if_neg nft]
    have e4 : (jsI S 18 4 (nI a)).1 18 4 = nI a := rfl
    rw [X7_num_f _ (by omega) e4, jcl_s, X7_num_f _ (by omega) e4, jcl_s, X7_stop_f (by omega) e4, jcv_s]
    exact ⟨_, _, _, rfl, Rd.I _ _ (by omega), rfl⟩
  | true =>
    rw [if_pos ptt, if_pos ptt]
    obtain ⟨S1, e1, r1, a6, a4⟩ := X7_num hx (tkE_in T ha).2.1 h.1 h4 hm1
    have e1 : f_X7_expectNumber (nI m1) S = some (if nbo T tl m1 (tkN T tl a) = true then nI (tkV T tl (tkN T tl a)) else 0, S1) := e1
    have a6 : S1.1 18 6 = nI (tkE T tl (tkN T tl a)) := a6
    have a4 : S1.1 18 4 = if nbo T tl m1 (tkN T tl a) = true then -1 else nI (tkN T tl a) := a4
    rw [e1, jcl_s]
    cases c1 : nbo T tl m1 (tkN T tl a) with
    | false =>
      rw [c1, if_neg nft] at a4
      rw [if_neg nft, if_neg nft, X7_num_f _ (by omega) a4, jcl_s, X7_stop_f (by omega) a4, jcv_s]
      exact ⟨_, _, _, rfl, r1, a4⟩
    | true =>
      rw [c1, if_pos ptt] at a4
      rw [if_pos ptt, if_pos ptt]
      obtain ⟨S2, e2, r2, b6, b4⟩ := X7_num (txt_ev hx r1.ev) (tkE_in T n1).2.1 a6 a4 hm2
      have e2 : f_X7_expectNumber (nI m2) S1 = some (if nbo T tl m2 (tkN T tl (tkN T tl a)) = true then nI (tkV T tl (tkN T tl (tkN T tl a))) else 0, S2) := e2
      have b6 : S2.1 18 6 = nI (tkE T tl (tkN T tl (tkN T tl a))) := b6
      have b4 : S2.1 18 4 = if nbo T tl m2 (tkN T tl (tkN T tl a)) = true then -1 else nI (tkN T tl (tkN T tl a)) := b4
      rw [e2, jcl_s]
      cases c2 : nbo T tl m2 (tkN T tl (tkN T tl a)) with
      | false =>
        rw [c2, if_neg nft] at b4
        rw [if_neg nft, if_neg nft, X7_stop_f (by omega) b4, jcv_s]
        exact ⟨_, _, _, rfl, r1.tr r2, b4⟩
      | true =>
        rw [c2, if_pos ptt] at b4
        rw [if_pos ptt, if_pos ptt]
        obtain ⟨S3, e3, r3, d6, d4⟩ := X7_stop (txt_ev hx (r1.tr r2).ev) (tkE_in T n2).2.1 b6 b4
        have d6 : S3.1 18 6 = nI (tkE T tl (tkN T tl (tkN T tl (tkN T tl a)))) := d6
        have d4 : S3.1 18 4 = if kd T tl (tkN T tl (tkN T tl (tkN T tl a))) = 3 then -1 else nI (tkN T tl (tkN T tl (tkN T tl a))) := d4
        rw [e3, jcv_s]
        by_cases c3 : kd T tl (tkN T tl (tkN T tl (tkN T tl a))) = 3
        · rw [if_pos c3] at d4
          rw [if_pos c3]
          exact ⟨_, _, _, rfl, r1.tr (r2.tr r3), rfl, rfl, d4, d6⟩
        · rw [if_neg c3] at d4
          rw [if_neg c3]
          exact ⟨_, _, _, rfl, r1.tr (r2.tr r3), d4⟩
/-- what is told of a state behind an item of the class -/
def pOut (S S1 : jS) (F : Nat → Nat → Prop) : Sum Nat (Nat × Nat × Nat) → Prop
  | Sum.inl f => S1.1 18 4 = nI f
  | Sum.inr (v1, v2, e) => S1.1 18 4 = -1 ∧ S1.1 18 6 = nI e ∧ S1.1 18 3 = S.1 18 3 + 1 ∧ F v1 v2
theorem X7_parseStreet {S : jS} {T : Nat → Nat} {tl : Nat} (hx : txt S T tl) {a : Nat} (ha : a ≤ tl) (h : lkc S T tl a) (h4 : S.1 18 4 = -1) : ∃ S1, f_X7_parseStreet S = some S1 ∧ Ev S S1 ∧ pOut S S1 (fun v1 v2 => S1.1 18 2 = nI (10 * v1 + v2) ∧ S1.1 19 = S.1 19) (itm T tl wS 6 5 9 a) := by
  obtain ⟨x, y, S1, e1, r1, o1⟩ := X7_item hx (m1 := 5) (m2 := 9) ha (by omega) (by omega) h h4 (X7_expectWord_r100 hx ha h) (fun v3 v5 S6 => jpt S6 18 2 ((10 * v3) + v5) (fun S7 => jpt S7 18 3 ((S7.1 18 3) + 1) (fun S8 => some S8)))
  have ev2 : Ev S1 (jsI (jsI S1 18 2 (10 * x + y)) 18 3 (S1.1 18 3 + 1)) := (Ev.F S1 18 2 _ (by omega)).tr (Ev.F _ 18 3 _ (by omega))
  refine ⟨jsI (jsI S1 18 2 (10 * x + y)) 18 3 (S1.1 18 3 + 1), ?_, r1.ev.tr ev2, ?_⟩
  · unfold f_X7_parseStreet f_X7_parseStreet_e
    exact e1
  · revert o1
    cases itm T tl wS 6 5 9 a with
    | inl f => exact fun o => o
    | inr q =>
      obtain ⟨v1, v2, e⟩ := q
      rintro ⟨rfl, rfl, o3, o4⟩
      refine ⟨o3, o4, ?_, ?_, r1.2.1 19 (by omega)⟩
      · show S1.1 18 3 + 1 = _
        rw [r1.2.2 3 (by omega)]
      · show 10 * nI v1 + nI v2 = _
        rw [show (10 : Int32) = nI 10 from rfl, qmul, qadd]
theorem X7_parseHouse {S : jS} {T : Nat → Nat} {tl : Nat} (hx : txt S T tl) {a : Nat} (ha : a ≤ tl) (h : lkc S T tl a) (h4 : S.1 18 4 = -1) : ∃ S1, f_X7_parseHouse S = some S1 ∧ Ev S S1 ∧ pOut S S1 (fun v1 v2 => v1 ≤ 7 → S1.1 18 2 = S.1 18 2 ∧ S1.1 19 = upd (S.1 19) v1 (nI v2)) (itm T tl wH 5 7 300 a) := by
  obtain ⟨x, y, S1, e1, r1, o1⟩ := X7_item hx (m1 := 7) (m2 := 300) ha (by omega) (by omega) h h4 (X7_expectWord_r101 hx ha h) (fun v3 v5 S6 => jcl (f_X11_isHouse v3 S6) (fun v8 S7 => if v8 = 0 then f_X7_parseHouse_39 S7 else jst S7 19 v3 8 v5 (fun S9 => f_X7_parseHouse_39 S9)))
  have e2 : f_X7_parseHouse S = _ := e1
  rw [X11_isHouse, jcl_s, ite_b] at e2
  unfold f_X7_parseHouse_39 at e2
  cases cx : okr x 0 7 with
  | false =>
    rw [cx, if_neg nft, jpt_s] at e2
    refine ⟨_, e2, r1.ev.tr (Ev.F S1 18 3 _ (by omega)), ?_⟩
    revert o1
    cases itm T tl wH 5 7 300 a with
    | inl f => exact fun o => o
    | inr q =>
      obtain ⟨v1, v2, e⟩ := q
      rintro ⟨rfl, rfl, o3, o4⟩
      refine ⟨o3, o4, ?_, fun h7 => ?_⟩
      · show S1.1 18 3 + 1 = _
        rw [r1.2.2 3 (by omega)]
      · rw [okr_nI (by omega), decide_eq_true ⟨by omega, h7⟩] at cx
        cases cx
  | true =>
    obtain ⟨b, -, hb, rfl⟩ := okr_of cx (by omega)
    rw [cx, if_pos ptt, jst_nI (by omega) (by omega), jpt_s] at e2
    refine ⟨_, e2, r1.ev.tr ((Ev.I S1 19 _ _ rfl (by omega) (by omega) (by omega)).tr (Ev.F _ 18 3 _ (by omega))), ?_⟩
    revert o1
    cases itm T tl wH 5 7 300 a with
    | inl f => exact fun o => o
    | inr q =>
      obtain ⟨v1, v2, e⟩ := q
      rintro ⟨o1, rfl, o3, o4⟩
      refine ⟨o3, o4, ?_, fun h7 => ⟨?_, ?_⟩⟩
      · show S1.1 18 3 + 1 = _
        rw [r1.2.2 3 (by omega)]
      · show S1.1 18 2 = _
        rw [r1.2.2 2 (by omega)]
      · rw [qeq (by omega) (by omega)] at o1
        show upd (S1.1 19) b (nI v2) = _
        rw [r1.2.1 19 (by omega), o1]
