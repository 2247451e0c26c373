/-! ===== tokens of a text ===== -/
def ltr (c : Nat) : Bool := decide (97 ≤ c) && decide (c ≤ 122)
def fgr (c : Nat) : Bool := decide (48 ≤ c) && decide (c ≤ 57)
def sk (T : Nat → Nat) (tl i : Nat) : Nat := fi (fun j => !decide (T j = 32)) i (tl - i)
def kd (T : Nat → Nat) (tl a : Nat) : Nat := if a < tl then (if ltr (T a) = true then 1 else if fgr (T a) = true then 2 else if T a = 59 then 3 else 4) else 0
def ew (T : Nat → Nat) (tl a : Nat) : Nat := fi (fun j => !ltr (T j)) a (tl - a)
def ef (T : Nat → Nat) (tl a : Nat) : Nat := fi (fun j => !fgr (T j)) a (tl - a)
def tkE (T : Nat → Nat) (tl a : Nat) : Nat := if kd T tl a = 0 then a else if kd T tl a = 1 then ew T tl a else if kd T tl a = 2 then ef T tl a else a + 1
def dec (T : Nat → Nat) (a : Nat) : Nat → Nat
  | 0 => 0
  | n + 1 => 10 * dec T a n + (T (a + n) - 48)
theorem dec_1 (T : Nat → Nat) (a n : Nat) : dec T a (n + 1) = 10 * dec T a n + (T (a + n) - 48) := rfl
theorem fi_in (p : Nat → Bool) {a tl : Nat} (h : a ≤ tl) : a ≤ fi p a (tl - a) ∧ fi p a (tl - a) ≤ tl := by
  obtain ⟨h1, h2, -, -⟩ := fi_spec p (tl - a) a
  exact ⟨h1, by omega⟩
theorem fi_gt (p : Nat → Bool) {a tl : Nat} (h : a < tl) (hp : p a = false) : a < fi p a (tl - a) := by
  obtain ⟨h1, -, -, -⟩ := fi_spec p (tl - (a + 1)) (a + 1)
  rw [show tl - a = tl - (a + 1) + 1 by omega, fi_s, hp, if_neg nft]
  omega
theorem sk_in (T : Nat → Nat) {tl i : Nat} (h : i ≤ tl) : i ≤ sk T tl i ∧ sk T tl i ≤ tl := fi_in _ h
theorem kd_t (T : Nat → Nat) {tl a : Nat} (h : a < tl) : kd T tl a = if ltr (T a) = true then 1 else if fgr (T a) = true then 2 else if T a = 59 then 3 else 4 := if_pos h
theorem kd_0 (T : Nat → Nat) {tl a : Nat} (h : ¬ a < tl) : kd T tl a = 0 := if_neg h
theorem kd_n (T : Nat → Nat) {tl a : Nat} (h : a < tl) : kd T tl a ≠ 0 := by
  rw [kd_t T h]
  split
  · omega
  · split
    · omega
    · split <;> omega
theorem kd_4 (T : Nat → Nat) (tl a : Nat) : kd T tl a ≤ 4 := by
  unfold kd
  split
  · split
    · omega
    · split
      · omega
      · split <;> omega
  · omega
theorem kd_1 {T : Nat → Nat} {tl a : Nat} (h : kd T tl a = 1) : a < tl ∧ ltr (T a) = true := by
  unfold kd at h
  by_cases c : a < tl
  · rw [if_pos c] at h
    refine ⟨c, ?_⟩
    cases e : ltr (T a) with
    | true => rfl
    | false =>
      rw [e, if_neg nft] at h
      split at h
      · omega
      · split at h <;> omega
  · rw [if_neg c] at h
    omega
theorem kd_2 {T : Nat → Nat} {tl a : Nat} (h : kd T tl a = 2) : a < tl ∧ fgr (T a) = true := by
  unfold kd at h
  by_cases c : a < tl
  · rw [if_pos c] at h
    refine ⟨c, ?_⟩
    cases e : fgr (T a) with
    | true => rfl
    | false =>
      rw [e, if_neg nft] at h
      split at h
      · omega
      · split at h <;> omega
  · rw [if_neg c] at h
    omega
theorem tkE_in (T : Nat → Nat) {tl a : Nat} (h : a ≤ tl) : a ≤ tkE T tl a ∧ tkE T tl a ≤ tl ∧ (kd T tl a ≠ 0 → a < tkE T tl a) := by
  unfold tkE
  by_cases c0 : kd T tl a = 0
  · rw [if_pos c0]
    exact ⟨Nat.le_refl a, h, fun q => absurd c0 q⟩
  · have hl : a < tl := by
      rcases Nat.lt_or_ge a tl with q | q
      · exact q
      · exact absurd (kd_0 T (by omega)) c0
    rw [if_neg c0]
    by_cases c1 : kd T tl a = 1
    · rw [if_pos c1]
      have := fi_in (fun j => !ltr (T j)) h
      have g := fi_gt (fun j => !ltr (T j)) hl (by rw [(kd_1 c1).2]; rfl)
      exact ⟨this.1, this.2, fun _ => g⟩
    · rw [if_neg c1]
      by_cases c2 : kd T tl a = 2
      · rw [if_pos c2]
        have := fi_in (fun j => !fgr (T j)) h
        have g := fi_gt (fun j => !fgr (T j)) hl (by rw [(kd_2 c2).2]; rfl)
        exact ⟨this.1, this.2, fun _ => g⟩
      · rw [if_neg c2]
        exact ⟨by omega, by omega, fun _ => by omega⟩
/-- the figures of a number -/
theorem ef_fg (T : Nat → Nat) {tl a i : Nat} (h1 : a ≤ i) (h2 : i < ef T tl a) : fgr (T i) = true := by
  obtain ⟨-, -, -, h4⟩ := fi_spec (fun j => !fgr (T j)) (tl - a) a
  have := h4 i h1 h2
  rw [Bool.not_eq_false'] at this
  exact this
theorem fgr_b {c : Nat} (h : fgr c = true) : 48 ≤ c ∧ c ≤ 57 := by
  unfold fgr at h
  rw [Bool.and_eq_true, decide_eq_true_eq, decide_eq_true_eq] at h
  exact h
theorem dec_b (T : Nat → Nat) (a : Nat) : ∀ n, (∀ i, i < n → fgr (T (a + i)) = true) → dec T a n < 10 ^ n
  | 0, _ => by show 0 < 1; omega
  | n + 1, h => by
    have ih := dec_b T a n (fun i hi => h i (by omega))
    have g := fgr_b (h n (by omega))
    have e : 10 ^ (n + 1) = 10 * 10 ^ n := by rw [Nat.pow_succ, Nat.mul_comm]
    rw [dec_1]
    omega
theorem dec_999 (T : Nat → Nat) {a n : Nat} (hn : n ≤ 3) (h : ∀ i, i < n → fgr (T (a + i)) = true) : dec T a n < 1000 := by
  have := dec_b T a n h
  have : 10 ^ n ≤ 10 ^ 3 := Nat.pow_le_pow_right (by omega) hn
  omega
/-! ===== a loop that goes on till it must stop ===== -/
theorem jloop_adv {β : Type} {B : (jS → Option β) → jS → Option β} {k : jS → Option β} (st : Nat → jS) (p : Nat → Bool) (tl : Nat) (h : ∀ g i, i < tl → B g (st i) = if p i = true then k (st i) else g (st (i + 1))) (he : ∀ g, B g (st tl) = k (st tl)) : ∀ m i n, i + m = tl → m < n → jloop B n (st i) = k (st (fi p i m)) := by
  intro m
  induction m with
  | zero =>
    intro i n hi hn
    cases n with
    | zero => omega
    | succ n =>
      have e : i = tl := by omega
      subst e
      rw [jloop_1, he]
      rfl
  | succ m ih =>
    intro i n hi hn
    cases n with
    | zero => omega
    | succ n =>
      rw [jloop_1, h _ i (by omega), fi_s]
      cases p i with
      | true => rw [if_pos ptt, if_pos ptt]
      | false =>
        rw [if_neg nft, if_neg nft]
        exact ih (i + 1) n (by omega) (by omega)
theorem jloop_av {β : Type} {B : (jS → Option β) → jS → Option β} {k : jS → Option β} (st : Nat → jS) (p : Nat → Bool) {tl i : Nat} (htl : tl < 1000000) (hi : i ≤ tl) (h : ∀ g i, i < tl → B g (st i) = if p i = true then k (st i) else g (st (i + 1))) (he : ∀ g, B g (st tl) = k (st tl)) : jloop B jN (st i) = k (st (fi p i (tl - i))) := jloop_adv st p tl h he (tl - i) i jN (by omega) (jN_big (by omega))
theorem jsI_self (S : jS) (k j : Nat) : jsI S k j (S.1 k j) = S := by
  rw [jsI_d]
  have : upd (S.1 k) j (S.1 k j) = S.1 k := by
    funext t
    rw [upd_1]
    split
    · next q => rw [q]
    · rfl
  rw [this, jsR_self]
/-! ===== the class looks at a token ===== -/
/-- only the class's reader has moved, from its field 4 on -/
def Rd (S S1 : jS) : Prop := S1.2 = S.2 ∧ (∀ k, k ≠ 18 → S1.1 k = S.1 k) ∧ ∀ j, j < 4 → S1.1 18 j = S.1 18 j
theorem Rd.rfl' (S : jS) : Rd S S := ⟨rfl, fun _ _ => rfl, fun _ _ => rfl⟩
theorem Rd.tr {S S1 S2 : jS} (h : Rd S S1) (g : Rd S1 S2) : Rd S S2 := ⟨g.1.trans h.1, fun k hk => (g.2.1 k hk).trans (h.2.1 k hk), fun j hj => (g.2.2 j hj).trans (h.2.2 j hj)⟩
theorem Rd.I (S : jS) {j : Nat} (v : Int32) (hj : 4 ≤ j) : Rd S (jsI S 18 j v) := by
  refine ⟨rfl, fun k hk => ?_, fun i hi => ?_⟩
  · rw [jsI_1, if_neg hk]
  · rw [jsI_1, if_pos rfl, upd_n _ _ (by omega)]
theorem Rd.ev {S S1 : jS} (h : Rd S S1) : Ev S S1 := ⟨h.1, fun k hk => h.2.1 k (fun e => by rw [e] at hk; exact absurd hk (by decide)), by rw [h.2.1 0 (by omega)], by rw [h.2.1 0 (by omega)], by rw [h.2.1 0 (by omega)], h.2.2 1 (by omega), by rw [h.2.1 41 (by omega)]⟩
theorem txt_ev {S S1 : jS} {T : Nat → Nat} {tl : Nat} (h : txt S T tl) (e : Ev S S1) : txt S1 T tl := txt_c h e.2.2.2.2.2.1 e.2.2.2.2.2.2 (e.2.1 20 rfl) (e.2.1 53 rfl)
theorem X7_byteAt {S : jS} {T : Nat → Nat} {tl : Nat} (hx : txt S T tl) {i : Nat} (hi : i ≤ tl) : f_X7_byteAt (nI i) S = some (if i < tl then nI (T i) else -1, S) := by
  obtain ⟨t1, t2, t3, t4⟩ := hx
  unfold f_X7_byteAt f_X7_byteAt_e f_X7_byteAt_28 f_X7_byteAt_29
  rw [if_neg (nI_pos (by omega)), t2, itlt (by omega) (by omega), itl q150 (by omega) (by omega)]
  by_cases c : i < tl
  · rw [if_pos c, if_pos c, if_pos (by omega), jld_nI (by omega) (by omega), (t4 i c).1]
  · rw [if_neg c, if_neg c]
theorem X7_isLetter {c : Nat} (hc : c ≤ 127) (S : jS) : f_X7_isLetter (nI c) S = some (bI (ltr c), S) := by
  unfold f_X7_isLetter f_X7_isLetter_e f_X7_isLetter_16 f_X7_isLetter_17
  rw [itl (show (97 : Int32) = nI 97 from rfl) (by omega) (by omega), itg (show (122 : Int32) = nI 122 from rfl) (by omega) (by omega)]
  unfold ltr
  by_cases c1 : c < 97
  · rw [if_pos c1, decide_eq_false (by omega)]; rfl
  · rw [if_neg c1, decide_eq_true (show 97 ≤ c by omega)]
    by_cases c2 : 122 < c
    · rw [if_pos c2, decide_eq_false (by omega)]; rfl
    · rw [if_neg c2, decide_eq_true (show c ≤ 122 by omega)]; rfl
theorem X7_isFigure {c : Nat} (hc : c ≤ 127) (S : jS) : f_X7_isFigure (nI c) S = some (bI (fgr c), S) := by
  unfold f_X7_isFigure f_X7_isFigure_e f_X7_isFigure_16 f_X7_isFigure_17
  rw [itl (show (48 : Int32) = nI 48 from rfl) (by omega) (by omega), itg (show (57 : Int32) = nI 57 from rfl) (by omega) (by omega)]
  unfold fgr
  by_cases c1 : c < 48
  · rw [if_pos c1, decide_eq_false (by omega)]; rfl
  · rw [if_neg c1, decide_eq_true (show 48 ≤ c by omega)]
    by_cases c2 : 57 < c
    · rw [if_pos c2, decide_eq_false (by omega)]; rfl
    · rw [if_neg c2, decide_eq_true (show c ≤ 57 by omega)]; rfl
theorem X7_passWord {S : jS} {T : Nat → Nat} {tl : Nat} (hx : txt S T tl) {a : Nat} (ha : a ≤ tl) (h6 : S.1 18 6 = nI a) : f_X7_passWord S = some (jsI S 18 6 (nI (ew T tl a))) := by
  have e0 : S = jsI S 18 6 (nI a) := by rw [← h6, jsI_self]
  obtain ⟨t1, t2, t3, t4⟩ := id hx
  unfold f_X7_passWord f_X7_passWord_e lp_X7_passWord_0v1
  conv => lhs; rw [e0]
  refine (jloop_av (k := f_X7_passWord_38) (fun i => jsI S 18 6 (nI i)) (fun j => !ltr (T j)) (tl := tl) (by omega) ha (fun g i hi => ?_) (fun g => ?_)).trans rfl
  · have hT := (t4 i hi).2.2
    have h6' : (jsI S 18 6 (nI i)).1 18 6 = nI i := rfl
    have h1' : (jsI S 18 6 (nI i)).1 18 1 = nI tl := t2
    try dsimp only
    unfold f_X7_passWord_0v1
    rw [h6', h1', itlt (by omega) (by omega), if_pos hi, X7_byteAt (S := jsI S 18 6 (nI i)) (txt_c hx rfl rfl rfl rfl) (by omega), jcl_s, if_pos hi, X7_isLetter hT, jcl_s, ite_b, h6', jpt_s, jsI_I, show nI i + 1 = nI (i + 1) from qadd _ 1]
    cases ltr (T i) <;> rfl
  · have h6' : (jsI S 18 6 (nI tl)).1 18 6 = nI tl := rfl
    have h1' : (jsI S 18 6 (nI tl)).1 18 1 = nI tl := t2
    try dsimp only
    unfold f_X7_passWord_0v1
    rw [h6', h1', itlt (by omega) (by omega), if_neg (by omega)]
/-- the class's value of the figures from a to i -/
def dv (T : Nat → Nat) (a i : Nat) : Int32 := if i - a ≤ 3 then nI (dec T a (i - a)) else -1
theorem dv_s (T : Nat → Nat) {a i : Nat} (h : a ≤ i) (h3 : i - a < 3) (hf : fgr (T i) = true) : 10 * dv T a i + nI (T i) - 48 = dv T a (i + 1) := by
  have g := fgr_b hf
  unfold dv
  rw [if_pos (by omega), if_pos (by omega), show i + 1 - a = (i - a) + 1 by omega, dec_1, show a + (i - a) = i by omega, show (10 : Int32) = nI 10 from rfl, qmul, qadd, show (48 : Int32) = nI 48 from rfl, qsub (by omega)]
  congr 1
  omega
theorem X7_passNumber {S : jS} {T : Nat → Nat} {tl : Nat} (hx : txt S T tl) {a : Nat} (ha : a ≤ tl) (h6 : S.1 18 6 = nI a) (h8 : S.1 18 8 = nI a) : f_X7_passNumber S = some (jsI (jsI S 18 9 (dv T a (ef T tl a))) 18 6 (nI (ef T tl a))) := by
  have e0 : jsI S 18 9 0 = jsI (jsI S 18 9 (dv T a a)) 18 6 (nI a) := by
    have : dv T a a = 0 := by
      unfold dv
      rw [Nat.sub_self, if_pos (by omega)]
      rfl
    have h6' : (jsI S 18 9 0).1 18 6 = nI a := h6
    rw [this, ← h6', jsI_self]
  obtain ⟨t1, t2, t3, t4⟩ := id hx
  unfold f_X7_passNumber f_X7_passNumber_e lp_X7_passNumber_5
  rw [jpt_s, e0]
  have inv : ∀ m i n, a ≤ i → i + m = tl → m < n → jloop (fun g q => f_X7_passNumber_5 (fun S => g S) f_X7_passNumber_83 q) n (jsI (jsI S 18 9 (dv T a i)) 18 6 (nI i)) = some (jsI (jsI S 18 9 (dv T a (fi (fun j => !fgr (T j)) i m))) 18 6 (nI (fi (fun j => !fgr (T j)) i m))) := by
    have step : ∀ g i, a ≤ i → i ≤ tl → f_X7_passNumber_5 g f_X7_passNumber_83 (jsI (jsI S 18 9 (dv T a i)) 18 6 (nI i)) = if i < tl ∧ fgr (T i) = true then g (jsI (jsI S 18 9 (dv T a (i + 1))) 18 6 (nI (i + 1))) else some (jsI (jsI S 18 9 (dv T a i)) 18 6 (nI i)) := by
      intro g i hai hi
      have h6' : (jsI (jsI S 18 9 (dv T a i)) 18 6 (nI i)).1 18 6 = nI i := rfl
      have h1' : (jsI (jsI S 18 9 (dv T a i)) 18 6 (nI i)).1 18 1 = nI tl := t2
      have h8' : (jsI (jsI S 18 9 (dv T a i)) 18 6 (nI i)).1 18 8 = nI a := h8
      have h9' : (jsI (jsI S 18 9 (dv T a i)) 18 6 (nI i)).1 18 9 = dv T a i := rfl
      have es : ∀ v, jsI (jsI (jsI (jsI S 18 9 (dv T a i)) 18 6 (nI i)) 18 9 v) 18 6 (nI (i + 1)) = jsI (jsI S 18 9 v) 18 6 (nI (i + 1)) := by
        intro v
        simp only [jsI_d, jsR_R, jsR_s]
        congr 1
        funext t
        simp only [upd_1]
        split
        · rfl
        · split <;> rfl
      unfold f_X7_passNumber_5 f_X7_passNumber_67 f_X7_passNumber_83
      rw [h6', h1', itlt (by omega) (by omega)]
      by_cases c : i < tl
      · have hT := (t4 i c).2.2
        rw [if_pos c, X7_byteAt (S := jsI (jsI S 18 9 (dv T a i)) 18 6 (nI i)) (txt_c hx rfl rfl rfl rfl) hi, jcl_s, if_pos c, X7_isFigure hT, jcl_s, ite_b, h6', h8', h9', qsub hai, itl q3 (by omega) (by omega), X7_byteAt (S := jsI (jsI S 18 9 (dv T a i)) 18 6 (nI i)) (txt_c hx rfl rfl rfl rfl) hi, jcl_s, if_pos c]
        cases cf : fgr (T i) with
        | false => rw [if_neg nft, if_neg (fun q => nft q.2)]
        | true =>
          rw [if_pos ptt, if_pos (show i < tl ∧ true = true from ⟨c, ptt⟩)]
          by_cases c3 : i - a < 3
          · rw [if_pos c3, dv_s T hai c3 cf, jpt_s, jpt_s, show (jsI (jsI (jsI S 18 9 (dv T a i)) 18 6 (nI i)) 18 9 (dv T a (i + 1))).1 18 6 = nI i from rfl, show nI i + 1 = nI (i + 1) from qadd _ 1, es]
          · have ed : dv T a (i + 1) = -1 := if_neg (by omega)
            rw [if_neg c3, jpt_s, jpt_s, show (jsI (jsI (jsI S 18 9 (dv T a i)) 18 6 (nI i)) 18 9 (-1)).1 18 6 = nI i from rfl, show nI i + 1 = nI (i + 1) from qadd _ 1, es, ed]
      · rw [if_neg c, if_neg (fun q => c q.1)]
    intro m
    induction m with
    | zero =>
      intro i n hai hi hn
      cases n with
      | zero => omega
      | succ n =>
        rw [jloop_1, step _ i hai (by omega), if_neg (by omega)]
        rfl
    | succ m ih =>
      intro i n hai hi hn
      cases n with
      | zero => omega
      | succ n =>
        rw [jloop_1, step _ i hai (by omega), fi_s]
        cases cf : fgr (T i) with
        | false => rw [if_neg (fun q => nft q.2)]; rfl
        | true =>
          rw [if_pos ⟨by omega, ptt⟩, Bool.not_true, if_neg nft]
          exact ih (i + 1) n (by omega) (by omega) (by omega)
  exact inv (tl - a) a jN (Nat.le_refl a) (by omega) (jN_big (by omega))
theorem X7_scan {S : jS} {T : Nat → Nat} {tl : Nat} (hx : txt S T tl) {i : Nat} (hi : i ≤ tl) (h6 : S.1 18 6 = nI i) : ∃ S1, f_X7_scan S = some S1 ∧ Rd S S1 ∧ S1.1 18 4 = S.1 18 4 ∧ S1.1 18 6 = nI (tkE T tl (sk T tl i)) ∧ S1.1 18 7 = nI (kd T tl (sk T tl i)) ∧ S1.1 18 8 = nI (sk T tl i) ∧ (kd T tl (sk T tl i) = 2 → S1.1 18 9 = dv T (sk T tl i) (tkE T tl (sk T tl i))) := by
  have e0 : S = jsI S 18 6 (nI i) := by rw [← h6, jsI_self]
  obtain ⟨t1, t2, t3, t4⟩ := id hx
  obtain ⟨s1, s2⟩ := sk_in T hi
  have skip : f_X7_scan S = f_X7_scan_37 (jsI S 18 6 (nI (sk T tl i))) := by
    unfold f_X7_scan f_X7_scan_e lp_X7_scan_0v1
    conv => lhs; rw [e0]
    refine jloop_av (k := f_X7_scan_37) (fun i => jsI S 18 6 (nI i)) (fun j => !decide (T j = 32)) (tl := tl) (by omega) hi (fun g i hi => ?_) (fun g => ?_)
    · have hT := (t4 i hi).2.2
      have h6' : (jsI S 18 6 (nI i)).1 18 6 = nI i := rfl
      have h1' : (jsI S 18 6 (nI i)).1 18 1 = nI tl := t2
      try dsimp only
      unfold f_X7_scan_0v1
      rw [h6', h1', itlt (by omega) (by omega), if_pos hi, X7_byteAt (S := jsI S 18 6 (nI i)) (txt_c hx rfl rfl rfl rfl) (by omega), jcl_s, if_pos hi, itv (show (32 : Int32) = nI 32 from rfl) (by omega) (by omega), h6', jpt_s, jsI_I, show nI i + 1 = nI (i + 1) from qadd _ 1]
      by_cases c : T i = 32
      · rw [if_pos c, decide_eq_true c]; rfl
      · rw [if_neg c, decide_eq_false c]; rfl
    · have h6' : (jsI S 18 6 (nI tl)).1 18 6 = nI tl := rfl
      have h1' : (jsI S 18 6 (nI tl)).1 18 1 = nI tl := t2
      try dsimp only
      unfold f_X7_scan_0v1
      rw [h6', h1', itlt (by omega) (by omega), if_neg (by omega)]
  rw [skip]
  generalize sk T tl i = a at s1 s2
  have hx1 : txt (jsI (jsI S 18 6 (nI a)) 18 8 (nI a)) T tl := txt_c hx rfl rfl rfl rfl
  have r1 : Rd S (jsI (jsI S 18 6 (nI a)) 18 8 (nI a)) := (Rd.I S _ (by omega)).tr (Rd.I _ _ (by omega))
  unfold f_X7_scan_37 f_X7_scan_116 f_X7_scan_129
  rw [show (jsI S 18 6 (nI a)).1 18 6 = nI a from rfl, jpt_s, show (jsI (jsI S 18 6 (nI a)) 18 8 (nI a)).1 18 6 = nI a from rfl, X7_byteAt hx1 s2, jcl_s]
  by_cases c : a < tl
  · have hT := (t4 a c).2.2
    have ek := kd_t T c
    rw [if_pos c, if_neg (nI_pos (by omega)), X7_isLetter hT, jcl_s, ite_b, X7_isFigure hT, jcl_s, ite_b, itv (show (59 : Int32) = nI 59 from rfl) (by omega) (by omega)]
    unfold tkE
    cases cl : ltr (T a) with
    | true =>
      rw [cl, if_pos ptt] at ek
      rw [if_pos ptt, jpt_s, X7_passWord (S := jsI (jsI (jsI S 18 6 (nI a)) 18 8 (nI a)) 18 7 1) (txt_c hx rfl rfl rfl rfl) s2 rfl, jcv_s, ek, if_neg (by omega), if_pos rfl]
      exact ⟨_, rfl, r1.tr ((Rd.I _ _ (by omega)).tr (Rd.I _ _ (by omega))), rfl, rfl, rfl, rfl, fun q => by omega⟩
    | false =>
      rw [cl, if_neg nft] at ek
      rw [if_neg nft]
      cases cf : fgr (T a) with
      | true =>
        rw [cf, if_pos ptt] at ek
        rw [if_pos ptt, jpt_s, X7_passNumber (S := jsI (jsI (jsI S 18 6 (nI a)) 18 8 (nI a)) 18 7 2) (txt_c hx rfl rfl rfl rfl) s2 rfl rfl, jcv_s, ek, if_neg (by omega), if_neg (by omega), if_pos rfl]
        exact ⟨_, rfl, r1.tr ((Rd.I _ _ (by omega)).tr ((Rd.I _ _ (by omega)).tr (Rd.I _ _ (by omega)))), rfl, rfl, rfl, rfl, fun q => rfl⟩
      | false =>
        rw [cf, if_neg nft] at ek
        rw [if_neg nft]
        by_cases c5 : T a = 59
        · rw [if_pos c5] at ek
          rw [if_pos c5, jpt_s, jpt_s, ek, if_neg (by omega), if_neg (by omega), if_neg (by omega), ← qadd]
          exact ⟨_, rfl, r1.tr ((Rd.I _ _ (by omega)).tr (Rd.I _ _ (by omega))), rfl, rfl, rfl, rfl, fun q => by omega⟩
        · rw [if_neg c5] at ek
          rw [if_neg c5, jpt_s, jpt_s, ek, if_neg (by omega), if_neg (by omega), if_neg (by omega), ← qadd]
          exact ⟨_, rfl, r1.tr ((Rd.I _ _ (by omega)).tr (Rd.I _ _ (by omega))), rfl, rfl, rfl, rfl, fun q => by omega⟩
  · have ek := kd_0 T c
    have ea : a = tl := by omega
    unfold tkE
    rw [if_neg c, if_pos (show (-1 : Int32) < 0 by decide), jpt_s, ek, if_pos rfl]
    exact ⟨_, rfl, r1.tr (Rd.I _ _ (by omega)), rfl, rfl, rfl, rfl, fun q => by omega⟩
