/-! ===== the model looks at a token ===== -/
/-- only what the model has of a token has changed -/
def Lk (S S1 : jS) : Prop := S1.2 = S.2 ∧ (∀ k, k ≠ 41 → S1.1 k = S.1 k) ∧ ∀ j, j < 19 → S1.1 41 j = S.1 41 j
theorem Lk.rfl' (S : jS) : Lk S S := ⟨rfl, fun _ _ => rfl, fun _ _ => rfl⟩
theorem Lk.tr {S S1 S2 : jS} (h : Lk S S1) (g : Lk S1 S2) : Lk S S2 := ⟨g.1.trans h.1, fun k hk => (g.2.1 k hk).trans (h.2.1 k hk), fun j hj => (g.2.2 j hj).trans (h.2.2 j hj)⟩
theorem Lk.I (S : jS) {j : Nat} (v : Int32) (hj : 19 ≤ j) : Lk S (jsI S 41 j v) := by
  refine ⟨rfl, fun k hk => ?_, fun i hi => ?_⟩
  · rw [jsI_1, if_neg hk]
  · rw [jsI_1, if_pos rfl, upd_n _ _ (by omega)]
theorem Lk.ev {S S1 : jS} (h : Lk S S1) : Ev S S1 := ⟨h.1, fun k hk => h.2.1 k (fun e => by rw [e] at hk; exact absurd hk (by decide)), by rw [h.2.1 0 (by omega)], by rw [h.2.1 0 (by omega)], by rw [h.2.1 0 (by omega)], by rw [h.2.1 18 (by omega)], h.2.2 18 (by omega)⟩
theorem X12_isSmall {c : Nat} (hc : c ≤ 127) (S : jS) : f_X12_isSmall (nI c) S = some (bI (ltr c), S) := by
  unfold f_X12_isSmall f_X12_isSmall_e
  rw [show f_X12_in (nI c).toInt64 97 122 S = some (bI (okr (nI c) 97 122), S) from X12_inN (nI c) 97 122 (by omega) (by omega) S, jcl_s, jzr_b, okr_nI (by omega), Bool.decide_and]
  rfl
theorem X12_isFigure {c : Nat} (hc : c ≤ 127) (S : jS) : f_X12_isFigure (nI c) S = some (bI (fgr c), S) := by
  unfold f_X12_isFigure f_X12_isFigure_e
  rw [show f_X12_in (nI c).toInt64 48 57 S = some (bI (okr (nI c) 48 57), S) from X12_inN (nI c) 48 57 (by omega) (by omega) S, jcl_s, jzr_b, okr_nI (by omega), Bool.decide_and]
  rfl
theorem X12_la_136 {k215 : jS → Option jS} {S : jS} {T : Nat → Nat} {tl : Nat} (hx : txt S T tl) {a K : Nat} {P : Nat → Bool} (hK : K = 1 ∧ P = ltr ∨ K = 2 ∧ P = fgr) (h19 : S.1 41 19 = nI a) (h21 : S.1 41 21 = nI K) : ∀ m i n, a ≤ i → i + m = tl → m + 1 < n → jloop (α := Int32 × jS) (fun g q => f_X12_lookAt_136 (fun x3 S => g (x3, S)) k215 q.1 q.2) n (1, jsI S 41 20 (nI (i - a))) = k215 (jsI S 41 20 (nI (fi (fun j => !P (T j)) i m - a))) := by
  obtain ⟨t1, t2, t3, t4⟩ := id hx
  have z : ∀ g S', f_X12_lookAt_136 g k215 0 S' = k215 S' := fun g S' => if_pos rfl
  have step : ∀ g i, a ≤ i → i ≤ tl → f_X12_lookAt_136 g k215 1 (jsI S 41 20 (nI (i - a))) = if i < tl then (if P (T i) = true then g 1 (jsI S 41 20 (nI (i + 1 - a))) else g 0 (jsI S 41 20 (nI (i - a)))) else k215 (jsI S 41 20 (nI (i - a))) := by
    intro g i hai hi
    have e19 : (jsI S 41 20 (nI (i - a))).1 41 19 = nI a := h19
    have e20 : (jsI S 41 20 (nI (i - a))).1 41 20 = nI (i - a) := rfl
    have e18 : (jsI S 41 20 (nI (i - a))).1 41 18 = nI tl := t3
    have e21 : (jsI S 41 20 (nI (i - a))).1 41 21 = nI K := h21
    unfold f_X12_lookAt_136 f_X12_lookAt_193 f_X12_lookAt_208
    rw [if_neg (show ¬ (1 : Int32) = 0 by decide), e19, e20, e18, e21, qadd, show a + (i - a) = i by omega, itlt (by omega) (by omega)]
    by_cases c : i < tl
    · obtain ⟨-, b2, b3⟩ := t4 i c
      rw [if_pos c, if_pos c, jld_nI (by omega) (by omega), show (jsI S 41 20 (nI (i - a))).1 53 i = nI (T i) from b2]
      have fin : ∀ b : Bool, (if bI b = 0 then jpt (jsI S 41 20 (nI (i - a))) 41 20 ((jsI S 41 20 (nI (i - a))).1 41 20 + 0) (fun S1 => g (bI b) S1) else jpt (jsI S 41 20 (nI (i - a))) 41 20 ((jsI S 41 20 (nI (i - a))).1 41 20 + 1) (fun S1 => g (bI b) S1)) = if b = true then g 1 (jsI S 41 20 (nI (i + 1 - a))) else g 0 (jsI S 41 20 (nI (i - a))) := by
        intro b
        rw [ite_b, jpt_s, jpt_s, jsI_I, jsI_I, e20, Int32.add_zero, show nI (i - a) + 1 = nI (i - a + 1) from qadd _ 1, show i - a + 1 = i + 1 - a by omega]
        cases b <;> rfl
      rcases hK with ⟨k1, k2⟩ | ⟨k1, k2⟩
      · rw [k1, k2, if_pos (by decide), X12_isSmall b3, jcl_s]
        exact fin _
      · rw [k1, k2, if_neg (by decide), X12_isFigure b3, jcl_s]
        exact fin _
    · rw [if_neg c, if_neg c]
  intro m
  induction m with
  | zero =>
    intro i n hai hi hn
    cases n with
    | zero => omega
    | succ n =>
      rw [jloop_1]
      dsimp only
      rw [step _ i hai (by omega), if_neg (by omega)]
      rfl
  | succ m ih =>
    intro i n hai hi hn
    cases n with
    | zero => omega
    | succ n =>
      rw [jloop_1]
      dsimp only
      rw [step _ i hai (by omega), if_pos (by omega), fi_s]
      cases cp : P (T i) with
      | true =>
        rw [if_pos ptt, Bool.not_true, if_neg nft]
        exact ih (i + 1) n (by omega) (by omega) (by omega)
      | false =>
        rw [if_neg nft, Bool.not_false, if_pos ptt]
        cases n with
        | zero => omega
        | succ n =>
          rw [jloop_1]
          exact z _ _
theorem X12_la_218 {k274 : jS → Option jS} {S : jS} {T : Nat → Nat} {tl : Nat} (hx : txt S T tl) {a len : Nat} (hl : a + len ≤ tl) (hf : ∀ i, i < len → fgr (T (a + i)) = true) (h19 : S.1 41 19 = nI a) (h20 : S.1 41 20 = nI len) (h21 : S.1 41 21 = nI 2) (h22 : S.1 41 22 = 0) : lp_X12_lookAt_218 k274 0 S = k274 (jsI S 41 22 (nI (dec T a (if len < 3 then len else 3)))) := by
  obtain ⟨t1, t2, t3, t4⟩ := id hx
  have e0 : S = jsI S 41 22 (nI (dec T a 0)) := by
    show S = jsI S 41 22 0
    rw [← h22, jsI_self]
  unfold lp_X12_lookAt_218
  refine jloop_u (fun x => (nI x, jsI S 41 22 (nI (dec T a x)))) (if len < 3 then len else 3) (by show (0, S) = (nI 0, jsI S 41 22 (nI (dec T a 0))); rw [← e0]; rfl) (by split <;> omega) (fun x hxl g => ?_) (fun g => ?_)
  · have hx1 : x < len ∧ x < 3 := by
      split at hxl <;> omega
    obtain ⟨-, b2, b3⟩ := t4 (a + x) (by omega)
    have gb := fgr_b (hf x hx1.1)
    dsimp only
    unfold f_X12_lookAt_218
    rw [show (jsI S 41 22 (nI (dec T a x))).1 41 20 = nI len from h20, show (jsI S 41 22 (nI (dec T a x))).1 41 21 = nI 2 from h21, show (jsI S 41 22 (nI (dec T a x))).1 41 19 = nI a from h19, show (jsI S 41 22 (nI (dec T a x))).1 41 22 = nI (dec T a x) from rfl, itlt (by omega) (by omega), if_pos hx1.1, itl q3 (by omega) (by omega), if_pos hx1.2, if_pos (show nI 2 = 2 from rfl), qadd, jld_nI (by omega) (by omega), show (jsI S 41 22 (nI (dec T a x))).1 53 (a + x) = nI (T (a + x)) from b2, show (10 : Int32) = nI 10 from rfl, qmul, qadd, show (48 : Int32) = nI 48 from rfl, qsub (by omega), jpt_s, jsI_I, show nI x + 1 = nI (x + 1) from qadd _ 1, dec_1, show 10 * dec T a x + T (a + x) - 48 = 10 * dec T a x + (T (a + x) - 48) by omega]
  · dsimp only
    generalize hm : (if len < 3 then len else 3) = y
    unfold f_X12_lookAt_218
    rw [show (jsI S 41 22 (nI (dec T a y))).1 41 20 = nI len from h20]
    by_cases c : len < 3
    · rw [if_pos c] at hm
      subst hm
      rw [itlt (by omega) (by omega), if_neg (by omega)]
    · rw [if_neg c] at hm
      subst hm
      rw [itlt (by omega) (by omega), if_neg (show ¬ nI 3 < 3 by decide), ite_self]
/-- the model's kind of token: a number of more than three figures is another -/
def kdM (T : Nat → Nat) (tl a : Nat) : Nat := if kd T tl a = 2 ∧ 3 < tkE T tl a - a then 4 else kd T tl a
/-- the model looks at the token at a -/
def lkd (S : jS) (T : Nat → Nat) (tl a : Nat) : Prop := S.1 41 19 = nI a ∧ S.1 41 20 = nI (tkE T tl a - a) ∧ S.1 41 21 = nI (kdM T tl a) ∧ (kdM T tl a = 2 → S.1 41 22 = nI (dec T a (tkE T tl a - a)))
theorem fi_at (p : Nat → Bool) {a tl : Nat} (h : a < tl) (hp : p a = false) : fi p a (tl - a) = fi p (a + 1) (tl - (a + 1)) := by
  rw [show tl - a = tl - (a + 1) + 1 by omega, fi_s, hp, if_neg nft]
theorem X12_la_274 {S : jS} {K len : Nat} (hK : K ≤ 4) (hl : len ≤ 150) (h20 : S.1 41 20 = nI len) (h21 : S.1 41 21 = nI K) : f_X12_lookAt_274 S = some (jsI S 41 21 (nI (if K = 2 ∧ 3 < len then 4 else K))) := by
  unfold f_X12_lookAt_274 f_X12_lookAt_295 f_X12_lookAt_299
  rw [h20, h21, itv q2 (by omega) (by omega), itg q3 (by omega) (by omega), jpt_s, jpt_s]
  by_cases c : K = 2
  · rw [if_pos c]
    by_cases c2 : 3 < len
    · rw [if_pos c2, if_pos ⟨c, c2⟩]; rfl
    · rw [if_neg c2, if_neg (fun q => c2 q.2)]
  · rw [if_neg c, if_neg (fun q => c q.1)]
theorem X12_lookAt {S : jS} {T : Nat → Nat} {tl : Nat} (hx : txt S T tl) {i : Nat} (hi : i ≤ tl) : ∃ S1, f_X12_lookAt (nI i) S = some S1 ∧ Lk S S1 ∧ lkd S1 T tl (sk T tl i) := by
  obtain ⟨t1, t2, t3, t4⟩ := id hx
  obtain ⟨s1, s2⟩ := sk_in T hi
  have skip : f_X12_lookAt (nI i) S = f_X12_lookAt_43 (jsI S 41 19 (nI (sk T tl i))) := by
    unfold f_X12_lookAt f_X12_lookAt_e lp_X12_lookAt_5
    rw [jpt_s]
    refine jloop_av (k := f_X12_lookAt_43) (fun i => jsI S 41 19 (nI i)) (fun j => !decide (T j = 32)) (tl := tl) (by omega) hi (fun g i hi => ?_) (fun g => ?_)
    · obtain ⟨-, b2, b3⟩ := t4 i hi
      try dsimp only
      unfold f_X12_lookAt_5
      rw [show (jsI S 41 19 (nI i)).1 41 19 = nI i from rfl, show (jsI S 41 19 (nI i)).1 41 18 = nI tl from t3, itlt (by omega) (by omega), if_pos hi, jld_nI (by omega) (by omega), show (jsI S 41 19 (nI i)).1 53 i = nI (T i) from b2, itv (show (32 : Int32) = nI 32 from rfl) (by omega) (by omega), jpt_s, jsI_I, show nI i + 1 = nI (i + 1) from qadd _ 1]
      by_cases c : T i = 32
      · rw [if_pos c, decide_eq_true c]; rfl
      · rw [if_neg c, decide_eq_false c]; rfl
    · try dsimp only
      unfold f_X12_lookAt_5
      rw [show (jsI S 41 19 (nI tl)).1 41 19 = nI tl from rfl, show (jsI S 41 19 (nI tl)).1 41 18 = nI tl from t3, itlt (by omega) (by omega), if_neg (by omega)]
  rw [skip]
  generalize sk T tl i = a at s1 s2
  have l0 : Lk S (jsI (jsI (jsI (jsI S 41 19 (nI a)) 41 20 0) 41 21 0) 41 22 0) := (Lk.I S _ (by omega)).tr ((Lk.I _ _ (by omega)).tr ((Lk.I _ _ (by omega)).tr (Lk.I _ _ (by omega))))
  unfold f_X12_lookAt_43
  rw [jpt_s, jpt_s, jpt_s, show (jsI (jsI (jsI (jsI S 41 19 (nI a)) 41 20 0) 41 21 0) 41 22 0).1 41 19 = nI a from rfl, show (jsI (jsI (jsI (jsI S 41 19 (nI a)) 41 20 0) 41 21 0) 41 22 0).1 41 18 = nI tl from t3, iteq (by omega) (by omega)]
  by_cases c : a < tl
  · obtain ⟨-, b2, b3⟩ := t4 a c
    have ek := kd_t T c
    rw [if_neg (by omega), jld_nI (by omega) (by omega), show (jsI (jsI (jsI (jsI S 41 19 (nI a)) 41 20 0) 41 21 0) 41 22 0).1 53 a = nI (T a) from b2, X12_isSmall b3, jcl_s, ite_b, X12_isFigure b3, jcl_s, ite_b, itv (show (59 : Int32) = nI 59 from rfl) (by omega) (by omega)]
    have h0 : txt (jsI (jsI (jsI (jsI S 41 19 (nI a)) 41 20 0) 41 21 0) 41 22 0) T tl := txt_ev hx l0.ev
    have f19 : (jsI (jsI (jsI (jsI S 41 19 (nI a)) 41 20 0) 41 21 0) 41 22 0).1 41 19 = nI a := rfl
    have f22 : (jsI (jsI (jsI (jsI S 41 19 (nI a)) 41 20 0) 41 21 0) 41 22 0).1 41 22 = 0 := rfl
    generalize jsI (jsI (jsI (jsI S 41 19 (nI a)) 41 20 0) 41 21 0) 41 22 0 = S0 at l0 h0 f19 f22
    obtain ⟨e1, e2, e3⟩ := tkE_in T s2
    have main : ∀ K, kd T tl a = K → (K = 1 ∨ K = 2 ∨ K = 3 ∨ K = 4) → ∃ S1, f_X12_lookAt_114 (nI K) S0 = some S1 ∧ Lk S S1 ∧ lkd S1 T tl a := by
      intro K hK hc
      have h1 : Lk S (jsI (jsI S0 41 21 (nI K)) 41 20 1) := l0.tr ((Lk.I S0 _ (by omega)).tr (Lk.I _ _ (by omega)))
      have hx1 : txt (jsI S0 41 21 (nI K)) T tl := txt_ev h0 (Lk.I S0 _ (by omega)).ev
      -- the length
      have len : f_X12_lookAt_114 (nI K) S0 = f_X12_lookAt_215 (jsI (jsI S0 41 21 (nI K)) 41 20 (nI (tkE T tl a - a))) := by
        unfold f_X12_lookAt_114 f_X12_lookAt_135
        rw [jpt_s, jpt_s, show (jsI (jsI S0 41 21 (nI K)) 41 20 1).1 41 21 = nI K from rfl, itl q3 (by omega) (by omega)]
        unfold lp_X12_lookAt_136
        by_cases k3 : K < 3
        · rw [if_pos k3]
          rcases (show K = 1 ∨ K = 2 by omega) with k | k
          · have key := X12_la_136 (k215 := f_X12_lookAt_215) hx1 (P := ltr) (Or.inl ⟨k, rfl⟩) f19 rfl (tl - (a + 1)) (a + 1) jN (by omega) (by omega) (jN_big (by omega))
            rw [show a + 1 - a = 1 by omega] at key
            refine Eq.trans key ?_
            rw [k] at hK
            have : tkE T tl a = fi (fun j => !ltr (T j)) (a + 1) (tl - (a + 1)) := by
              unfold tkE
              rw [hK, if_neg (by omega), if_pos rfl]
              exact fi_at _ c (by rw [(kd_1 hK).2]; rfl)
            rw [this]
          · have key := X12_la_136 (k215 := f_X12_lookAt_215) hx1 (P := fgr) (Or.inr ⟨k, rfl⟩) f19 rfl (tl - (a + 1)) (a + 1) jN (by omega) (by omega) (jN_big (by omega))
            rw [show a + 1 - a = 1 by omega] at key
            refine Eq.trans key ?_
            rw [k] at hK
            have : tkE T tl a = fi (fun j => !fgr (T j)) (a + 1) (tl - (a + 1)) := by
              unfold tkE
              rw [hK, if_neg (by omega), if_neg (by omega), if_pos rfl]
              exact fi_at _ c (by rw [(kd_2 hK).2]; rfl)
            rw [this]
        · rw [if_neg k3]
          have : tkE T tl a = a + 1 := by
            unfold tkE
            rw [hK, if_neg (by omega), if_neg (by omega), if_neg (by omega)]
          rw [this, show a + 1 - a = 1 by omega]
          rfl
      have hx2 : txt (jsI (jsI S0 41 21 (nI K)) 41 20 (nI (tkE T tl a - a))) T tl := txt_ev hx1 (Lk.I _ _ (by omega)).ev
      have l2 : Lk S (jsI (jsI S0 41 21 (nI K)) 41 20 (nI (tkE T tl a - a))) := l0.tr ((Lk.I S0 _ (by omega)).tr (Lk.I _ _ (by omega)))
      rw [len]
      unfold f_X12_lookAt_215
      by_cases k2 : K = 2
      · subst k2
        have efa : tkE T tl a = ef T tl a := by
          unfold tkE
          rw [hK, if_neg (by omega), if_neg (by omega), if_pos rfl]
        rw [X12_la_218 hx2 (a := a) (len := tkE T tl a - a) (by omega) (fun q hq => ef_fg T (tl := tl) (a := a) (by omega) (by omega)) f19 rfl rfl f22, X12_la_274 (K := 2) (len := tkE T tl a - a) (by omega) (by omega) rfl rfl]
        refine ⟨_, rfl, l2.tr ((Lk.I _ _ (by omega)).tr (Lk.I _ _ (by omega))), f19, rfl, ?_, fun q => ?_⟩
        · unfold kdM
          rw [hK]
          rfl
        · unfold kdM at q
          rw [hK] at q
          have c4 : ¬ 3 < tkE T tl a - a := fun w => by
            rw [if_pos ⟨rfl, w⟩] at q
            omega
          have e4 : (if tkE T tl a - a < 3 then tkE T tl a - a else 3) = tkE T tl a - a := by
            split <;> omega
          show nI (dec T a (if tkE T tl a - a < 3 then tkE T tl a - a else 3)) = _
          rw [e4]
      · have nx : lp_X12_lookAt_218 f_X12_lookAt_274 0 (jsI (jsI S0 41 21 (nI K)) 41 20 (nI (tkE T tl a - a))) = f_X12_lookAt_274 (jsI (jsI S0 41 21 (nI K)) 41 20 (nI (tkE T tl a - a))) := by
          unfold lp_X12_lookAt_218
          rw [show jN = (jN - 1) + 1 from rfl, jloop_1]
          generalize jloop (α := Int32 × jS) (fun g q => f_X12_lookAt_218 (fun x4 S => g (x4, S)) f_X12_lookAt_274 q.1 q.2) (jN - 1) = gg
          dsimp only
          unfold f_X12_lookAt_218
          rw [show (jsI (jsI S0 41 21 (nI K)) 41 20 (nI (tkE T tl a - a))).1 41 21 = nI K from rfl, itv q2 (by omega) (by omega), if_neg k2, ite_self, ite_self]
        rw [nx, X12_la_274 (K := K) (len := tkE T tl a - a) (by omega) (by omega) rfl rfl]
        refine ⟨_, rfl, l2.tr (Lk.I _ _ (by omega)), f19, rfl, ?_, fun q => ?_⟩
        · unfold kdM
          rw [hK]
          rfl
        · unfold kdM at q
          rw [hK, if_neg (fun w => k2 w.1)] at q
          exact absurd q k2
    cases cl : ltr (T a) with
    | true =>
      rw [cl, if_pos ptt] at ek
      rw [if_pos ptt]
      exact main 1 ek (by omega)
    | false =>
      rw [cl, if_neg nft] at ek
      rw [if_neg nft]
      cases cf : fgr (T a) with
      | true =>
        rw [cf, if_pos ptt] at ek
        rw [if_pos ptt]
        exact main 2 ek (by omega)
      | false =>
        rw [cf, if_neg nft] at ek
        rw [if_neg nft]
        by_cases c5 : T a = 59
        · rw [if_pos c5] at ek
          rw [if_pos c5]
          exact main 3 ek (by omega)
        · rw [if_neg c5] at ek
          rw [if_neg c5]
          exact main 4 ek (by omega)
  · have ea : a = tl := by omega
    have ek := kd_0 T c
    rw [if_pos ea]
    have et : tkE T tl a = a := by
      unfold tkE
      rw [ek, if_pos rfl]
    have em : kdM T tl a = 0 := by
      unfold kdM
      rw [ek, if_neg (by omega)]
    refine ⟨_, rfl, l0, rfl, ?_, ?_, fun q => by omega⟩
    · rw [et, Nat.sub_self]
      rfl
    · rw [em]
      rfl
