/-! ===== tryNext ===== -/
/-- the class's walk along the fits, which stops once it can't be less than L -/
def gp (r : Nat → Bool) (L : Nat) : Nat → Nat → Nat
  | 0, i => if cnt r i < i - cnt r i then i - cnt r i else cnt r i
  | f + 1, i => if cnt r i < L then (if i - cnt r i < L then gp r L f (i + 1) else (if cnt r i < i - cnt r i then i - cnt r i else cnt r i)) else (if cnt r i < i - cnt r i then i - cnt r i else cnt r i)
def mx (a b : Nat) : Nat := if a < b then b else a
theorem gp_s (r : Nat → Bool) (L f i : Nat) : gp r L (f + 1) i = if cnt r i < L then (if i - cnt r i < L then gp r L f (i + 1) else mx (cnt r i) (i - cnt r i)) else mx (cnt r i) (i - cnt r i) := rfl
theorem mx_ge (a b : Nat) : a ≤ mx a b ∧ b ≤ mx a b := by
  unfold mx
  split <;> omega
theorem cnt_co (r : Nat → Bool) {i j : Nat} (h : i ≤ j) : i - cnt r i ≤ j - cnt r j := by
  induction j with
  | zero =>
    have : i = 0 := by omega
    subst this
    omega
  | succ j ih =>
    rcases Nat.lt_or_ge i (j + 1) with hl | hl
    · have h1 := ih (by omega)
      have h2 : cnt r (j + 1) = cnt r j + (if r j = true then 1 else 0) := rfl
      have h3 := cnt_le r j
      split at h2 <;> omega
    · have : i = j + 1 := by omega
      subst this
      omega
theorem gp_is (r : Nat → Bool) (L m : Nat) : ∀ f i, i + f = m → (mx (cnt r m) (m - cnt r m) < L → gp r L f i = mx (cnt r m) (m - cnt r m)) ∧ (gp r L f i < L → mx (cnt r m) (m - cnt r m) < L)
  | 0, i, e => by
    have : i = m := by omega
    subst this
    exact ⟨fun _ => rfl, fun h => h⟩
  | f + 1, i, e => by
    have ih := gp_is r L m f (i + 1) (by omega)
    have h1 := cnt_mono r (show i ≤ m by omega)
    have h2 := cnt_co r (show i ≤ m by omega)
    have h3 := mx_ge (cnt r m) (m - cnt r m)
    have h4 := mx_ge (cnt r i) (i - cnt r i)
    rw [gp_s]
    by_cases c1 : cnt r i < L
    · rw [if_pos c1]
      by_cases c2 : i - cnt r i < L
      · rw [if_pos c2]
        exact ih
      · rw [if_neg c2]
        exact ⟨fun q => by omega, fun q => by omega⟩
    · rw [if_neg c1]
      exact ⟨fun q => by omega, fun q => by omega⟩
/-- the class's question about a number x -/
theorem X11_greaterPart {S : jS} {B T : Nat → Nat} {tl : Nat} (hR : RR S B T tl) {M : Nat} (hM : M ≤ 300) (F : Nat → Nat) (hF : ∀ i, i < M → S.1 39 i = nI (F i) ∧ 0 < F i ∧ F i ≤ 300) {x L : Nat} (hx0 : 0 < x) (hx : x ≤ 300) (hL : L ≤ 301) : f_X11_greaterPart (nI x) (nI M) (nI L) S = some (nI (gp (fun i => may (B 8) (B 9) x (F i)) L M 0), S) := by
  obtain ⟨h1, hv, hm, hc, h5⟩ := hR
  unfold f_X11_greaterPart f_X11_greaterPart_e lp_X11_greaterPart_9
  refine jloop_wf (fun a => ∃ i, i ≤ M ∧ a = (nI x, nI M, nI L, nI (cnt (fun i => may (B 8) (B 9) x (F i)) i), nI (i - cnt (fun i => may (B 8) (B 9) x (F i)) i), nI i, S)) (fun a => 300 - a.2.2.2.2.2.1.toNatClampNeg) (fun a => some (nI (gp (fun i => may (B 8) (B 9) x (F i)) L (M - a.2.2.2.2.2.1.toNatClampNeg) a.2.2.2.2.2.1.toNatClampNeg), S)) ?_ jN (nI x, nI M, nI L, 0, 0, 0, S) ⟨0, by omega, rfl⟩ (jN_big (by show 300 - (nI 0).toNatClampNeg < _; omega))
  rintro _ ⟨i, hi, rfl⟩ g hg
  have hl := cnt_le (fun i => may (B 8) (B 9) x (F i)) i
  dsimp only
  unfold f_X11_greaterPart_9 f_X11_greaterPart_71 f_X11_greaterPart_77
  rw [qcl (by omega), itlt (by omega) (by omega)]
  have ek : (if nI (cnt (fun i => may (B 8) (B 9) x (F i)) i) < nI (i - cnt (fun i => may (B 8) (B 9) x (F i)) i) then nI (i - cnt (fun i => may (B 8) (B 9) x (F i)) i) else nI (cnt (fun i => may (B 8) (B 9) x (F i)) i)) = nI (mx (cnt (fun i => may (B 8) (B 9) x (F i)) i) (i - cnt (fun i => may (B 8) (B 9) x (F i)) i)) := by
    rw [itlt (by omega) (by omega)]
    unfold mx
    split <;> rfl
  by_cases c : i < M
  · obtain ⟨f1, f2, f3⟩ := hF i c
    have em : mayE (B 8) (B 9) x (F i) = may (B 8) (B 9) x (F i) := by
      unfold mayE
      rw [decide_eq_false (by omega), decide_eq_false (by omega)]
      rfl
    rw [if_pos c, itl q300 (by omega) (by omega), if_pos (by omega), itlt (by omega) (by omega), itlt (by omega) (by omega), jld_nI (by omega) (by omega), f1, hc.2.1, X2_allows h1 hv.2.1 hv.2.2.1 hx f3, jcl_s, em, ite_b, show nI i + 1 = nI (i + 1) from qadd _ 1, show M - i = (M - (i + 1)) + 1 by omega, gp_s, ek]
    have e1 : cnt (fun i => may (B 8) (B 9) x (F i)) (i + 1) = cnt (fun i => may (B 8) (B 9) x (F i)) i + (if may (B 8) (B 9) x (F i) = true then 1 else 0) := rfl
    have st : g (nI x, nI M, nI L, nI (cnt (fun i => may (B 8) (B 9) x (F i)) (i + 1)), nI (i + 1 - cnt (fun i => may (B 8) (B 9) x (F i)) (i + 1)), nI (i + 1), S) = some (nI (gp (fun i => may (B 8) (B 9) x (F i)) L (M - (i + 1)) (i + 1)), S) := by
      rw [hg _ ⟨i + 1, by omega, rfl⟩ (by dsimp only; rw [qcl (by omega), qcl (by omega)]; omega)]
      dsimp only
      rw [qcl (by omega)]
    by_cases c1 : cnt (fun i => may (B 8) (B 9) x (F i)) i < L
    · rw [if_pos c1, if_pos c1]
      by_cases c2 : i - cnt (fun i => may (B 8) (B 9) x (F i)) i < L
      · rw [if_pos c2, if_pos c2, ← st, e1]
        by_cases c3 : may (B 8) (B 9) x (F i) = true
        · rw [if_pos c3, if_pos c3, show nI (cnt (fun i => may (B 8) (B 9) x (F i)) i) + 1 = nI (cnt (fun i => may (B 8) (B 9) x (F i)) i + 1) from qadd _ 1, show i + 1 - (cnt (fun i => may (B 8) (B 9) x (F i)) i + 1) = i - cnt (fun i => may (B 8) (B 9) x (F i)) i by omega]
        · rw [if_neg c3, if_neg c3, show nI (i - cnt (fun i => may (B 8) (B 9) x (F i)) i) + 1 = nI (i - cnt (fun i => may (B 8) (B 9) x (F i)) i + 1) from qadd _ 1, show i + 1 - (cnt (fun i => may (B 8) (B 9) x (F i)) i + 0) = i - cnt (fun i => may (B 8) (B 9) x (F i)) i + 1 by omega]
          rfl
      · rw [if_neg c2, if_neg c2]
    · rw [if_neg c1, if_neg c1]
  · rw [if_neg c, ek, show M - i = 0 by omega]
    rfl
/-- the model's question about a number x -/
theorem X12_greaterPart {S : jS} {B T : Nat → Nat} {tl : Nat} (hR : RR S B T tl) {M : Nat} (hM : M = cnt (cb B) 300) (h15 : S.1 41 15 = nI M) (h52 : ∀ t, t < 300 → S.1 52 (t + 1) = bI (cb B t)) {x : Nat} (hx0 : 0 < x) (hx : x ≤ 300) : f_X12_greaterPart (nI x) S = some (nI (mx (cnt (gq B x) 300) (M - cnt (gq B x) 300)), S) := by
  obtain ⟨h1, hv, hm, hc, h5⟩ := hR
  have e : f_X12_greaterPart (nI x) S = f_X12_greaterPart_43 (nI (cnt (gq B x) 300)) S := by
    unfold f_X12_greaterPart f_X12_greaterPart_e lp_X12_greaterPart_4
    refine jloop_u (fun i => (nI x, nI (cnt (gq B x) i), nI (i + 1), S)) 300 rfl (by omega) (fun i hi g => ?_) (fun g => ?_)
    · dsimp only
      unfold f_X12_greaterPart_4 f_X12_greaterPart_34 f_X12_greaterPart_35
      rw [itg q300 (by omega) (by omega), if_neg (by omega), jld_nI (by omega) (by omega), h52 i hi, ite_b, X12_mayNow' h1 hv hm (by omega) (by omega) hx0 hx, jcl_s, ite_b, show nI (i + 1) + 1 = nI (i + 1 + 1) from qadd _ 1, show nI (cnt (gq B x) i) + 1 = nI (cnt (gq B x) i + 1) from qadd _ 1, show nI (cnt (gq B x) i) + 0 = nI (cnt (gq B x) i + 0) from qadd _ 0, may_comm]
      show _ = g (nI x, nI (cnt (gq B x) i + (if (cb B i && may (B 8) (B 9) x (i + 1)) = true then 1 else 0)), nI (i + 1 + 1), S)
      cases cb B i
      · rfl
      · cases may (B 8) (B 9) x (i + 1) <;> rfl
    · dsimp only
      unfold f_X12_greaterPart_4
      rw [if_pos (by decide)]
  have hl := cnt_le (cb B) 300
  have hl2 := cnt_le (gq B x) 300
  have hle : cnt (gq B x) 300 ≤ M := by
    rw [hM]
    have key : ∀ n, cnt (gq B x) n ≤ cnt (cb B) n := by
      intro n
      induction n with
      | zero => exact Nat.le_refl _
      | succ n ih =>
        show cnt (gq B x) n + (if (cb B n && may (B 8) (B 9) x (n + 1)) = true then 1 else 0) ≤ cnt (cb B) n + (if cb B n = true then 1 else 0)
        cases cb B n
        · simpa using ih
        · rw [if_pos rfl]
          split <;> omega
    exact key 300
  rw [e]
  unfold f_X12_greaterPart_43 f_X12_greaterPart_63
  rw [h15, q2, qmul, itlt (by omega) (by omega), qsub hle]
  unfold mx
  by_cases c : M < 2 * cnt (gq B x) 300
  · rw [if_pos c, if_neg (by omega)]
  · rw [if_neg c]
    by_cases c2 : cnt (gq B x) 300 < M - cnt (gq B x) 300
    · rw [if_pos c2]
    · rw [if_neg c2, show M - cnt (gq B x) 300 = cnt (gq B x) 300 by omega]
/-- the best of the first i numbers, and what it leaves -/
def tn (w : Nat → Nat) (s : Nat) : Nat → Int32 × Nat
  | 0 => (-1, s)
  | i + 1 => if w (i + 1) < (tn w s i).2 then (nI (i + 1), w (i + 1)) else tn w s i
theorem tn_eq (w : Nat → Nat) {s s' : Nat} (h1 : w 1 < s) (h2 : w 1 < s') : ∀ i, tn w s (i + 1) = tn w s' (i + 1)
  | 0 => by
    show (if w 1 < s then _ else _) = (if w 1 < s' then _ else _)
    rw [if_pos h1, if_pos h2]
  | i + 1 => by
    show (if w (i + 1 + 1) < (tn w s (i + 1)).2 then _ else tn w s (i + 1)) = (if w (i + 1 + 1) < (tn w s' (i + 1)).2 then _ else tn w s' (i + 1))
    rw [tn_eq w h1 h2 i]
theorem tn_le (w : Nat → Nat) (s : Nat) : ∀ i, (tn w s i).2 ≤ s
  | 0 => Nat.le_refl _
  | i + 1 => by
    have := tn_le w s i
    show (if w (i + 1) < (tn w s i).2 then (nI (i + 1), w (i + 1)) else tn w s i).2 ≤ s
    split
    · show w (i + 1) ≤ s
      omega
    · exact this
theorem op_tryNext {S : jS} (h : GG S) : O2 (f_X11_tryNext S) f_X12_tryNext := by
  obtain ⟨B, T, tl, hR⟩ := id h
  obtain ⟨S1, e1, ev1, hf, h0⟩ := X11_gatherFits hR
  have hR1 := RR_ev hR ev1
  obtain ⟨S2, e2, ev2, h15, h16, h52⟩ := X12_layCan hR1
  have hR2 := RR_ev hR1 ev2
  have hl := cnt_le (cb B) 300
  by_cases h00 : cnt (cb B) 300 = 0
  · refine O2_ev h (-1) ⟨S1, ?_, ev1, S2, ?_, ev2⟩
    · unfold f_X11_tryNext f_X11_tryNext_e
      rw [e1, jcl_s, h00]
      rfl
    · unfold f_X12_tryNext f_X12_tryNext_e
      rw [e2, jcv_s]
      rw [h00] at h15
      unfold lp_X12_tryNext_11
      refine jloop_u (fun _ => (-1, 1000000, 1, S2)) 0 rfl (by omega) (fun i hi => absurd hi (Nat.not_lt_zero i)) (fun g => ?_)
      dsimp only
      unfold f_X12_tryNext_11 f_X12_tryNext_63
      rw [if_neg (by decide), h15, if_neg (by decide)]
  · have wl : ∀ x, mx (cnt (gq B x) 300) (cnt (cb B) 300 - cnt (gq B x) 300) ≤ 300 := by
      intro x
      have := cnt_le (gq B x) 300
      unfold mx
      split <;> omega
    refine O2_ev h (tn (fun x => mx (cnt (gq B x) 300) (cnt (cb B) 300 - cnt (gq B x) 300)) 301 300).1 ⟨S1, ?_, ev1, S2, ?_, ev2⟩
    · unfold f_X11_tryNext f_X11_tryNext_e
      rw [e1, jcl_s]
      unfold lp_X11_tryNext_14
      refine jloop_u (fun i => (nI (cnt (cb B) 300), (tn (fun x => mx (cnt (gq B x) 300) (cnt (cb B) 300 - cnt (gq B x) 300)) 301 i).1, nI (tn (fun x => mx (cnt (gq B x) 300) (cnt (cb B) 300 - cnt (gq B x) 300)) 301 i).2, nI (i + 1), S1)) 300 rfl (by omega) (fun i hi g => ?_) (fun g => ?_)
      · have tl := tn_le (fun x => mx (cnt (gq B x) 300) (cnt (cb B) 300 - cnt (gq B x) 300)) 301 i
        have w1 := wl (i + 1)
        have hF : ∀ m, m < cnt (cb B) 300 → ∃ t, t < 300 ∧ cb B t = true ∧ cnt (cb B) t = m := by
          have key : ∀ n m, m < cnt (cb B) n → ∃ t, t < n ∧ cb B t = true ∧ cnt (cb B) t = m := by
            intro n
            induction n with
            | zero => intro m hm; exact absurd hm (Nat.not_lt_zero m)
            | succ n ih =>
              intro m hm
              have ec : cnt (cb B) (n + 1) = cnt (cb B) n + (if cb B n = true then 1 else 0) := rfl
              rcases Nat.lt_or_ge m (cnt (cb B) n) with hl | hl
              · obtain ⟨t, t1, t2, t3⟩ := ih m hl
                exact ⟨t, by omega, t2, t3⟩
              · by_cases c : cb B n = true
                · rw [if_pos c] at ec
                  exact ⟨n, by omega, c, by omega⟩
                · rw [if_neg c] at ec
                  omega
          exact key 300
        have hF2 : ∀ m, m < cnt (cb B) 300 → S1.1 39 m = nI (S1.1 39 m).toNatClampNeg ∧ 0 < (S1.1 39 m).toNatClampNeg ∧ (S1.1 39 m).toNatClampNeg ≤ 300 := by
          intro m hm
          obtain ⟨t, t1, t2, t3⟩ := hF m hm
          have := hf t t1 t2
          rw [t3] at this
          rw [this, qcl (by omega)]
          exact ⟨rfl, by omega, by omega⟩
        have hg := X11_greaterPart hR1 hl (fun m => (S1.1 39 m).toNatClampNeg) hF2 (show 0 < i + 1 by omega) (show i + 1 ≤ 300 by omega) tl
        have hcf := cnt_fit (cb B) (fun y => may (B 8) (B 9) (i + 1) y) (fun m => (S1.1 39 m).toNatClampNeg) (fun t ht hp => by
          show (S1.1 39 (cnt (cb B) t)).toNatClampNeg = t + 1
          rw [hf t ht hp, qcl (by omega)]) 300 (by omega)
        have hcf : cnt (fun m => may (B 8) (B 9) (i + 1) (S1.1 39 m).toNatClampNeg) (cnt (cb B) 300) = cnt (gq B (i + 1)) 300 := hcf
        have hgp := gp_is (fun m => may (B 8) (B 9) (i + 1) (S1.1 39 m).toNatClampNeg) (tn (fun x => mx (cnt (gq B x) 300) (cnt (cb B) 300 - cnt (gq B x) 300)) 301 i).2 (cnt (cb B) 300) (cnt (cb B) 300) 0 (by omega)
        rw [hcf] at hgp
        have gle : gp (fun m => may (B 8) (B 9) (i + 1) (S1.1 39 m).toNatClampNeg) (tn (fun x => mx (cnt (gq B x) 300) (cnt (cb B) 300 - cnt (gq B x) 300)) 301 i).2 (cnt (cb B) 300) 0 < 2147483648 := by
          have key : ∀ (r : Nat → Bool) (L f i : Nat), gp r L f i ≤ i + f := by
            intro r L f
            induction f with
            | zero =>
              intro i
              have := cnt_le r i
              show (if _ then _ else _) ≤ i
              split <;> omega
            | succ f ih =>
              intro i
              have h1 := cnt_le r i
              have h2 := ih (i + 1)
              rw [gp_s]
              unfold mx
              repeat' split
              all_goals omega
          have := key (fun m => may (B 8) (B 9) (i + 1) (S1.1 39 m).toNatClampNeg) (tn (fun x => mx (cnt (gq B x) 300) (cnt (cb B) 300 - cnt (gq B x) 300)) 301 i).2 (cnt (cb B) 300) 0
          omega
        dsimp only
        unfold f_X11_tryNext_14 f_X11_tryNext_48
        rw [itg q300 (by omega) (by omega), if_neg (by omega), itg q0 (by omega) (by omega), if_pos (by omega), hg, jcl_s, itlt gle (by omega), show nI (i + 1) + 1 = nI (i + 1 + 1) from qadd _ 1]
        have et : tn (fun x => mx (cnt (gq B x) 300) (cnt (cb B) 300 - cnt (gq B x) 300)) 301 (i + 1) = if mx (cnt (gq B (i + 1)) 300) (cnt (cb B) 300 - cnt (gq B (i + 1)) 300) < (tn (fun x => mx (cnt (gq B x) 300) (cnt (cb B) 300 - cnt (gq B x) 300)) 301 i).2 then (nI (i + 1), mx (cnt (gq B (i + 1)) 300) (cnt (cb B) 300 - cnt (gq B (i + 1)) 300)) else tn (fun x => mx (cnt (gq B x) 300) (cnt (cb B) 300 - cnt (gq B x) 300)) 301 i := rfl
        rw [et]
        by_cases c : mx (cnt (gq B (i + 1)) 300) (cnt (cb B) 300 - cnt (gq B (i + 1)) 300) < (tn (fun x => mx (cnt (gq B x) 300) (cnt (cb B) 300 - cnt (gq B x) 300)) 301 i).2
        · rw [if_pos c, hgp.1 c, if_pos c]
        · rw [if_neg c, if_neg (fun q => c (hgp.2 q))]
      · dsimp only
        unfold f_X11_tryNext_14 f_X11_tryNext_54
        rw [if_pos (by decide)]
    · unfold f_X12_tryNext f_X12_tryNext_e
      rw [e2, jcv_s]
      have eq : tn (fun x => mx (cnt (gq B x) 300) (cnt (cb B) 300 - cnt (gq B x) 300)) 301 300 = tn (fun x => mx (cnt (gq B x) 300) (cnt (cb B) 300 - cnt (gq B x) 300)) 1000000 300 := tn_eq _ (by have := wl 1; omega) (by have := wl 1; omega) 299
      rw [eq]
      unfold lp_X12_tryNext_11
      refine jloop_u (fun i => ((tn (fun x => mx (cnt (gq B x) 300) (cnt (cb B) 300 - cnt (gq B x) 300)) 1000000 i).1, nI (tn (fun x => mx (cnt (gq B x) 300) (cnt (cb B) 300 - cnt (gq B x) 300)) 1000000 i).2, nI (i + 1), S2)) 300 rfl (by omega) (fun i hi g => ?_) (fun g => ?_)
      · have tl := tn_le (fun x => mx (cnt (gq B x) 300) (cnt (cb B) 300 - cnt (gq B x) 300)) 1000000 i
        have w1 := wl (i + 1)
        have hg := X12_greaterPart hR2 rfl h15 h52 (show 0 < i + 1 by omega) (show i + 1 ≤ 300 by omega)
        dsimp only
        unfold f_X12_tryNext_11 f_X12_tryNext_43 f_X12_tryNext_56
        rw [itg q300 (by omega) (by omega), if_neg (by omega), h15, itg q0 (by omega) (by omega), if_pos (by omega), hg, jcl_s, show nI (i + 1) + 1 = nI (i + 1 + 1) from qadd _ 1]
        simp (disch := omega) only [itlt]
        have et : tn (fun x => mx (cnt (gq B x) 300) (cnt (cb B) 300 - cnt (gq B x) 300)) 1000000 (i + 1) = if mx (cnt (gq B (i + 1)) 300) (cnt (cb B) 300 - cnt (gq B (i + 1)) 300) < (tn (fun x => mx (cnt (gq B x) 300) (cnt (cb B) 300 - cnt (gq B x) 300)) 1000000 i).2 then (nI (i + 1), mx (cnt (gq B (i + 1)) 300) (cnt (cb B) 300 - cnt (gq B (i + 1)) 300)) else tn (fun x => mx (cnt (gq B x) 300) (cnt (cb B) 300 - cnt (gq B x) 300)) 1000000 i := rfl
        rw [et]
        by_cases c : mx (cnt (gq B (i + 1)) 300) (cnt (cb B) 300 - cnt (gq B (i + 1)) 300) < (tn (fun x => mx (cnt (gq B x) 300) (cnt (cb B) 300 - cnt (gq B x) 300)) 1000000 i).2
        · simp only [if_pos c]
        · simp only [if_neg c]
      · dsimp only
        unfold f_X12_tryNext_11 f_X12_tryNext_63
        rw [if_pos (by decide)]
