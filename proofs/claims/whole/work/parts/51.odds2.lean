/-! ===== odds: the model ===== -/
def wv (R : Nat → Nat) (o h : Nat) (c : Bool) : Nat := if R h = 0 then 1 else (if c = true then o else 10 - o)
def wp (R : Nat → Nat) (o : Nat) : Nat → Nat → Nat
  | 0, _ => 1
  | h + 1, s => wp R o h s * wv R o h (s.testBit h)
theorem pP_z (R : Nat → Nat) (k n o s t : Nat) (h0 : pP R k n o t s = 0) : ∀ d, pP R k n o (t + d) s = 0
  | 0 => h0
  | d + 1 => by
    show pP R k n o (t + d) s * _ = 0
    rw [pP_z R k n o s t h0 d, Nat.zero_mul]
theorem pP_a (R : Nat → Nat) (k n o s : Nat) : ∀ h, (∀ t, t < h → s.testBit t = true → 0 < R t) → (∀ t, t + 1 < h → mayE k n (vl R t (s.testBit t)) (vl R (t + 1) (s.testBit (t + 1))) = true) → pP R k n o h s = wp R o h s
  | 0, _, _ => rfl
  | h + 1, h1, h2 => by
    have ih := pP_a R k n o s h (fun t ht => h1 t (by omega)) (fun t ht => h2 t (by omega))
    show pP R k n o h s * (ww R o h (s.testBit h) * okk k n (pv R h (lb h s)) (vl R h (s.testBit h))) = wp R o h s * wv R o h (s.testBit h)
    have e1 : ww R o h (s.testBit h) = wv R o h (s.testBit h) := by
      unfold ww wv
      by_cases c : R h = 0
      · rw [if_pos c, if_pos c]
        cases e : s.testBit h with
        | false => rfl
        | true => have := h1 h (by omega) e; omega
      · rw [if_neg c, if_neg c]
    have e2 : okk k n (pv R h (lb h s)) (vl R h (s.testBit h)) = 1 := by
      unfold okk
      cases h with
      | zero => rfl
      | succ h => exact if_pos (h2 h (by omega))
    rw [ih, e1, e2, Nat.mul_one]
theorem pP_b1 (R : Nat → Nat) (k n o s : Nat) {t : Nat} (ht : t < 8) (h1 : s.testBit t = true) (h2 : R t = 0) : pP R k n o 8 s = 0 := by
  have z : pP R k n o (t + 1) s = 0 := by
    show pP R k n o t s * (ww R o t (s.testBit t) * _) = 0
    rw [h1, show ww R o t true = 0 by unfold ww; rw [if_pos h2]; rfl, Nat.zero_mul, Nat.mul_zero]
  have := pP_z R k n o s (t + 1) z (7 - t)
  rw [show t + 1 + (7 - t) = 8 by omega] at this
  exact this
theorem pP_b2 (R : Nat → Nat) (k n o s : Nat) {t : Nat} (ht : t < 7) (h1 : mayE k n (vl R t (s.testBit t)) (vl R (t + 1) (s.testBit (t + 1))) = false) : pP R k n o 8 s = 0 := by
  have z : pP R k n o (t + 2) s = 0 := by
    show pP R k n o (t + 1) s * (ww R o (t + 1) (s.testBit (t + 1)) * okk k n (vl R t (s.testBit t)) (vl R (t + 1) (s.testBit (t + 1)))) = 0
    rw [show okk k n (vl R t (s.testBit t)) (vl R (t + 1) (s.testBit (t + 1))) = 0 by unfold okk; rw [h1]; rfl, Nat.mul_zero, Nat.mul_zero]
  have := pP_z R k n o s (t + 2) z (6 - t)
  rw [show t + 2 + (6 - t) = 8 by omega] at this
  exact this
theorem sub_iff (p : Nat → Bool) {s : Nat} (hs : s < 256) : dif s (msk p 8) = 0 ↔ ∀ t, t < 8 → s.testBit t = true → p t = true := by
  constructor
  · intro e t ht hb
    have b : (dif s (msk p 8)).testBit t = false := by rw [e]; exact Nat.zero_testBit t
    rw [dif_bit, msk_bit, decide_eq_true ht, hb] at b
    simpa using b
  · intro e
    apply Nat.eq_of_testBit_eq
    intro i
    rw [Nat.zero_testBit, dif_bit, msk_bit]
    by_cases hi : i < 8
    · rw [decide_eq_true hi]
      cases hb : s.testBit i with
      | false => rfl
      | true => rw [e i hi hb]; rfl
    · have : s.testBit i = false := Nat.testBit_lt_two_pow (Nat.lt_of_lt_of_le hs (by
        have : 2 ^ 8 ≤ 2 ^ i := Nat.pow_le_pow_right (by omega) (by omega)
        exact this))
      rw [this]; rfl
theorem dif_lt {a b : Nat} (ha : a < 256) : dif a b < 2147483648 := by
  have : dif a b < 2 ^ 31 := by
    unfold dif
    exact Nat.xor_lt_two_pow (by omega) (Nat.lt_of_le_of_lt (Nat.and_le_left) (by omega))
  omega
/-- one set's part of the sum -/
theorem pP_term (R : Nat → Nat) (k n o : Nat) {s : Nat} (hs : s < 256) : pP R k n o 8 s = if dif s (lvm R) = 0 then (if cnt (qr k n (fun h => vl R h (s.testBit h))) 7 = 0 then wp R o 8 s else 0) else 0 := by
  unfold lvm
  by_cases c : dif s (msk (lvp R) 8) = 0
  · rw [if_pos c]
    have h1 : ∀ t, t < 8 → s.testBit t = true → 0 < R t := fun t ht hb => by
      have := (sub_iff (lvp R) hs).1 c t ht hb
      unfold lvp at this
      rw [decide_eq_true_eq] at this
      exact this
    by_cases c2 : cnt (qr k n (fun h => vl R h (s.testBit h))) 7 = 0
    · rw [if_pos c2]
      rw [cnt_0] at c2
      exact pP_a R k n o s 8 h1 (fun t ht => by
        have := c2 t (by omega)
        unfold qr at this
        simpa using this)
    · rw [if_neg c2]
      have : ∃ t, t < 7 ∧ qr k n (fun h => vl R h (s.testBit h)) t = true := by
        apply Classical.byContradiction
        intro q
        apply c2
        rw [cnt_0]
        intro t ht
        cases e : qr k n (fun h => vl R h (s.testBit h)) t with
        | false => rfl
        | true => exact absurd ⟨t, ht, e⟩ q
      obtain ⟨t, ht, e⟩ := this
      refine pP_b2 R k n o s ht ?_
      unfold qr at e
      simpa using e
  · rw [if_neg c]
    have : ∃ t, t < 8 ∧ s.testBit t = true ∧ R t = 0 := by
      apply Classical.byContradiction
      intro q
      apply c
      rw [sub_iff _ hs]
      intro t ht hb
      unfold lvp
      rw [decide_eq_true_eq]
      rcases Nat.eq_zero_or_pos (R t) with w | w
      · exact absurd ⟨t, ht, hb, w⟩ q
      · exact w
    obtain ⟨t, ht, e1, e2⟩ := this
    exact pP_b1 R k n o s ht e1 e2
theorem X12_odds_81 {k190 : Int32 → Int32 → Int64 → Int64 → Int32 → Int64 → jS → Option (Int32 × jS)} (y : Int32) (u w : Int64) {o s : Nat} (ho : o ≤ 10) (hs : s < 256) {S : jS} {R : Nat → Nat} (hR : rw8 R) (hm : ∀ j, j < 8 → S.1 42 j = nI (R j)) (hsub : dif s (lvm R) = 0) : lp_X12_odds_81 k190 (nI o) y u w (nI s) 1 0 S = k190 (nI o) y u w (nI s) (lN (wp R o 8 s)) (jsR S 47 (hnd (fun h => vl R h (s.testBit h)) (S.1 47) 8)) := by
  unfold lp_X12_odds_81
  refine jloop_u (fun i => (nI o, y, u, w, nI s, lN (wp R o i s), nI i, jsR S 47 (hnd (fun h => vl R h (s.testBit h)) (S.1 47) i))) 8 (by rw [hnd_0, jsR_self]; rfl) (by omega) (fun i hi g => ?_) (fun g => ?_)
  · have hx := hR i hi
    dsimp only
    unfold f_X12_odds_81 f_X12_odds_104 f_X12_odds_137 f_X12_odds_176 f_X12_odds_183
    have e42 : (jsR S 47 (hnd (fun h => vl R h (s.testBit h)) (S.1 47) i)).1 42 i = nI (R i) := hm i hi
    have ew : wp R o (i + 1) s = wp R o i s * wv R o i (s.testBit i) := rfl
    rw [itl q8 (by omega) (by omega), if_pos hi, bit_nI s (by omega) i (by omega), ew]
    simp (disch := omega) only [if_true, jld_nI, e42, jst_nI, jsI_R, itv q0, itl q300, show nI i + 1 = nI (i + 1) from qadd _ 1, show nI (R i) + 1 = nI (R i + 1) from qadd _ 1, show (10 : Int32) - nI o = nI (10 - o) from qsub ho, nI_l (show 10 - o < 2 ^ 31 by omega), nI_l (show o < 2 ^ 31 by omega)]
    have es := hnd_s (fun h => vl R h (s.testBit h)) (S.1 47) i
    rw [← es]
    have el : (1 : Int64) = lN 1 := rfl
    cases hb : s.testBit i with
    | false =>
      rw [if_neg (show ¬ bI false = 1 by decide), show vl R i false = R i from rfl]
      unfold wv
      by_cases c : R i = 0
      · rw [if_pos c, if_pos c, el, lN_mul]
      · rw [if_neg c, if_neg c, lN_mul]
        rfl
    | true =>
      have hp : 0 < R i := by
        have := (sub_iff (lvp R) hs).1 hsub i hi hb
        unfold lvp at this
        rw [decide_eq_true_eq] at this
        exact this
      rw [if_pos (show bI true = 1 by decide), if_neg (show ¬ R i = 0 by omega), if_neg (show ¬ (1 : Int32) = 0 by decide), if_neg (show ¬ (1 : Int32) = 0 by decide), show vl R i true = grw (R i) from rfl]
      unfold wv grw
      rw [if_neg (show ¬ R i = 0 by omega), if_pos rfl, if_neg (show ¬ R i = 0 by omega), lN_mul]
      by_cases c2 : R i < 300
      · rw [if_pos c2, if_pos c2]
      · rw [if_neg c2, if_neg c2]
  · dsimp only
    unfold f_X12_odds_81
    rw [if_neg (by decide)]
theorem X12_fraction_6 {k31 : Int64 → Int64 → Int64 → jS → Option jS} (u w : Int64) {c d : Nat} (hc : c < 2147483648) (hd : d < 1000000000) (S : jS) : lp_X12_fraction_6 k31 u w (lN c) (lN d) S = k31 u w (lN (Nat.gcd c d)) S := by
  unfold lp_X12_fraction_6
  refine jloop_wf (fun q => ∃ a b, a < 2147483648 ∧ b < 2147483648 ∧ Nat.gcd a b = Nat.gcd c d ∧ q = (u, w, lN a, lN b, S)) (fun q => q.2.2.2.1.toInt.toNat) (fun _ => k31 u w (lN (Nat.gcd c d)) S) ?_ jN (u, w, lN c, lN d, S) ⟨c, d, hc, by omega, rfl, rfl⟩ (by show (lN d).toInt.toNat < 1000000000; rw [lN_toInt (by omega)]; omega)
  rintro _ ⟨a, b, ha, hb, hg0, rfl⟩ g hg
  dsimp only
  unfold f_X12_fraction_6
  rw [itz (by omega)]
  by_cases e : b = 0
  · subst e
    rw [Nat.gcd_zero_right] at hg0
    rw [if_pos rfl, hg0]
  · have hr := Nat.mod_lt a (show b > 0 by omega)
    rw [if_neg e, jrl_N (by omega) (by omega) (by omega)]
    have gr : Nat.gcd b (a % b) = Nat.gcd c d := by
      rw [← hg0, Nat.gcd_comm b, ← Nat.gcd_rec, Nat.gcd_comm]
    exact hg _ ⟨b, a % b, hb, by omega, gr, rfl⟩ (by dsimp only; rw [lN_toInt (by omega), lN_toInt (by omega)]; omega)
theorem RR_L {S S' : jS} {B T : Nat → Nat} {tl : Nat} (h : RR S B T tl) (e : S'.1 = S.1) (hf : frc S') : RR S' B T tl := by
  obtain ⟨h1, h2, h3, h4, h5, h6, h7, h8, h9⟩ := h
  refine ⟨tabs_c h1 (by rw [e]) (by rw [e]) (by rw [e]), h2, by rw [e]; exact h3, cB_c h4 (by rw [e]) (by rw [e]) (by rw [e]) (by rw [e]) (by rw [e]), im_c h5 (by rw [e]) (by rw [e]) (by rw [e]) (by rw [e]) (by rw [e]) (by rw [e]) (by rw [e]) (by rw [e]), im_c h6 (by rw [e]) (by rw [e]) (by rw [e]) (by rw [e]) (by rw [e]) (by rw [e]) (by rw [e]) (by rw [e]), ?_, hf, txt_c h9 (by rw [e]) (by rw [e]) (by rw [e]) (by rw [e])⟩
  unfold stt
  rw [e]
  exact h7
theorem op_odds (x : Int32) {S : jS} (h : GG S) : O2 (f_X11_odds x S) (f_X12_odds x) := by
  obtain ⟨B, T, tl, hR⟩ := id h
  cases hx : okr x 0 10 with
  | false =>
    refine O2_bad h (-2) ?_ ?_
    · unfold f_X11_odds f_X11_odds_e f_X11_odds_10
      rw [q10, rng0 x 10 (by omega), hx, if_neg (by decide), X11_refuseBad, jcl_s]
    · unfold f_X12_odds f_X12_odds_e
      rw [show f_X12_in x.toInt64 0 10 _ = some (bI (okr x 0 10), _) from X12_inN x 0 10 (by omega) (by omega) _, jcl_s, hx, ite_b, if_neg (by decide), X12_bad, jcl_s]
      rfl
  | true =>
    obtain ⟨o, -, ho, rfl⟩ := okr_of hx (by omega)
    obtain ⟨h1, hv, hm, hc, h5⟩ := id hR
    have lc : lvc B ≤ 8 := cnt_le (lvp B) 8
    have A1 : 10 ^ lvc B ≤ 10 ^ 8 := Nat.pow_le_pow_right (by omega) lc
    have A0 : 0 < 10 ^ lvc B := Nat.pow_pos (by omega)
    have e8 : (10 : Nat) ^ 8 = 100000000 := by decide
    have P1 := cC_le B (B 8) (B 9) ho 8
    have Ps := cC_sum B (B 8) (B 9) o 8
    have Ps : cC B (B 8) (B 9) o 8 false + cC B (B 8) (B 9) o 8 true = sm (fun s => pP B (B 8) (B 9) o 8 s) 256 := Ps
    have g0 : 0 < Nat.gcd (10 ^ lvc B) (cC B (B 8) (B 9) o 8 false + cC B (B 8) (B 9) o 8 true) := Nat.gcd_pos_of_pos_left _ A0
    have g1 : Nat.gcd (10 ^ lvc B) (cC B (B 8) (B 9) o 8 false + cC B (B 8) (B 9) o 8 true) ≤ 10 ^ lvc B := Nat.gcd_le_left _ A0
    have e11 : f_X11_odds (nI o) S = some (1, jsL (jsL S 0 11 (lN ((cC B (B 8) (B 9) o 8 false + cC B (B 8) (B 9) o 8 true) / Nat.gcd (10 ^ lvc B) (cC B (B 8) (B 9) o 8 false + cC B (B 8) (B 9) o 8 true)))) 0 12 (lN (10 ^ lvc B / Nat.gcd (10 ^ lvc B) (cC B (B 8) (B 9) o 8 false + cC B (B 8) (B 9) o 8 true)))) := by
      unfold f_X11_odds f_X11_odds_e
      rw [q10, rng0 _ 10 (by omega), hx, if_pos rfl, hc.2.1, X2_tenths h1 hv.2.1 hv.2.2.1 hv.1 hc.1 ho, jcl_s, X10_living hv hc.1, jcl_s]
      have lp : lp_X11_odds_50 f_X11_odds_69 (lN (cC B (B 8) (B 9) o 8 false + cC B (B 8) (B 9) o 8 true)) 1 (nI (lvc B)) S = f_X11_odds_69 (lN (cC B (B 8) (B 9) o 8 false + cC B (B 8) (B 9) o 8 true)) (lN (10 ^ lvc B)) S := by
        unfold lp_X11_odds_50
        refine jloop_u (fun t => (lN (cC B (B 8) (B 9) o 8 false + cC B (B 8) (B 9) o 8 true), lN (10 ^ t), nI (lvc B - t), S)) (lvc B) rfl (by omega) (fun t ht g => ?_) (fun g => ?_)
        · dsimp only
          unfold f_X11_odds_50
          have e1 : nI (lvc B - t) + (-1) = nI (lvc B - (t + 1)) := by
            have : nI (lvc B - t) = nI (lvc B - (t + 1)) + 1 := by
              rw [q1, qadd]
              congr 1
              omega
            rw [this, Int32.add_assoc]
            show nI (lvc B - (t + 1)) + 0 = _
            rw [Int32.add_zero]
          rw [itg q0 (by omega) (by omega), if_pos (by omega), e1, show (10 : Int64) = lN 10 from rfl, lN_mul, Nat.pow_succ]
        · dsimp only
          unfold f_X11_odds_50
          rw [Nat.sub_self, if_neg (by decide)]
      rw [lp]
      unfold f_X11_odds_69 f_X11_odds_101
      rw [X11_commonDivisor (by omega) (by omega), jcl_s, if_pos (by rw [lgp, lN_toInt (by omega), show (0 : Int64).toInt = 0 from rfl]; omega), jdl_N (by omega) g0 (by omega), jpl_s, jdl_N (by omega) g0 (by omega), jpl_s]
    generalize hPP : cC B (B 8) (B 9) o 8 false + cC B (B 8) (B 9) o 8 true = PP at *
    generalize hAA : 10 ^ lvc B = AA at *
    generalize hS1 : jsL (jsL S 0 11 (lN (PP / Nat.gcd AA PP))) 0 12 (lN (AA / Nat.gcd AA PP)) = S1 at *
    have s1 : S1.1 = S.1 := by rw [← hS1]; rfl
    have s2 : S1.2 0 11 = lN (PP / Nat.gcd AA PP) ∧ S1.2 0 12 = lN (AA / Nat.gcd AA PP) := by
      rw [← hS1]
      exact ⟨rfl, rfl⟩
    have h1' : tabs S1 := tabs_c h1 (by rw [s1]) (by rw [s1]) (by rw [s1])
    have hm1 : mB (S1.1 42) B := by rw [s1]; exact hm
    have hL := lvm_lt B
    have e12 : ∃ S2, f_X12_odds (nI o) S1 = f_X12_odds_212 (lN PP) (lN AA) S2 ∧ Ev S1 S2 := by
      unfold f_X12_odds f_X12_odds_e
      rw [show f_X12_in (nI o).toInt64 0 10 _ = some (bI (okr (nI o) 0 10), _) from X12_inN (nI o) 0 10 (by omega) (by omega) _, jcl_s, hx, ite_b, if_pos rfl, X12_lived hv hm1, jcl_s]
      have lp : lp_X12_odds_32 f_X12_odds_55 (nI o) (nI (lvm B)) 0 1 0 S1 = f_X12_odds_55 (nI o) (nI (lvm B)) 0 (lN AA) S1 := by
        unfold lp_X12_odds_32
        rw [← hAA]
        refine jloop_u (fun t => (nI o, nI (lvm B), 0, lN (10 ^ t), nI t, S1)) (lvc B) rfl (by omega) (fun t ht g => ?_) (fun g => ?_)
        · dsimp only
          unfold f_X12_odds_32
          rw [X12_bits (by omega), jcl_s, show pc (lvm B) = lvc B from pc_msk _, itlt (by omega) (by omega), if_pos ht, show nI t + 1 = nI (t + 1) from qadd _ 1, show (10 : Int64) = lN 10 from rfl, lN_mul, Nat.pow_succ]
        · dsimp only
          unfold f_X12_odds_32
          rw [X12_bits (by omega), jcl_s, show pc (lvm B) = lvc B from pc_msk _, itlt (by omega) (by omega), if_neg (by omega)]
      rw [lp]
      unfold f_X12_odds_55 lp_X12_odds_58
      refine jloop_i (fun s a => ∃ S', a = (nI o, nI (lvm B), lN (sm (fun s => pP B (B 8) (B 9) o 8 s) s), lN AA, nI s, S') ∧ Ev S1 S') (fun r => ∃ S2, r = f_X12_odds_212 (lN PP) (lN AA) S2 ∧ Ev S1 S2) 256 (by omega) ?_ ?_ ⟨S1, rfl, Ev.rfl' S1⟩
      · rintro s hs _ ⟨S', rfl, ev⟩
        have hm2 : mB (S'.1 42) B := by rw [ev.2.1 42 rfl]; exact hm1
        have hq2 := cnt_le (qr (B 8) (B 9) (fun h => vl B h (s.testBit h))) 7
        have es : sm (fun s => pP B (B 8) (B 9) o 8 s) (s + 1) = sm (fun s => pP B (B 8) (B 9) o 8 s) s + pP B (B 8) (B 9) o 8 s := rfl
        have et := pP_term B (B 8) (B 9) o hs
        by_cases c : dif s (lvm B) = 0
        · rw [if_pos c] at et
          have ev2 : Ev S1 (jsR S' 47 (hnd (fun h => vl B h (s.testBit h)) (S'.1 47) 8)) := ev.tr (Ev_47 S' _)
          have hm3 : mB ((jsR S' 47 (hnd (fun h => vl B h (s.testBit h)) (S'.1 47) 8)).1 42) B := hm2
          have hv8 : rw8 (fun h => vl B h (s.testBit h)) := by
            intro j hj
            have := hv.1 j hj
            show vl B j (s.testBit j) ≤ 300
            unfold vl grw
            repeat' split
            all_goals omega
          refine ⟨_, ⟨jsR S' 47 (hnd (fun h => vl B h (s.testBit h)) (S'.1 47) 8), rfl, ev2⟩, fun g => ?_⟩
          dsimp only
          unfold f_X12_odds_58
          rw [itl (show (256 : Int32) = nI 256 from rfl) (by omega) (by omega), if_pos hs, dif_nI, itv q0 (dif_lt hs) (by omega), if_pos c, X12_odds_81 _ _ _ ho hs hv.1 (fun j hj => hm2 j (by omega)) c]
          unfold f_X12_odds_190 f_X12_odds_204 f_X12_odds_206
          rw [X12_manyQuarrels (tabs_ev h1' ev2) hv hm3 hv8 (fun j hj => by rw [jsR_s]; exact hnd_i _ _ hj), jcl_s, itv q0 (by omega) (by omega), show nI s + 1 = nI (s + 1) from qadd _ 1, es, et]
          by_cases c2 : cnt (qr (B 8) (B 9) (fun h => vl B h (s.testBit h))) 7 = 0
          · rw [if_pos c2, if_pos c2, lN_add]
          · rw [if_neg c2, if_neg c2, show (0 : Int64) = lN 0 from rfl, lN_add]
        · rw [if_neg c] at et
          refine ⟨_, ⟨S', rfl, ev⟩, fun g => ?_⟩
          dsimp only
          unfold f_X12_odds_58 f_X12_odds_206
          rw [itl (show (256 : Int32) = nI 256 from rfl) (by omega) (by omega), if_pos hs, dif_nI, itv q0 (dif_lt hs) (by omega), if_neg c, show nI s + 1 = nI (s + 1) from qadd _ 1, es, et]
          rfl
      · rintro _ ⟨S', rfl, ev⟩
        refine ⟨_, ⟨S', rfl, ev⟩, fun g => ?_⟩
        dsimp only
        unfold f_X12_odds_58
        rw [if_neg (by decide), ← Ps]
    obtain ⟨S2, e2, ev⟩ := e12
    refine ⟨1, S1, jsL (jsL S2 41 5 (lN (PP / Nat.gcd PP AA))) 41 6 (lN (AA / Nat.gcd PP AA)), e11, ?_, B, T, tl, ?_⟩
    · rw [e2]
      unfold f_X12_odds_212 f_X12_fraction f_X12_fraction_e
      rw [X12_fraction_6 _ _ (by omega) (by omega)]
      unfold f_X12_fraction_31
      rw [Nat.gcd_comm] at g0 g1
      rw [jdl_N (by omega) g0 (by omega), jpl_s, jdl_N (by omega) g0 (by omega), jpl_s, jcv_s]
    · have ev0 : Ev S (S2.1, S.2) := ⟨rfl, fun k hk => by rw [show (S2.1, S.2).1 k = S2.1 k from rfl, ev.2.1 k hk, s1], by rw [show (S2.1, S.2).1 = S2.1 from rfl, ev.2.2.1, s1], by rw [show (S2.1, S.2).1 = S2.1 from rfl, ev.2.2.2.1, s1], by rw [show (S2.1, S.2).1 = S2.1 from rfl, ev.2.2.2.2.1, s1], by rw [show (S2.1, S.2).1 = S2.1 from rfl, ev.2.2.2.2.2.1, s1], by rw [show (S2.1, S.2).1 = S2.1 from rfl, ev.2.2.2.2.2.2, s1]⟩
      refine RR_L (RR_ev hR ev0) rfl ⟨?_, ?_⟩
      · show S2.2 0 11 = lN (PP / Nat.gcd PP AA)
        rw [ev.1, s2.1, Nat.gcd_comm]
      · show S2.2 0 12 = lN (AA / Nat.gcd PP AA)
        rw [ev.1, s2.2, Nat.gcd_comm]
