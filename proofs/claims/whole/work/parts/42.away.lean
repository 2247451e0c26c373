/-! ===== away ===== -/
/-- the row without the houses of a set -/
def rwo (R : Nat → Nat) (s h : Nat) : Nat := if s.testBit h = true then 0 else R h
theorem rwo8 {R : Nat → Nat} (h : rw8 R) (s : Nat) : rw8 (rwo R s) := by
  intro j hj
  unfold rwo
  split
  · omega
  · exact h j hj
theorem qr_rwo (k n : Nat) (R : Nat → Nat) (s h : Nat) : qr k n (rwo R s) h = (qr k n R h && !(s.testBit h || s.testBit (h + 1))) := by
  unfold qr mayE rwo
  cases s.testBit h
  · cases s.testBit (h + 1)
    · rw [if_neg (by decide), if_neg (by decide)]
      cases (decide (R h = 0) || (decide (R (h + 1) = 0) || may k n (R h) (R (h + 1)))) <;> rfl
    · rw [if_neg (by decide), if_pos rfl]
      cases decide (R h = 0) <;> cases (decide (R (h + 1) = 0) || may k n (R h) (R (h + 1))) <;> simp
  · rw [if_pos rfl]
    cases (decide (R h = 0) || (decide (R (h + 1) = 0) || may k n (R h) (R (h + 1)))) <;> simp
theorem cnt_0 (p : Nat → Bool) : ∀ n, cnt p n = 0 ↔ ∀ h, h < n → p h = false
  | 0 => ⟨fun _ h hh => absurd hh (Nat.not_lt_zero h), fun _ => rfl⟩
  | n + 1 => by
    have ih := cnt_0 p n
    show cnt p n + (if p n = true then 1 else 0) = 0 ↔ _
    constructor
    · intro e h hh
      rcases Nat.lt_or_ge h n with hl | hl
      · exact ih.1 (by omega) h hl
      · have : h = n := by omega
        subst this
        cases hp : p h
        · rfl
        · rw [hp] at e
          simp at e
    · intro e
      rw [ih.2 (fun h hh => e h (by omega)), e n (by omega)]
      rfl
/-- a set calms the pairs -/
theorem calm_iff (p : Nat → Bool) (s : Nat) : dif (msk p 7) (s ||| (s >>> 1)) = 0 ↔ cnt (fun h => p h && !(s.testBit h || s.testBit (h + 1))) 7 = 0 := by
  rw [cnt_0]
  constructor
  · intro e h hh
    have b : (dif (msk p 7) (s ||| (s >>> 1))).testBit h = false := by rw [e]; exact Nat.zero_testBit h
    rw [dif_bit, msk_bit, decide_eq_true hh, Nat.testBit_or, Nat.testBit_shiftRight, Nat.add_comm 1 h] at b
    simpa using b
  · intro e
    apply Nat.eq_of_testBit_eq
    intro i
    rw [Nat.zero_testBit, dif_bit, msk_bit, Nat.testBit_or, Nat.testBit_shiftRight, Nat.add_comm 1 i]
    by_cases hi : i < 7
    · rw [decide_eq_true hi]
      simpa using e i hi
    · rw [decide_eq_false hi]
      rfl
/-- the best of the sets below s -/
def awb (p : Nat → Bool) : Nat → Nat
  | 0 => 255
  | s + 1 => if cnt (fun h => p h && !(s.testBit h || s.testBit (h + 1))) 7 = 0 ∧ pc s < pc (awb p s) then s else awb p s
theorem awb_lt (p : Nat → Bool) : ∀ s, s ≤ 256 → awb p s < 256
  | 0, _ => by show 255 < 256; omega
  | s + 1, h => by
    have := awb_lt p s (by omega)
    show (if _ then s else awb p s) < 256
    split <;> omega
theorem pc_8 : ∀ x, x < 256 → pc x ≤ 8 := by decide +kernel
theorem awb_256 (p : Nat → Bool) : awb p 256 = awb p 255 := by
  show (if _ ∧ pc 255 < pc (awb p 255) then 255 else awb p 255) = _
  rw [if_neg]
  intro h
  have h1 := pc_8 (awb p 255) (awb_lt p 255 (by omega))
  have h2 : pc 255 = 8 := by decide
  omega
theorem X4_fewestAway (p : Nat → Bool) (S : jS) : f_X4_fewestAway (nI (msk p 7)) S = some (nI (awb p 256), S) := by
  unfold f_X4_fewestAway f_X4_fewestAway_e lp_X4_fewestAway_6
  refine jloop_u (fun i => (nI (msk p 7), nI (awb p i), nI i, S)) 256 rfl (by omega) (fun i hi g => ?_) (fun g => ?_)
  · have hm := msk_lt p 7
    have ha := awb_lt p i (by omega)
    have hp1 := pc_8 i hi
    have hp2 := pc_8 _ ha
    dsimp only
    unfold f_X4_fewestAway_6 f_X4_fewestAway_30 f_X4_fewestAway_48
    rw [itl (show (256 : Int32) = nI 256 from rfl) (by omega) (by omega), if_pos hi, show nI i >>> ((1 : Int32) &&& 31) = nI (i >>> 1) from shr_nI i (by omega) 1 (by omega), or_nI, dif_nI, J6_bitCount hi, jcl_s, J6_bitCount ha, jcl_s, itlt (by omega) (by omega), q1, qadd]
    dsimp only
    have hd : dif (msk p 7) (i ||| (i >>> 1)) < 2147483648 := by
      have : dif (msk p 7) (i ||| (i >>> 1)) < 2 ^ 31 := by
        unfold dif
        exact Nat.xor_lt_two_pow (by omega) (Nat.and_lt_two_pow _ (Nat.or_lt_two_pow (by omega) (by have := Nat.shiftRight_le i 1; omega)))
      omega
    rw [itv q0 hd (by omega)]
    show _ = g (nI (msk p 7), nI (if cnt (fun h => p h && !(i.testBit h || i.testBit (h + 1))) 7 = 0 ∧ pc i < pc (awb p i) then i else awb p i), nI (i + 1), S)
    by_cases c : cnt (fun h => p h && !(i.testBit h || i.testBit (h + 1))) 7 = 0
    · rw [if_pos ((calm_iff p i).2 c), if_neg (show ¬ nI 1 = 0 by decide)]
      by_cases c2 : pc i < pc (awb p i)
      · rw [if_pos c2, if_pos ⟨c, c2⟩]
      · rw [if_neg c2, if_neg (fun q => c2 q.2)]
    · rw [if_neg (fun q => c ((calm_iff p i).1 q)), if_pos rfl, if_neg (fun q => c q.1)]
  · dsimp only
    unfold f_X4_fewestAway_6 f_X4_fewestAway_54
    rw [if_neg (by decide)]
/-- a row laid into an array -/
def hnd (R : Nat → Nat) (f : Nat → Int32) (i : Nat) : Nat → Int32 := fun j => if j < i then nI (R j) else f j
theorem hnd_0 (R : Nat → Nat) (f : Nat → Int32) : hnd R f 0 = f := by
  funext j
  exact if_neg (Nat.not_lt_zero j)
theorem hnd_s (R : Nat → Nat) (f : Nat → Int32) (i : Nat) : upd (hnd R f i) i (nI (R i)) = hnd R f (i + 1) := by
  funext j
  unfold hnd
  rw [upd_1]
  by_cases h : j = i
  · rw [if_pos h, if_pos (by omega), h]
  · rw [if_neg h]
    by_cases h2 : j < i
    · rw [if_pos h2, if_pos (by omega)]
    · rw [if_neg h2, if_neg (by omega)]
theorem hnd_i (R : Nat → Nat) (f : Nat → Int32) {i j : Nat} (h : j < i) : hnd R f i j = nI (R j) := if_pos h
theorem X12_away_15 {k52 : Int32 → Int32 → jS → Option (Int32 × jS)} (x : Int32) {s : Nat} (hs : s < 256) {S : jS} {R : Nat → Nat} (hm : ∀ j, j < 8 → S.1 42 j = nI (R j)) : lp_X12_away_15 k52 x (nI s) 0 S = k52 x (nI s) (jsR S 47 (hnd (rwo R s) (S.1 47) 8)) := by
  unfold lp_X12_away_15
  refine jloop_u (fun i => (x, nI s, nI i, jsR S 47 (hnd (rwo R s) (S.1 47) i))) 8 (by rw [hnd_0, jsR_self]; rfl) (by omega) (fun i hi g => ?_) (fun g => ?_)
  · dsimp only
    unfold f_X12_away_15 f_X12_away_45
    rw [itl q8 (by omega) (by omega), if_pos hi, bit_nI s (by omega) i (by omega), jld_nI (by omega) (by omega), jsR_n _ _ (by omega), hm i hi, jst_nI (by omega) (by omega), jst_nI (by omega) (by omega), q1, qadd, jsI_R, jsI_R]
    have e : rwo R s i = if s.testBit i = true then 0 else R i := rfl
    cases hb : s.testBit i
    · rw [if_neg (show ¬ bI false = nI 1 by decide)]
      dsimp only
      rw [← hnd_s, e, hb]
      rfl
    · rw [if_pos (show bI true = nI 1 by decide)]
      dsimp only
      rw [← hnd_s, e, hb]
      rfl
  · dsimp only
    unfold f_X12_away_15
    rw [if_neg (by decide)]
theorem op_away {S : jS} (h : GG S) : O2 (f_X11_away S) f_X12_away := by
  obtain ⟨B, T, tl, hR⟩ := id h
  obtain ⟨h1, hv, hm, hc, h5⟩ := id hR
  have e12 : ∃ S2, f_X12_away S = some (nI (awb (qr (B 8) (B 9) B) 255), S2) ∧ Ev S S2 := by
    unfold f_X12_away f_X12_away_e lp_X12_away_6
    refine jloop_i (fun i a => ∃ S', a = (nI (awb (qr (B 8) (B 9) B) i), nI i, S') ∧ Ev S S') (fun r => ∃ S2, r = some (nI (awb (qr (B 8) (B 9) B) 255), S2) ∧ Ev S S2) 255 (by omega) ?_ ?_ ⟨S, rfl, Ev.rfl' S⟩
    · rintro i hi _ ⟨S', rfl, ev⟩
      have hp := awb_lt (qr (B 8) (B 9) B) i (by omega)
      have hp1 := pc_8 i (by omega)
      have hp2 := pc_8 _ hp
      have hm1 : mB (S'.1 42) B := by rw [ev.2.1 42 rfl]; exact hm
      have ev2 : Ev S (jsR S' 47 (hnd (rwo B i) (S'.1 47) 8)) := ev.tr (Ev_47 S' _)
      have hm2 : mB ((jsR S' 47 (hnd (rwo B i) (S'.1 47) 8)).1 42) B := hm1
      have hq : cnt (qr (B 8) (B 9) (rwo B i)) 7 = cnt (fun h => qr (B 8) (B 9) B h && !(i.testBit h || i.testBit (h + 1))) 7 := by
        congr 1
        funext j
        exact qr_rwo _ _ _ _ _
      have hq2 := cnt_le (qr (B 8) (B 9) (rwo B i)) 7
      refine ⟨_, ⟨jsR S' 47 (hnd (rwo B i) (S'.1 47) 8), rfl, ev2⟩, fun g => ?_⟩
      dsimp only
      unfold f_X12_away_6
      rw [itl (show (255 : Int32) = nI 255 from rfl) (by omega) (by omega), if_pos hi, X12_away_15 _ (by omega) (fun j hj => hm1 j (by omega))]
      unfold f_X12_away_52 f_X12_away_74 f_X12_away_75
      rw [X12_bits (by omega), jcl_s, X12_bits (by omega), jcl_s, itlt (by omega) (by omega), X12_manyQuarrels (tabs_ev h1 ev2) hv hm2 (rwo8 hv.1 i) (fun j hj => by rw [jsR_s]; exact hnd_i _ _ hj), jcl_s, itv q0 (by omega) (by omega), hq, q1, qadd]
      dsimp only
      show _ = g (nI (if cnt (fun h => qr (B 8) (B 9) B h && !(i.testBit h || i.testBit (h + 1))) 7 = 0 ∧ pc i < pc (awb (qr (B 8) (B 9) B) i) then i else awb (qr (B 8) (B 9) B) i), nI (i + 1), _)
      by_cases c2 : pc i < pc (awb (qr (B 8) (B 9) B) i)
      · rw [if_pos c2]
        by_cases c : cnt (fun h => qr (B 8) (B 9) B h && !(i.testBit h || i.testBit (h + 1))) 7 = 0
        · rw [if_pos c, if_pos ⟨c, c2⟩]
        · rw [if_neg c, if_neg (fun q => c q.1)]
      · rw [if_neg c2, if_neg (fun q => c2 q.2)]
    · rintro _ ⟨S', rfl, ev⟩
      refine ⟨_, ⟨S', rfl, ev⟩, fun g => ?_⟩
      dsimp only
      unfold f_X12_away_6 f_X12_away_82
      rw [if_neg (by decide)]
  obtain ⟨S2, e2, ev⟩ := e12
  refine O2_ev h (nI (awb (qr (B 8) (B 9) B) 255)) ⟨S, ?_, Ev.rfl' S, S2, e2, ev⟩
  unfold f_X11_away f_X11_away_e
  rw [hc.2.1, X2_q22 h1 hv.2.1 hv.2.2.1 hv.1 hc.1, jcl_s, X4_fewestAway, jcl_s, awb_256]
/-! ===== next ===== -/
def wt (d h x : Nat) : Nat := if h < d then (if (d - h) % x = 0 then 0 else x - (d - h) % x) else h - d
theorem X11_waitFrom {d h x : Nat} (hd : d ≤ 99999) (hh : h < 8) (hx0 : 0 < x) (hx : x ≤ 300) (S : jS) : f_X11_waitFrom (nI d) (nI h) (nI x) S = some (nI (wt d h x), S) := by
  unfold f_X11_waitFrom f_X11_waitFrom_e f_X11_waitFrom_10 f_X11_waitFrom_31 wt
  have hl := Nat.mod_lt (d - h) hx0
  rw [itlt (by omega) (by omega)]
  by_cases c : h < d
  · rw [if_pos c, if_pos c, itl q1 (by omega) (by omega), if_neg (by omega), qsub (by omega), jrm_nI (by omega) hx0 (by omega), itv q0 (by omega) (by omega), qsub (by omega)]
    by_cases c2 : (d - h) % x = 0
    · rw [if_pos c2, if_pos c2]; rfl
    · rw [if_neg c2, if_neg c2]
  · rw [if_neg c, if_neg c, qsub (by omega)]
theorem X12_daysTill {d h x : Nat} (hd : d ≤ 99999) (hh : h < 8) (hx0 : 0 < x) (hx : x ≤ 300) {S : jS} (e : S.1 42 h = nI x) : f_X12_daysTill (nI h) (nI d) S = some (nI (wt d h x), S) := by
  unfold f_X12_daysTill f_X12_daysTill_e f_X12_daysTill_35 wt
  have hl := Nat.mod_lt (d - h) hx0
  rw [itlt (by omega) (by omega)]
  by_cases c : h < d
  · rw [if_pos c, if_pos c, jld_nI (by omega) (by omega), jld_nI (by omega) (by omega), e, qsub (by omega), jrm_nI (by omega) hx0 (by omega), jld_nI (by omega) (by omega), e, qsub (by omega), jrm_nI (by omega) hx0 (by omega)]
    by_cases c2 : (d - h) % x = 0
    · rw [if_pos c2, c2, Nat.sub_zero, Nat.mod_self]
    · rw [if_neg c2, Nat.mod_eq_of_lt (by omega)]
  · rw [if_neg c, if_neg c, qsub (by omega)]
def nx (B : Nat → Nat) (d : Nat) : Nat → Int32
  | 0 => -1
  | h + 1 => if 0 < B h then (if nx B d h = -1 then nI (wt d h (B h)) else if nI (wt d h (B h)) < nx B d h then nI (wt d h (B h)) else nx B d h) else nx B d h
theorem op_next (x : Int32) {S : jS} (h : GG S) : O2 (f_X11_next x S) (f_X12_next x) := by
  obtain ⟨B, T, tl, hR⟩ := id h
  cases hx : okr x 0 99999 with
  | false =>
    refine O2_bad h (-2) ?_ ?_
    · unfold f_X11_next f_X11_next_e f_X11_next_10
      rw [show (99999 : Int32) = nI 99999 from rfl, rng0 x 99999 (by omega), hx, if_neg (by decide), X11_refuseBad, jcl_s]
    · unfold f_X12_next f_X12_next_e
      rw [show f_X12_in x.toInt64 0 99999 _ = some (bI (okr x 0 99999), _) from X12_inN x 0 99999 (by omega) (by omega) _, jcl_s, hx, ite_b, if_neg (by decide), X12_bad, jcl_s]
      rfl
  | true =>
    obtain ⟨d, -, hd, rfl⟩ := okr_of hx (by omega)
    obtain ⟨h1, hv, hm, hc, h5⟩ := id hR
    refine ⟨nx B d 8, S, S, ?_, ?_, h⟩
    · unfold f_X11_next f_X11_next_e
      rw [show (99999 : Int32) = nI 99999 from rfl, rng0 _ 99999 (by omega), hx, if_pos rfl]
      unfold lp_X11_next_19
      refine jloop_u (fun i => (nI d, nx B d i, nI i, S)) 8 rfl (by omega) (fun i hi g => ?_) (fun g => ?_)
      · have hB := hv.1 i hi
        dsimp only
        unfold f_X11_next_19 f_X11_next_66 f_X11_next_67
        rw [itl q8 (by omega) (by omega), if_pos hi, jld_nI (by omega) (by omega), hc.1 i hi, itg q0 (by omega) (by omega), show nI i + 1 = nI (i + 1) from qadd i 1]
        dsimp only
        show _ = g (nI d, (if 0 < B i then (if nx B d i = -1 then nI (wt d i (B i)) else if nI (wt d i (B i)) < nx B d i then nI (wt d i (B i)) else nx B d i) else nx B d i), nI (i + 1), S)
        by_cases c : 0 < B i
        · rw [if_pos c, if_pos c, X11_waitFrom hd hi c hB, jcl_s]
          by_cases c2 : nx B d i = -1
          · rw [if_pos c2, if_pos c2]
          · rw [if_neg c2, if_neg c2]
        · rw [if_neg c, if_neg c]
      · dsimp only
        unfold f_X11_next_19 f_X11_next_73
        rw [if_neg (by decide)]
    · unfold f_X12_next f_X12_next_e
      rw [show f_X12_in (nI d).toInt64 0 99999 _ = some (bI (okr (nI d) 0 99999), _) from X12_inN (nI d) 0 99999 (by omega) (by omega) _, jcl_s, hx, ite_b, if_pos rfl]
      unfold lp_X12_next_23
      refine jloop_u (fun i => (nI d, nx B d i, nI i, S)) 8 rfl (by omega) (fun i hi g => ?_) (fun g => ?_)
      · have hB := hv.1 i hi
        dsimp only
        unfold f_X12_next_23 f_X12_next_57 f_X12_next_63 f_X12_next_64
        rw [itl q8 (by omega) (by omega), if_pos hi, jld_nI (by omega) (by omega), hm i (by omega), itg q0 (by omega) (by omega), show nI i + 1 = nI (i + 1) from qadd i 1]
        dsimp only
        show _ = g (nI d, (if 0 < B i then (if nx B d i = -1 then nI (wt d i (B i)) else if nI (wt d i (B i)) < nx B d i then nI (wt d i (B i)) else nx B d i) else nx B d i), nI (i + 1), S)
        by_cases c : 0 < B i
        · rw [if_pos c, if_pos c, X12_daysTill hd hi c hB (hm i (by omega)), jcl_s]
          by_cases c2 : nx B d i = -1
          · rw [if_pos c2, if_pos c2]
          · rw [if_neg c2, if_neg c2]
            by_cases c3 : nI (wt d i (B i)) < nx B d i
            · rw [if_pos c3, if_pos c3]
            · rw [if_neg c3, if_neg c3]
        · rw [if_neg c, if_neg c]
      · dsimp only
        unfold f_X12_next_23 f_X12_next_70
        rw [if_neg (by decide)]
