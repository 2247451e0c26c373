/-! ===== the greatest common divisor ===== -/
theorem lgz (x y : Int64) : (lg_cmp x y = 0) = (x = y) := by
  unfold lg_cmp
  simp only [gt_iff_lt, Int64.lt_iff_toInt_lt, ← Int64.toInt_inj]
  apply propext
  split
  · exact ⟨fun h => absurd h (by decide), fun h => by omega⟩
  · split
    · next h => exact ⟨fun _ => h, fun _ => rfl⟩
    · next h => exact ⟨fun q => absurd q (by decide), fun q => absurd q h⟩
theorem itz {α : Type} {b : Nat} (hb : b < 2 ^ 63) (x y : α) : (if lg_cmp (lN b) 0 = 0 then x else y) = if b = 0 then x else y := by
  simp only [lgz, show (0 : Int64) = lN 0 from rfl, pk_lEQ hb (show 0 < 2 ^ 63 by decide)]
theorem half_mul {a b : Nat} (h0 : 0 < b) (h : b ≤ a) : 2 * (b * (a % b)) ≤ a * b := by
  have h1 := Nat.mod_lt a h0
  have h2 := Nat.div_add_mod a b
  have h3 : 1 ≤ a / b := (Nat.le_div_iff_mul_le h0).2 (by omega)
  have h4 : b * 1 ≤ b * (a / b) := Nat.mul_le_mul_left b h3
  have h5 : 2 * (a % b) ≤ a := by omega
  have h6 : 2 * (a % b) * b ≤ a * b := Nat.mul_le_mul_right b h5
  have e : 2 * (a % b) * b = 2 * (b * (a % b)) := by rw [Nat.mul_assoc, Nat.mul_comm (a % b) b]
  omega
theorem X11_commonDivisor {a b : Nat} (ha : a < 2147483648) (hb : b < 2147483648) (S : jS) : f_X11_commonDivisor (lN a) (lN b) S = some (lN (Nat.gcd a b), S) := by
  unfold f_X11_commonDivisor f_X11_commonDivisor_e lp_X11_commonDivisor_9
  have h0 : a * b < 2 ^ 62 := by
    have : a * b ≤ 2147483647 * 2147483647 := Nat.mul_le_mul (by omega) (by omega)
    have e : (2 : Nat) ^ 62 = 4611686018427387904 := by decide
    omega
  refine jloop_wf (fun q => ∃ c d i m, i ≤ 100 ∧ c < 2147483648 ∧ d < 2147483648 ∧ c * d < 2 ^ m ∧ (d ≤ c → m + i ≤ 100) ∧ (c < d → m + i + 1 ≤ 100) ∧ Nat.gcd c d = Nat.gcd a b ∧ q = (lN c, lN d, nI i, S)) (fun q => 100 - q.2.2.1.toNatClampNeg) (fun _ => some (lN (Nat.gcd a b), S)) ?_ jN (lN a, lN b, 0, S) ⟨a, b, 0, 62, by omega, ha, hb, h0, fun _ => by omega, fun _ => by omega, rfl, rfl⟩ (jN_big (by show 100 - (nI 0).toNatClampNeg < _; omega))
  rintro _ ⟨c, d, i, m, hi, hc, hd, hm, h1, h2, hg0, rfl⟩ g hg
  dsimp only
  unfold f_X11_commonDivisor_9 f_X11_commonDivisor_44
  rw [itl (show (100 : Int32) = nI 100 from rfl) (by omega) (by omega), itz (by omega)]
  by_cases e : d = 0
  · subst e
    rw [Nat.gcd_zero_right] at hg0
    rw [if_pos rfl, hg0, ite_self]
  · have hr := Nat.mod_lt c (show d > 0 by omega)
    have lt : i < 100 := by
      rcases Nat.lt_or_ge i 100 with q | q
      · exact q
      · exfalso
        rcases Nat.lt_or_ge c d with w | w
        · have := h2 w; omega
        · have := h1 w
          have : m = 0 := by omega
          subst this
          have : 1 * 1 ≤ c * d := Nat.mul_le_mul (by omega) (by omega)
          omega
    rw [if_pos lt, if_neg e, jrl_N (by omega) (by omega) (by omega), show nI i + 1 = nI (i + 1) from qadd _ 1]
    have gr : Nat.gcd d (c % d) = Nat.gcd a b := by
      rw [← hg0, Nat.gcd_comm d, ← Nat.gcd_rec, Nat.gcd_comm]
    rcases Nat.lt_or_ge c d with w | w
    · have := h2 w
      have e2 : c % d = c := Nat.mod_eq_of_lt w
      exact hg _ ⟨d, c % d, i + 1, m, by omega, hd, by omega, by rw [e2, Nat.mul_comm]; exact hm, fun _ => by omega, fun q => by omega, gr, rfl⟩ (by dsimp only; rw [qcl (by omega), qcl (by omega)]; omega)
    · have hl := h1 w
      have hh := half_mul (show 0 < d by omega) w
      cases m with
      | zero =>
        have : 1 * 1 ≤ c * d := Nat.mul_le_mul (by omega) (by omega)
        have : c * d < 1 := hm
        omega
      | succ m =>
        have e3 : 2 ^ (m + 1) = 2 ^ m * 2 := Nat.pow_succ 2 m
        exact hg _ ⟨d, c % d, i + 1, m, by omega, hd, by omega, by omega, fun _ => by omega, fun q => by omega, gr, rfl⟩ (by dsimp only; rw [qcl (by omega), qcl (by omega)]; omega)
/-! ===== days ===== -/
/-- the one of house h, if one lives there, is there on day d -/
def thr (R : Nat → Nat) (d h : Nat) : Prop := 0 < R h → h ≤ d ∧ (d - h) % R h = 0
def cmn (R : Nat → Nat) (n d : Nat) : Prop := ∀ h, h < n → thr R d h
theorem X11_isThere {d h x : Nat} (hd : d < 2147483648) (hh : h < 8) (hx0 : 0 < x) (hx : x ≤ 300) (S : jS) : f_X11_isThere (nI d) (nI h) (nI x) S = some (bI (decide (h ≤ d ∧ (d - h) % x = 0)), S) := by
  unfold f_X11_isThere f_X11_isThere_e f_X11_isThere_21 f_X11_isThere_22
  have hm := Nat.mod_lt (d - h) hx0
  rw [itlt (by omega) (by omega)]
  by_cases c : d < h
  · rw [if_pos c, decide_eq_false (by omega)]; rfl
  · rw [if_neg c, itg q0 (by omega) (by omega), if_pos hx0, qsub (by omega), jrm_nI (by omega) hx0 (by omega), itv q0 (by omega) (by omega)]
    by_cases c2 : (d - h) % x = 0
    · rw [if_pos c2, decide_eq_true ⟨by omega, c2⟩]; rfl
    · rw [if_neg c2, decide_eq_false (fun q => c2 q.2)]; rfl
/-- the first of day, day + step, .. on which the one of house h is there -/
theorem X11_firstShared {d0 st h x : Nat} (hd : d0 < 300000) (hst : 0 < st) (hst2 : st ≤ 100000) (hh : h < 8) (hx0 : 0 < x) (hx : x ≤ 300) (S : jS) : ∃ k, f_X11_firstShared (nI d0) (nI st) (nI h) (nI x) S = some (nI (d0 + k * st), S) ∧ d0 + k * st < 300000 ∧ (∀ j, j < k → d0 + j * st ≤ 99999 ∧ ¬ (h ≤ d0 + j * st ∧ (d0 + j * st - h) % x = 0)) ∧ (d0 + k * st ≤ 99999 → h ≤ d0 + k * st ∧ (d0 + k * st - h) % x = 0) := by
  unfold f_X11_firstShared f_X11_firstShared_e lp_X11_firstShared_6
  have key : ∀ (f k : Nat), k ≤ 100000 → 100000 - k < f → d0 + k * st < 300000 → (∀ j, j < k → d0 + j * st ≤ 99999 ∧ ¬ (h ≤ d0 + j * st ∧ (d0 + j * st - h) % x = 0)) → ∃ k', jloop (α := Int32 × Int32 × Int32 × Int32 × Int32 × jS) (fun g q => f_X11_firstShared_6 (fun x1 x2 x3 x4 x5 S => g (x1, x2, x3, x4, x5, S)) f_X11_firstShared_42 q.1 q.2.1 q.2.2.1 q.2.2.2.1 q.2.2.2.2.1 q.2.2.2.2.2) f (nI st, nI h, nI x, nI (d0 + k * st), nI k, S) = some (nI (d0 + k' * st), S) ∧ d0 + k' * st < 300000 ∧ (∀ j, j < k' → d0 + j * st ≤ 99999 ∧ ¬ (h ≤ d0 + j * st ∧ (d0 + j * st - h) % x = 0)) ∧ (d0 + k' * st ≤ 99999 → h ≤ d0 + k' * st ∧ (d0 + k' * st - h) % x = 0) := by
    intro f
    induction f with
    | zero => intro k _ h1; omega
    | succ f ih =>
      intro k hk hf hlt hall
      show ∃ k', f_X11_firstShared_6 (fun x1 x2 x3 x4 x5 S => jloop _ f (x1, x2, x3, x4, x5, S)) f_X11_firstShared_42 (nI st) (nI h) (nI x) (nI (d0 + k * st)) (nI k) S = _ ∧ _
      unfold f_X11_firstShared_6
      by_cases c : 99999 < d0 + k * st
      · refine ⟨k, ?_, hlt, hall, fun q => by omega⟩
        rw [itg (show (99999 : Int32) = nI 99999 from rfl) (by omega) (by omega), itg (show (99999 : Int32) = nI 99999 from rfl) (by omega) (by omega), if_pos c, ite_self]
        rfl
      · have hks : k ≤ k * st := Nat.le_mul_of_pos_right k hst
        rw [itg (show (99999 : Int32) = nI 99999 from rfl) (by omega) (by omega), if_neg (by omega), itg (show (99999 : Int32) = nI 99999 from rfl) (by omega) (by omega), if_neg c, X11_isThere (by omega) hh hx0 hx, jcl_s, ite_b]
        by_cases c2 : h ≤ d0 + k * st ∧ (d0 + k * st - h) % x = 0
        · refine ⟨k, ?_, hlt, hall, fun _ => c2⟩
          rw [decide_eq_true c2]
          rfl
        · rw [decide_eq_false c2, if_neg (by decide), qadd, show nI k + 1 = nI (k + 1) from qadd _ 1, show d0 + k * st + st = d0 + (k + 1) * st by rw [Nat.add_mul, Nat.one_mul, Nat.add_assoc]]
          have e1 : (k + 1) * st = k * st + st := by rw [Nat.add_mul, Nat.one_mul]
          refine ih (k + 1) (by omega) (by omega) (by omega) (fun j hj => ?_)
          by_cases e : j = k
          · subst e
            exact ⟨by omega, c2⟩
          · exact hall j (by omega)
  have := key jN 0 (by omega) (by show 100000 - 0 < 1000000000; omega) (by omega) (fun j hj => absurd hj (Nat.not_lt_zero j))
  rw [Nat.zero_mul, Nat.add_zero] at this
  exact this
theorem X11_sharedStep {st x : Nat} (h0 : 0 < st) (hst : st ≤ 100000) (hx0 : 0 < x) (hx : x ≤ 300) (S : jS) : f_X11_sharedStep (nI st) (nI x) S = some (nI (if 100000 < st / Nat.gcd st x * x then 100000 else st / Nat.gcd st x * x), S) := by
  unfold f_X11_sharedStep f_X11_sharedStep_e
  have hg0 : 0 < Nat.gcd st x := Nat.gcd_pos_of_pos_left x h0
  have hg1 : Nat.gcd st x ≤ x := Nat.gcd_le_right st hx0
  have hd : st / Nat.gcd st x ≤ st := Nat.div_le_self _ _
  have hm : st / Nat.gcd st x * x ≤ 100000 * 300 := Nat.mul_le_mul (by omega) hx
  rw [nI_l (by omega), nI_l (by omega), X11_commonDivisor (by omega) (by omega), jcl_s, if_neg (by rw [lgn, lN_toInt (by omega), show (1 : Int64).toInt = 1 from rfl]; omega), jdl_N (by omega) hg0 (by omega), lN_mul, show (100000 : Int64) = lN 100000 from rfl]
  by_cases c : 100000 < st / Nat.gcd st x * x
  · rw [if_pos c, if_pos ((pk_lLT (by omega) (by omega)).2 c), lN_i]
  · rw [if_neg c, if_neg (fun q => c ((pk_lLT (by omega) (by omega)).1 q)), lN_i]
/-- the days of one more house -/
theorem cmn_step {R : Nat → Nat} {n d0 st k x : Nat} (hx : R n = x) (hx0 : 0 < x) (hst : 0 < st) (hst2 : st ≤ 100000) (I : ∀ d, d ≤ 99999 → (cmn R n d ↔ ∃ j, d = d0 + j * st)) (h1 : ∀ j, j < k → ¬ (n ≤ d0 + j * st ∧ (d0 + j * st - n) % x = 0)) (h2 : d0 + k * st ≤ 99999 → n ≤ d0 + k * st ∧ (d0 + k * st - n) % x = 0) : ∀ d, d ≤ 99999 → (cmn R (n + 1) d ↔ ∃ j, d = d0 + k * st + j * (if 100000 < st / Nat.gcd st x * x then 100000 else st / Nat.gcd st x * x)) := by
  intro d hd
  have hg0 : 0 < Nat.gcd st x := Nat.gcd_pos_of_pos_left x hst
  have sp : cmn R (n + 1) d ↔ cmn R n d ∧ (n ≤ d ∧ (d - n) % x = 0) := by
    constructor
    · intro h
      refine ⟨fun t ht => h t (by omega), ?_⟩
      have := h n (by omega)
      unfold thr at this
      rw [hx] at this
      exact this hx0
    · rintro ⟨h, g⟩ t ht
      by_cases e : t = n
      · subst e
        intro _
        rw [hx]
        exact g
      · exact h t (by omega)
  have lc : st / Nat.gcd st x * x = Nat.lcm st x := by
    unfold Nat.lcm
    rw [Nat.mul_comm st x, Nat.mul_div_assoc _ (Nat.gcd_dvd_left st x), Nat.mul_comm]
  have lpos : 0 < Nat.lcm st x := Nat.lcm_pos hst hx0
  rw [sp, I d hd]
  constructor
  · rintro ⟨⟨j, rfl⟩, g1, g2⟩
    have jk : k ≤ j := by
      rcases Nat.lt_or_ge j k with q | q
      · exact absurd ⟨g1, g2⟩ (h1 j q)
      · exact q
    have le : k * st ≤ j * st := Nat.mul_le_mul_right st jk
    obtain ⟨b1, b2⟩ := h2 (by omega)
    have dvx : x ∣ (j - k) * st := by
      have e : (j - k) * st = (d0 + j * st - n) - (d0 + k * st - n) := by
        rw [Nat.sub_mul]
        omega
      rw [e]
      exact Nat.dvd_sub (Nat.dvd_of_mod_eq_zero g2) (Nat.dvd_of_mod_eq_zero b2)
    have dvl : Nat.lcm st x ∣ (j - k) * st := Nat.lcm_dvd (Nat.dvd_mul_left st (j - k)) dvx
    obtain ⟨q, hq⟩ := dvl
    have e2 : (j - k) * st = j * st - k * st := Nat.sub_mul j k st
    rw [lc]
    by_cases c : 100000 < Nat.lcm st x
    · refine ⟨0, ?_⟩
      have q0 : q = 0 := by
        rcases Nat.eq_zero_or_pos q with w | w
        · exact w
        · have : Nat.lcm st x * 1 ≤ Nat.lcm st x * q := Nat.mul_le_mul_left _ w
          omega
      subst q0
      rw [Nat.mul_zero] at hq
      omega
    · rw [if_neg c]
      refine ⟨q, ?_⟩
      rw [Nat.mul_comm q]
      omega
  · rintro ⟨j, rfl⟩
    obtain ⟨b1, b2⟩ := h2 (by omega)
    rw [lc] at hd ⊢
    by_cases c : 100000 < Nat.lcm st x
    · rw [if_pos c] at hd ⊢
      have j0 : j = 0 := by omega
      subst j0
      rw [Nat.zero_mul, Nat.add_zero]
      exact ⟨⟨k, rfl⟩, b1, b2⟩
    · rw [if_neg c] at hd ⊢
      obtain ⟨u, hu⟩ := Nat.dvd_lcm_left st x
      obtain ⟨w, hw⟩ := Nat.dvd_lcm_right st x
      refine ⟨⟨k + j * u, ?_⟩, by omega, ?_⟩
      · rw [Nat.add_mul, Nat.add_assoc]
        congr 2
        rw [hu, Nat.mul_assoc, Nat.mul_comm u st]
      · have e : d0 + k * st + j * Nat.lcm st x - n = (d0 + k * st - n) + x * (w * j) := by
          rw [hw, Nat.mul_comm j, Nat.mul_assoc]
          omega
        rw [e, Nat.add_mul_mod_self_left]
        exact b2
theorem X11_meet {S : jS} {R : Nat → Nat} (hR : rw8 R) (hc : ∀ j, j < 8 → S.1 22 j = nI (R j)) : ∃ d0 st, (∀ d, d ≤ 99999 → (cmn R 8 d ↔ ∃ j, d = d0 + j * st)) ∧ d0 < 300000 ∧ f_X11_meet S = some ((if 99999 < d0 then -1 else nI d0), S) := by
  unfold f_X11_meet f_X11_meet_e lp_X11_meet_6
  refine jloop_i (fun i q => ∃ d0 st, (∀ d, d ≤ 99999 → (cmn R i d ↔ ∃ j, d = d0 + j * st)) ∧ d0 < 300000 ∧ 0 < st ∧ st ≤ 100000 ∧ q = (nI d0, nI st, nI i, S)) (fun r => ∃ d0 st, (∀ d, d ≤ 99999 → (cmn R 8 d ↔ ∃ j, d = d0 + j * st)) ∧ d0 < 300000 ∧ r = some ((if 99999 < d0 then -1 else nI d0), S)) 8 (by omega) ?_ ?_ ⟨0, 1, fun d _ => ⟨fun _ => ⟨d, by omega⟩, fun _ h hh => absurd hh (Nat.not_lt_zero h)⟩, by omega, by omega, by omega, rfl⟩
  · rintro i hi _ ⟨d0, st, hI, hd, hst, hst2, rfl⟩
    have hx := hR i hi
    by_cases c : 0 < R i
    · obtain ⟨k, e, k1, k2, k3⟩ := X11_firstShared hd hst hst2 hi c hx S
      have hl : (if 100000 < st / Nat.gcd st (R i) * R i then 100000 else st / Nat.gcd st (R i) * R i) ≤ 100000 := by split <;> omega
      have hl0 : 0 < (if 100000 < st / Nat.gcd st (R i) * R i then 100000 else st / Nat.gcd st (R i) * R i) := by
        have h1 : 0 < st / Nat.gcd st (R i) := Nat.div_pos (Nat.gcd_le_left (R i) hst) (Nat.gcd_pos_of_pos_left (R i) hst)
        have h2 : 0 < st / Nat.gcd st (R i) * R i := Nat.mul_pos h1 c
        split <;> omega
      refine ⟨_, ⟨d0 + k * st, _, cmn_step rfl c hst hst2 hI (fun j hj => (k2 j hj).2) k3, k1, hl0, hl, rfl⟩, fun g => ?_⟩
      dsimp only
      unfold f_X11_meet_6 f_X11_meet_44
      rw [itl q8 (by omega) (by omega), if_pos hi, jld_nI (by omega) (by omega), hc i hi, itg q0 (by omega) (by omega), if_pos c, e, jcl_s, X11_sharedStep hst hst2 c hx, jcl_s, show nI i + 1 = nI (i + 1) from qadd _ 1]
    · refine ⟨_, ⟨d0, st, fun d hd2 => ?_, hd, hst, hst2, rfl⟩, fun g => ?_⟩
      · rw [← hI d hd2]
        constructor
        · exact fun h t ht => h t (by omega)
        · intro h t ht
          by_cases e : t = i
          · subst e
            exact fun q => absurd q c
          · exact h t (by omega)
      · dsimp only
        unfold f_X11_meet_6 f_X11_meet_44
        rw [itl q8 (by omega) (by omega), if_pos hi, jld_nI (by omega) (by omega), hc i hi, itg q0 (by omega) (by omega), if_neg c, show nI i + 1 = nI (i + 1) from qadd _ 1]
  · rintro _ ⟨d0, st, hI, hd, hst, hst2, rfl⟩
    refine ⟨_, ⟨d0, st, hI, hd, rfl⟩, fun g => ?_⟩
    dsimp only
    unfold f_X11_meet_6 f_X11_meet_50 f_X11_meet_61
    rw [if_neg (by decide), itg (show (99999 : Int32) = nI 99999 from rfl) (by omega) (by omega)]
    split <;> rfl
