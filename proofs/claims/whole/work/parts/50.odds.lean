/-! ===== odds: the sum over the sets of those who have their birthday ===== -/
def sm (f : Nat → Nat) : Nat → Nat
  | 0 => 0
  | n + 1 => sm f n + f n
theorem sm_c {f g : Nat → Nat} : ∀ n, (∀ i, i < n → f i = g i) → sm f n = sm g n
  | 0, _ => rfl
  | n + 1, h => by
    show sm f n + f n = sm g n + g n
    rw [sm_c n (fun i hi => h i (by omega)), h n (by omega)]
theorem sm_add (f : Nat → Nat) (m : Nat) : ∀ n, sm f (m + n) = sm f m + sm (fun i => f (m + i)) n
  | 0 => rfl
  | n + 1 => by
    show sm f (m + n) + f (m + n) = sm f m + (sm (fun i => f (m + i)) n + f (m + n))
    rw [sm_add f m n, Nat.add_assoc]
theorem sm_lin (f g : Nat → Nat) (a b : Nat) : ∀ n, sm (fun s => a * f s + b * g s) n = a * sm f n + b * sm g n
  | 0 => by show 0 = a * 0 + b * 0; rw [Nat.mul_zero, Nat.mul_zero]
  | n + 1 => by
    show sm (fun s => a * f s + b * g s) n + (a * f n + b * g n) = a * (sm f n + f n) + b * (sm g n + g n)
    rw [sm_lin f g a b n, Nat.mul_add, Nat.mul_add]
    omega
theorem sm_pl (f g : Nat → Nat) : ∀ n, sm (fun s => f s + g s) n = sm f n + sm g n
  | 0 => rfl
  | n + 1 => by
    show sm (fun s => f s + g s) n + (f n + g n) = (sm f n + f n) + (sm g n + g n)
    rw [sm_pl f g n]
    omega
def grw (x : Nat) : Nat := if x = 0 then x else if x < 300 then x + 1 else x
section od
variable (R : Nat → Nat) (k n o : Nat)
def vl (h : Nat) (c : Bool) : Nat := if c = true then grw (R h) else R h
def pv (h : Nat) (c : Bool) : Nat := match h with
  | 0 => 0
  | h + 1 => vl R h c
def ww (h : Nat) (c : Bool) : Nat := if R h = 0 then (if c = true then 0 else 1) else (if c = true then o else 10 - o)
def okk (a b : Nat) : Nat := if mayE k n a b = true then 1 else 0
def lb (h s : Nat) : Bool := match h with
  | 0 => false
  | h + 1 => s.testBit h
def pP : Nat → Nat → Nat
  | 0, _ => 1
  | h + 1, s => pP h s * (ww R o h (s.testBit h) * okk k n (pv R h (lb h s)) (vl R h (s.testBit h)))
def cC (h : Nat) (c : Bool) : Nat := sm (fun s => if lb h s = c then pP R k n o h s else 0) (2 ^ h)
end od
theorem tb_low {s h i : Nat} (hi : i < h) : (2 ^ h + s).testBit i = s.testBit i := by
  exact Nat.testBit_two_pow_add_gt hi s
theorem pP_low (R : Nat → Nat) (k n o : Nat) {h : Nat} (s : Nat) : ∀ i, i ≤ h → pP R k n o i (2 ^ h + s) = pP R k n o i s
  | 0, _ => rfl
  | i + 1, hi => by
    have e : lb i (2 ^ h + s) = lb i s := by
      cases i with
      | zero => rfl
      | succ i => exact tb_low (by omega)
    show pP R k n o i (2 ^ h + s) * _ = pP R k n o i s * _
    rw [pP_low R k n o s i (by omega), tb_low (show i < h by omega), e]
theorem lb_low {h s : Nat} : lb h (2 ^ h + s) = lb h s := by
  cases h with
  | zero => rfl
  | succ h => exact tb_low (by omega)
theorem tb_lt {s h : Nat} (hs : s < 2 ^ h) : s.testBit h = false := Nat.testBit_lt_two_pow hs
theorem tb_top {s h : Nat} (hs : s < 2 ^ h) : (2 ^ h + s).testBit h = true := by
  rw [Nat.testBit_two_pow_add_eq, tb_lt hs]
  rfl
theorem cC_s (R : Nat → Nat) (k n o h : Nat) (c : Bool) : cC R k n o (h + 1) c = ww R o h c * (okk k n (pv R h false) (vl R h c) * cC R k n o h false + okk k n (pv R h true) (vl R h c) * cC R k n o h true) := by
  have key : sm (fun s => pP R k n o h s * (ww R o h c * okk k n (pv R h (lb h s)) (vl R h c))) (2 ^ h) = ww R o h c * (okk k n (pv R h false) (vl R h c) * cC R k n o h false + okk k n (pv R h true) (vl R h c) * cC R k n o h true) := by
    rw [Nat.mul_add, ← Nat.mul_assoc, ← Nat.mul_assoc]
    unfold cC
    rw [← sm_lin]
    refine sm_c _ (fun s hs => ?_)
    cases lb h s
    · rw [if_pos rfl, if_neg (by decide), Nat.mul_zero, Nat.add_zero, Nat.mul_comm]
    · rw [if_neg (by decide), if_pos rfl, Nat.mul_zero, Nat.zero_add, Nat.mul_comm]
  rw [← key]
  unfold cC
  rw [show 2 ^ (h + 1) = 2 ^ h + 2 ^ h by rw [Nat.pow_succ]; omega, sm_add]
  have z : ∀ m, sm (fun _ => 0) m = 0 := by
    intro m
    induction m with
    | zero => rfl
    | succ m ih => show sm (fun _ => 0) m + 0 = 0; rw [ih]
  cases c
  · have e2 : sm (fun i => if lb (h + 1) (2 ^ h + i) = false then pP R k n o (h + 1) (2 ^ h + i) else 0) (2 ^ h) = 0 := by
      rw [sm_c (g := fun _ => 0) _ (fun s hs => ?_), z]
      show (if (2 ^ h + s).testBit h = false then _ else 0) = 0
      rw [tb_top hs]
      rfl
    rw [e2, Nat.add_zero]
    refine sm_c _ (fun s hs => ?_)
    show (if s.testBit h = false then pP R k n o h s * (ww R o h (s.testBit h) * okk k n (pv R h (lb h s)) (vl R h (s.testBit h))) else 0) = _
    rw [tb_lt hs, if_pos rfl]
  · have e2 : sm (fun i => if lb (h + 1) i = true then pP R k n o (h + 1) i else 0) (2 ^ h) = 0 := by
      rw [sm_c (g := fun _ => 0) _ (fun s hs => ?_), z]
      show (if s.testBit h = true then _ else 0) = 0
      rw [tb_lt hs]
      rfl
    rw [e2, Nat.zero_add]
    refine sm_c _ (fun s hs => ?_)
    show (if (2 ^ h + s).testBit h = true then pP R k n o h (2 ^ h + s) * (ww R o h ((2 ^ h + s).testBit h) * okk k n (pv R h (lb h (2 ^ h + s))) (vl R h ((2 ^ h + s).testBit h))) else 0) = _
    rw [tb_top hs, if_pos rfl, pP_low R k n o s h (Nat.le_refl h), lb_low]
theorem cC_sum (R : Nat → Nat) (k n o h : Nat) : cC R k n o h false + cC R k n o h true = sm (fun s => pP R k n o h s) (2 ^ h) := by
  unfold cC
  rw [← sm_pl]
  refine sm_c _ (fun s hs => ?_)
  cases lb h s
  · rw [if_pos rfl, if_neg (by decide), Nat.add_zero]
  · rw [if_neg (by decide), if_pos rfl, Nat.zero_add]
theorem okk_le (k n a b c : Nat) : okk k n a b * c ≤ c := by
  unfold okk
  split
  · omega
  · omega
theorem cC_le (R : Nat → Nat) (k n : Nat) {o : Nat} (ho : o ≤ 10) : ∀ h, cC R k n o h false + cC R k n o h true ≤ 10 ^ h
  | 0 => Nat.le_refl _
  | h + 1 => by
    have ih := cC_le R k n ho h
    rw [cC_s, cC_s, Nat.pow_succ]
    have a1 := okk_le k n (pv R h false) (vl R h false) (cC R k n o h false)
    have a2 := okk_le k n (pv R h true) (vl R h false) (cC R k n o h true)
    have a3 := okk_le k n (pv R h false) (vl R h true) (cC R k n o h false)
    have a4 := okk_le k n (pv R h true) (vl R h true) (cC R k n o h true)
    have hx : okk k n (pv R h false) (vl R h false) * cC R k n o h false + okk k n (pv R h true) (vl R h false) * cC R k n o h true ≤ 10 ^ h := by omega
    have hy : okk k n (pv R h false) (vl R h true) * cC R k n o h false + okk k n (pv R h true) (vl R h true) * cC R k n o h true ≤ 10 ^ h := by omega
    clear a1 a2 a3 a4 ih
    revert hx hy
    generalize okk k n (pv R h false) (vl R h false) * cC R k n o h false + okk k n (pv R h true) (vl R h false) * cC R k n o h true = x
    generalize okk k n (pv R h false) (vl R h true) * cC R k n o h false + okk k n (pv R h true) (vl R h true) * cC R k n o h true = y
    intro hx hy
    by_cases c : R h = 0
    · have w0 : ww R o h false = 1 := by unfold ww; rw [if_pos c]; rfl
      have w1 : ww R o h true = 0 := by unfold ww; rw [if_pos c]; rfl
      rw [w0, w1, Nat.one_mul, Nat.zero_mul]
      omega
    · have w0 : ww R o h false = 10 - o := by unfold ww; rw [if_neg c]; rfl
      have w1 : ww R o h true = o := by unfold ww; rw [if_neg c]; rfl
      rw [w0, w1]
      have b1 : (10 - o) * x ≤ (10 - o) * 10 ^ h := Nat.mul_le_mul_left _ hx
      have b2 : o * y ≤ o * 10 ^ h := Nat.mul_le_mul_left _ hy
      have b3 : (10 - o) * 10 ^ h + o * 10 ^ h = 10 ^ h * 10 := by
        rw [← Nat.add_mul, Nat.sub_add_cancel ho, Nat.mul_comm]
      omega
theorem X2_tenths {S : jS} {R : Nat → Nat} {k n o : Nat} (hT : tabs S) (hk : k < 6) (hn : n < 10) (hR : rw8 R) (hc : ∀ j, j < 8 → S.1 22 j = nI (R j)) (ho : o ≤ 10) : f_X2_peacefulTenths_r22 (nI (10 * k + n)) (nI o) S = some (lN (cC R k n o 8 false + cC R k n o 8 true), S) := by
  unfold f_X2_peacefulTenths_r22 f_X2_peacefulTenths_r22_e lp_X2_peacefulTenths_r22_15
  refine jloop_u (fun i => (nI (10 * k + n), nI o, nI (pv R i false), nI (pv R i true), lN (cC R k n o i false), lN (cC R k n o i true), nI i, S)) 8 rfl (by omega) (fun i hi g => ?_) (fun g => ?_)
  · have hx := hR i hi
    have hp : ∀ c, pv R i c ≤ 300 := by
      intro c
      cases i with
      | zero => show 0 ≤ 300; omega
      | succ i =>
        have := hR i (by omega)
        show (if c = true then grw (R i) else R i) ≤ 300
        unfold grw
        repeat' split
        all_goals omega
    have hg : grw (R i) ≤ 300 := by
      unfold grw
      repeat' split
      all_goals omega
    dsimp only
    unfold f_X2_peacefulTenths_r22_15 f_X2_peacefulTenths_r22_41
    rw [itl q8 (by omega) (by omega), if_pos hi, jld_nI (by omega) (by omega), hc i hi, itv q0 (by omega) (by omega), itl q300 (by omega) (by omega), show nI (R i) + 1 = nI (R i + 1) from qadd _ 1]
    have tail : f_X2_peacefulTenths_r22_50 (fun x1 x3 x4 x5 x6 x8 x10 S => g (x1, x3, x4, x5, x6, x8, x10, S)) f_X2_peacefulTenths_r22_188 (nI (grw (R i))) (nI (10 * k + n)) (nI o) (nI (pv R i false)) (nI (pv R i true)) (lN (cC R k n o i false)) (lN (cC R k n o i true)) (nI i) (nI (R i)) S = g (nI (10 * k + n), nI o, nI (pv R (i + 1) false), nI (pv R (i + 1) true), lN (cC R k n o (i + 1) false), lN (cC R k n o (i + 1) true), nI (i + 1), S) := by
      unfold f_X2_peacefulTenths_r22_50 f_X2_peacefulTenths_r22_70 f_X2_peacefulTenths_r22_92 f_X2_peacefulTenths_r22_113 f_X2_peacefulTenths_r22_135 f_X2_peacefulTenths_r22_156 f_X2_peacefulTenths_r22_172
      simp only [X2_allows hT hk hn (hp false) hx, X2_allows hT hk hn (hp true) hx, X2_allows hT hk hn (hp false) hg, X2_allows hT hk hn (hp true) hg, jcl_s, ite_b]
      rw [cC_s, cC_s, show pv R (i + 1) false = R i from rfl, show pv R (i + 1) true = grw (R i) from rfl, show vl R i false = R i from rfl, show vl R i true = grw (R i) from rfl, show nI i + 1 = nI (i + 1) from qadd _ 1, show (10 : Int32) - nI o = nI (10 - o) from qsub ho, nI_l (show 10 - o < 2 ^ 31 by omega), nI_l (show o < 2 ^ 31 by omega)]
      unfold okk ww
      simp only [itv q0 (show R i < 2147483648 by omega) (show 0 < 2147483648 by omega)]
      by_cases c : R i = 0
      · simp only [if_pos c]
        cases mayE k n (pv R i false) (R i) <;> cases mayE k n (pv R i true) (R i) <;> cases mayE k n (pv R i false) (grw (R i)) <;> cases mayE k n (pv R i true) (grw (R i)) <;> simp [lN_add, show (0 : Int64) = lN 0 from rfl]
      · simp only [if_neg c]
        cases mayE k n (pv R i false) (R i) <;> cases mayE k n (pv R i true) (R i) <;> cases mayE k n (pv R i false) (grw (R i)) <;> cases mayE k n (pv R i true) (grw (R i)) <;> simp [lN_add, lN_mul, show (0 : Int64) = lN 0 from rfl, Nat.mul_comm]
    by_cases c : R i = 0
    · rw [if_pos c]
      rw [show grw (R i) = R i by unfold grw; rw [if_pos c]] at tail
      exact tail
    · rw [if_neg c]
      by_cases c2 : R i < 300
      · rw [if_pos c2]
        rw [show grw (R i) = R i + 1 by unfold grw; rw [if_neg c, if_pos c2]] at tail
        exact tail
      · rw [if_neg c2]
        rw [show grw (R i) = R i by unfold grw; rw [if_neg c, if_neg c2]] at tail
        exact tail
  · dsimp only
    unfold f_X2_peacefulTenths_r22_15 f_X2_peacefulTenths_r22_188
    rw [if_neg (by decide), lN_add]
