/-! ===== tests of numbers ===== -/
section itq
variable {α : Type} {a b n : Nat} {l : Int32}
theorem itlt (ha : a < 2147483648) (hb : b < 2147483648) (x y : α) : (if nI a < nI b then x else y) = if a < b then x else y := by simp only [qlt ha hb]
theorem iteq (ha : a < 2147483648) (hb : b < 2147483648) (x y : α) : (if nI a = nI b then x else y) = if a = b then x else y := by simp only [qeq ha hb]
theorem itl (hl : l = nI n) (ha : a < 2147483648) (hn : n < 2147483648) (x y : α) : (if nI a < l then x else y) = if a < n then x else y := by rw [hl]; exact itlt ha hn x y
theorem itg (hl : l = nI n) (ha : a < 2147483648) (hn : n < 2147483648) (x y : α) : (if l < nI a then x else y) = if n < a then x else y := by rw [hl]; exact itlt hn ha x y
theorem itv (hl : l = nI n) (ha : a < 2147483648) (hn : n < 2147483648) (x y : α) : (if nI a = l then x else y) = if a = n then x else y := by rw [hl]; exact iteq ha hn x y
end itq
/-! ===== sets of houses as numbers below 256 ===== -/
theorem or_nI (a b : Nat) : nI a ||| nI b = nI (a ||| b) := by
  apply Int32.toBitVec_inj.1
  show BitVec.ofNat 32 a ||| BitVec.ofNat 32 b = BitVec.ofNat 32 (a ||| b)
  apply BitVec.eq_of_getLsbD_eq
  intro i hi
  simp [hi]
theorem and_nI (a b : Nat) : nI a &&& nI b = nI (a &&& b) := by
  apply Int32.toBitVec_inj.1
  show BitVec.ofNat 32 a &&& BitVec.ofNat 32 b = BitVec.ofNat 32 (a &&& b)
  apply BitVec.eq_of_getLsbD_eq
  intro i hi
  simp [hi]
theorem xor_nI (a b : Nat) : nI a ^^^ nI b = nI (a ^^^ b) := by
  apply Int32.toBitVec_inj.1
  show BitVec.ofNat 32 a ^^^ BitVec.ofNat 32 b = BitVec.ofNat 32 (a ^^^ b)
  apply BitVec.eq_of_getLsbD_eq
  intro i hi
  simp [hi]
/-- a set without another -/
def dif (a b : Nat) : Nat := a ^^^ (a &&& b)
theorem dif_nI (a b : Nat) : nI a &&& (nI b ^^^ (-1)) = nI (dif a b) := by
  unfold dif
  rw [← xor_nI, ← and_nI]
  apply Int32.toBitVec_inj.1
  rw [Int32.toBitVec_and, Int32.toBitVec_xor, Int32.toBitVec_xor, Int32.toBitVec_and]
  generalize (nI a).toBitVec = u
  generalize (nI b).toBitVec = w
  have e : (-1 : Int32).toBitVec = BitVec.allOnes 32 := by decide
  rw [e]
  apply BitVec.eq_of_getLsbD_eq
  intro i hi
  simp only [BitVec.getLsbD_and, BitVec.getLsbD_xor, BitVec.getLsbD_allOnes, hi, decide_true]
  cases u.getLsbD i <;> cases w.getLsbD i <;> rfl
theorem dif_bit (a b i : Nat) : (dif a b).testBit i = (a.testBit i && !b.testBit i) := by
  unfold dif
  rw [Nat.testBit_xor, Nat.testBit_and]
  cases a.testBit i <;> cases b.testBit i <;> rfl
theorem shl_1 : ∀ i, i < 31 → (1 : Int32) <<< (nI i &&& 31) = nI (2 ^ i) := by decide +kernel
theorem shr_nI : ∀ a, a < 512 → ∀ i, i < 9 → nI a >>> (nI i &&& 31) = nI (a >>> i) := by decide +kernel
theorem bit_nI : ∀ a, a < 512 → ∀ i, i < 9 → (nI a >>> (nI i &&& 31)) &&& 1 = bI (a.testBit i) := by decide +kernel
def pcr : Nat → Nat → Nat
  | 0, _ => 0
  | n + 1, a => a % 2 + pcr n (a / 2)
def pc (a : Nat) : Nat := pcr 9 a
theorem pc_half : ∀ x, x < 512 → pc x = x % 2 + pc (x / 2) := by decide +kernel
theorem pc_le : ∀ x, x < 512 → pc x ≤ 9 := by decide +kernel
theorem J6_val : ∀ a, a < 256 → (f_J6_bitCount_0f7a4 (nI a) (fun _ _ => 0, fun _ _ => 0)).elim 0 Prod.fst = nI (pc a) := by decide +kernel
theorem J6_bitCount {a : Nat} (ha : a < 256) (S : jS) : f_J6_bitCount_0f7a4 (nI a) S = some (nI (pc a), S) := by
  rw [← J6_val a ha]
  rfl
theorem half_nI {x : Nat} (hx : x < 512) : nI x >>> (1 &&& 31) = nI (x / 2) := by
  have := shr_nI x hx 1 (by omega)
  rw [Nat.shiftRight_eq_div_pow] at this
  exact this
theorem par_nI (x : Nat) : nI x &&& 1 = nI (x % 2) := by
  rw [q1, and_nI]
  congr 1
  exact Nat.and_two_pow_sub_one_eq_mod x 1
theorem X12_bits {a : Nat} (ha : a < 512) (S : jS) : f_X12_bits (nI a) S = some (nI (pc a), S) := by
  unfold f_X12_bits f_X12_bits_e lp_X12_bits_4
  rw [q0]
  refine jloop_wf (fun q => ∃ s x, x < 512 ∧ q = (nI s, nI x, S)) (fun q => q.2.1.toNatClampNeg) (fun q => some (q.1 + nI (pc q.2.1.toNatClampNeg), S)) ?_ jN (nI 0, nI a, S) ⟨0, a, ha, rfl⟩ (jN_big (by show (nI a).toNatClampNeg < _; rw [qcl (by omega)]; omega)) |>.trans ?_
  · rintro _ ⟨s, x, hx, rfl⟩ g hg
    dsimp only
    unfold f_X12_bits_4
    rw [qcl (by omega)]
    by_cases h : 0 < x
    · rw [if_pos (by rw [q0, qlt (by omega) (by omega)]; exact h), half_nI hx, par_nI, qadd]
      dsimp only
      rw [hg _ ⟨s + x % 2, x / 2, by omega, rfl⟩ (by dsimp only; rw [qcl (by omega), qcl (by omega)]; omega)]
      dsimp only
      rw [qcl (by omega), qadd, qadd, pc_half x hx, Nat.add_assoc]
    · have e : x = 0 := by omega
      subst e
      rw [if_neg (by decide)]
      unfold f_X12_bits_21
      rw [show pc 0 = 0 from rfl, qadd, Nat.add_zero]
  · dsimp only
    rw [qcl (by omega), qadd, Nat.zero_add]
/-! ===== who lives ===== -/
def msk (p : Nat → Bool) : Nat → Nat
  | 0 => 0
  | n + 1 => msk p n ||| (if p n = true then 2 ^ n else 0)
def cnt (p : Nat → Bool) : Nat → Nat
  | 0 => 0
  | n + 1 => cnt p n + (if p n = true then 1 else 0)
theorem msk_lt (p : Nat → Bool) : ∀ n, msk p n < 2 ^ n
  | 0 => by show 0 < 1; omega
  | n + 1 => by
    have h := msk_lt p n
    have e : 2 ^ (n + 1) = 2 ^ n * 2 := Nat.pow_succ 2 n
    show msk p n ||| (if p n = true then 2 ^ n else 0) < 2 ^ (n + 1)
    apply Nat.or_lt_two_pow
    · omega
    · split <;> omega
theorem msk_bit (p : Nat → Bool) : ∀ n i, (msk p n).testBit i = (decide (i < n) && p i)
  | 0, i => by
    show Nat.testBit 0 i = _
    rw [Nat.zero_testBit, decide_eq_false (by omega)]
    rfl
  | n + 1, i => by
    show (msk p n ||| (if p n = true then 2 ^ n else 0)).testBit i = _
    rw [Nat.testBit_or, msk_bit p n i]
    by_cases h : i = n
    · subst h
      rw [decide_eq_false (by omega), decide_eq_true (by omega)]
      cases p i
      · simp
      · simp
    · have e : decide (i < n + 1) = decide (i < n) := by congr 1; apply propext; omega
      have e2 : (if p n = true then 2 ^ n else 0 : Nat).testBit i = false := by
        split
        · rw [Nat.testBit_two_pow, decide_eq_false (by omega)]
        · exact Nat.zero_testBit i
      rw [e, e2, Bool.or_false]
theorem pc_msk (p : Nat → Bool) : pc (msk p 8) = cnt p 8 := by
  have key : ∀ a b c d e f g h : Bool, pc (((((((((0 ||| (if a = true then 2 ^ 0 else 0)) ||| (if b = true then 2 ^ 1 else 0)) ||| (if c = true then 2 ^ 2 else 0)) ||| (if d = true then 2 ^ 3 else 0)) ||| (if e = true then 2 ^ 4 else 0)) ||| (if f = true then 2 ^ 5 else 0)) ||| (if g = true then 2 ^ 6 else 0)) ||| (if h = true then 2 ^ 7 else 0)) : Nat) = ((((((((0 + (if a = true then 1 else 0)) + (if b = true then 1 else 0)) + (if c = true then 1 else 0)) + (if d = true then 1 else 0)) + (if e = true then 1 else 0)) + (if f = true then 1 else 0)) + (if g = true then 1 else 0)) + (if h = true then 1 else 0)) := by decide +kernel
  exact key (p 0) (p 1) (p 2) (p 3) (p 4) (p 5) (p 6) (p 7)
def lvp (B : Nat → Nat) (h : Nat) : Bool := decide (0 < B h)
def lvm (B : Nat → Nat) : Nat := msk (lvp B) 8
def lvc (B : Nat → Nat) : Nat := cnt (lvp B) 8
theorem lvm_lt (B : Nat → Nat) : lvm B < 256 := msk_lt (lvp B) 8
theorem cnt_le (p : Nat → Bool) : ∀ n, cnt p n ≤ n
  | 0 => Nat.le_refl _
  | n + 1 => by
    have h := cnt_le p n
    show cnt p n + (if p n = true then 1 else 0) ≤ n + 1
    split <;> omega
theorem X12_lived {S : jS} {B : Nat → Nat} (hv : vB B) (hm : mB (S.1 42) B) : f_X12_lived S = some (nI (lvm B), S) := by
  unfold f_X12_lived f_X12_lived_e lp_X12_lived_4
  refine jloop_up (fun i => (nI (msk (lvp B) i), nI i, S)) 8 (by omega) (fun i hi g => ?_) (fun g => ?_)
  · have hB := hv.1 i hi
    dsimp only
    unfold f_X12_lived_4 f_X12_lived_27
    rw [if_pos (by rw [q8, qlt (by omega) (by omega)]; exact hi), jld_nI (by omega) (by omega), hm i (by omega), shl_1 i (by omega), itg q0 (by omega) (by omega), or_nI, q0, or_nI, q1, qadd]
    dsimp only
    show (if 0 < B i then _ else _) = g (nI (msk (lvp B) i ||| (if lvp B i = true then 2 ^ i else 0)), nI (i + 1), S)
    unfold lvp
    simp only [decide_eq_true_eq]
    split <;> rfl
  · dsimp only
    unfold f_X12_lived_4 f_X12_lived_35
    rw [if_neg (by decide)]
    rfl
theorem X10_living {S : jS} {B : Nat → Nat} (hv : vB B) (hc : ∀ j, j < 8 → S.1 22 j = nI (B j)) : f_X10_living S = some (nI (lvc B), S) := by
  unfold f_X10_living f_X10_living_e lp_X10_living_4
  refine jloop_up (fun i => (nI (cnt (lvp B) i), nI i, S)) 8 (by omega) (fun i hi g => ?_) (fun g => ?_)
  · have hB := hv.1 i hi
    dsimp only
    unfold f_X10_living_4 f_X10_living_22
    rw [if_pos (by rw [q8, qlt (by omega) (by omega)]; exact hi), jld_nI (by omega) (by omega), hc i hi, itg q0 (by omega) (by omega), q1, qadd, qadd]
    dsimp only
    show (if 0 < B i then _ else _) = g (nI (cnt (lvp B) i + (if lvp B i = true then 1 else 0)), nI (i + 1), S)
    unfold lvp
    simp only [decide_eq_true_eq]
    split <;> rfl
  · dsimp only
    unfold f_X10_living_4 f_X10_living_28
    rw [if_neg (by decide)]
    rfl
theorem X12_lvb {S : jS} {B : Nat → Nat} {α : Type} (E : Int32 → jS → Option α) (hv : vB B) (hm : mB (S.1 42) B) : jcl (f_X12_lived S) (fun v1 S1 => jcl (f_X12_bits v1 S1) E) = E (nI (lvc B)) S := by
  rw [X12_lived hv hm, jcl_s, X12_bits (by have := lvm_lt B; omega), jcl_s]
  unfold lvm lvc
  rw [pc_msk]
/-! ===== rule, count, forget ===== -/
theorem X12_law {S : jS} {B : Nat → Nat} (hm : mB (S.1 42) B) : f_X12_law S = some (nI (10 * B 8 + B 9), S) := by
  unfold f_X12_law f_X12_law_e
  rw [q8, q9, jld_nI (by omega) (by omega), jld_nI (by omega) (by omega), hm 8 (by omega), hm 9 (by omega), q10, qmul, qadd]
theorem cB_law {S : jS} {B : Nat → Nat} (hc : cB S 21 B) (k n : Nat) : cB (jsI S 21 1 (nI (10 * k + n))) 21 (upB (upB B 8 k) 9 n) := by
  obtain ⟨c1, c2, c3, c4, c5, c6, c7, c8⟩ := hc
  have u : ∀ j, j ≠ 8 → j ≠ 9 → upB (upB B 8 k) 9 n j = B j := fun j h1 h2 => by rw [upB_n _ h2, upB_n _ h1]
  refine ⟨fun j hj => ?_, ?_, ?_, ?_, ?_, fun i hi => ?_, fun i hi => ?_, fun i hi => ?_⟩
  · rw [u j (by omega) (by omega)]; exact c1 j hj
  · rw [upB_s, upB_n _ (by omega), upB_s]; rfl
  · rw [u 10 (by omega) (by omega)]; exact c3
  · rw [u 11 (by omega) (by omega)]; exact c4
  · rw [u 12 (by omega) (by omega)]; exact c5
  · rw [u 10 (by omega) (by omega)] at hi
    rw [u _ (by omega) (by omega), u _ (by omega) (by omega), u _ (by omega) (by omega), u _ (by omega) (by omega)]
    exact c6 i hi
  · rw [u 11 (by omega) (by omega)] at hi
    rw [u _ (by omega) (by omega)]
    exact c7 i hi
  · rw [u 12 (by omega) (by omega)] at hi
    obtain ⟨p1, p2⟩ := c8 i hi
    rw [u _ (by omega) (by omega), u (78 + 10 * i) (by omega) (by omega)]
    refine ⟨fun q hq => ?_, p2⟩
    rw [u _ (by omega) (by omega)]
    exact p1 q hq
theorem vB_law {B : Nat → Nat} (hv : vB B) {k n : Nat} (hk : k < 6) (hn : n < 10) : vB (upB (upB B 8 k) 9 n) := by
  obtain ⟨h1, h2, h3, h4, h5, h6, h7, h8, h9⟩ := hv
  have u : ∀ j, j ≠ 8 → j ≠ 9 → upB (upB B 8 k) 9 n j = B j := fun j h1 h2 => by rw [upB_n _ h2, upB_n _ h1]
  refine ⟨fun j hj => ?_, ?_, ?_, ?_, ?_, ?_, fun i hi => ?_, fun i hi => ?_, fun i hi => ?_⟩
  · rw [u j (by omega) (by omega)]; exact h1 j hj
  · rw [upB_n _ (by omega), upB_s]; exact hk
  · rw [upB_s]; exact hn
  · rw [u 10 (by omega) (by omega)]; exact h4
  · rw [u 11 (by omega) (by omega)]; exact h5
  · rw [u 12 (by omega) (by omega)]; exact h6
  · rw [u 10 (by omega) (by omega)] at hi
    rw [u _ (by omega) (by omega), u _ (by omega) (by omega), u _ (by omega) (by omega), u _ (by omega) (by omega)]
    exact h7 i hi
  · rw [u 11 (by omega) (by omega)] at hi
    rw [u _ (by omega) (by omega), u _ (by omega) (by omega), u _ (by omega) (by omega)]
    exact h8 i hi
  · rw [u 12 (by omega) (by omega)] at hi
    obtain ⟨p1, p2⟩ := h9 i hi
    rw [u (77 + 10 * i) (by omega) (by omega), u (78 + 10 * i) (by omega) (by omega)]
    refine ⟨fun q hq => ?_, p2⟩
    rw [u _ (by omega) (by omega)]
    exact p1 q hq
theorem op_rule (x y : Int32) {S : jS} (h : GG S) : O2 (f_X11_rule x y S) (f_X12_rule x y) := by
  obtain ⟨B, T, tl, hR⟩ := id h
  cases hx : (okr x 0 5 && okr y 0 9) with
  | false =>
    refine O2_bad h (-2) ?_ ?_
    · unfold f_X11_rule f_X11_rule_e
      rw [X11_isLaw, jcl_s, hx, ite_b, if_neg (by decide), X11_refuseBad, jcl_s]
    · unfold f_X12_rule f_X12_rule_e
      rw [X12_isLaw, jcl_s, hx, ite_b, if_neg (by decide), X12_bad, jcl_s]
      rfl
  | true =>
    have hx' := hx
    rw [Bool.and_eq_true] at hx'
    obtain ⟨k, -, hk, rfl⟩ := okr_of hx'.1 (by omega)
    obtain ⟨n, -, hn, rfl⟩ := okr_of hx'.2 (by omega)
    obtain ⟨h1, hv, hm, hc, h5⟩ := id hR
    obtain ⟨S1, e1, e2, eo, e21, ec⟩ := X10_remember hv hc
    have hm' : mB ((jsI S1 21 1 (nI (10 * k + n))).1 42) B := by
      show mB (S1.1 42) B
      rw [eo 42 (by omega) (by omega)]
      exact hm
    obtain ⟨f, ef, mf⟩ := X12_keep hv hm'
    refine ⟨nI (10 * B 8 + B 9), jsI S1 21 1 (nI (10 * k + n)), jsR (jsI S1 21 1 (nI (10 * k + n))) 42 (upd (upd f 8 (nI k)) 9 (nI n)), ?_, ?_, upB (upB (kB B) 8 k) 9 n, T, tl, RR_mk hR ?_ ?_ ?_ ?_ ?_⟩
    · unfold f_X11_rule f_X11_rule_e
      rw [X11_isLaw, jcl_s, hx, ite_b, if_pos rfl, e1, jcv_s, hc.2.1, q10, qmul, qadd, jpt_s]
    · unfold f_X12_rule f_X12_rule_e
      rw [X12_isLaw, jcl_s, hx, ite_b, if_pos rfl, X12_law hm', jcl_s, ef, jcv_s, q8, q9, jst_nI (by omega) (by omega), jst_nI (by omega) (by omega), jsI_R, jsI_R]
    · exact e2
    · intro j g1 g2
      rw [jsR_1, if_neg g1, jsI_1, if_neg (by omega)]
      exact eo j (by omega) (by omega)
    · exact vB_law (vB_kB hv) (by omega) (by omega)
    · exact mB_up (mB_up mf 8 k) 9 n
    · exact cB_c (cB_law ec k n) rfl rfl rfl rfl rfl
theorem X12_counted {S : jS} {B T : Nat → Nat} {tl : Nat} (hR : RR S B T tl) {a : Nat} (ha : a ≤ 5) : ∃ v, f_X12_counted (nI a) S = some (v, S) ∧ f_X11_tally (nI a) S = some (v, S) := by
  obtain ⟨h1, hv, hm, hc, -, -, -, -, h9⟩ := hR
  rcases (show a = 0 ∨ a = 1 ∨ a = 2 ∨ a = 3 ∨ a = 4 ∨ a = 5 by omega) with rfl | rfl | rfl | rfl | rfl | rfl
  · refine ⟨nI (lvc B), ?_, ?_⟩
    · show jcl (f_X12_lived S) (fun v2 S1 => jcl (f_X12_bits v2 S1) (fun v4 S3 => some (v4, S3))) = _
      rw [X12_lvb _ hv hm]
    · show jcl (f_X10_living S) (fun v2 S1 => some (v2, S1)) = _
      rw [X10_living hv hc.1, jcl_s]
  · refine ⟨nI (10 * B 8 + B 9), ?_, ?_⟩
    · show jcl (f_X12_law S) (fun v2 S1 => some (v2, S1)) = _
      rw [X12_law hm, jcl_s]
    · show some (S.1 21 1, S) = _
      rw [hc.2.1]
  · refine ⟨nI (B 10), ?_, ?_⟩
    · show some (S.1 42 10, S) = _
      rw [hm 10 (by omega)]
    · show some (S.1 21 3, S) = _
      rw [hc.2.2.1]
  · refine ⟨nI (B 11), ?_, ?_⟩
    · show some (S.1 42 11, S) = _
      rw [hm 11 (by omega)]
    · show some (S.1 21 5, S) = _
      rw [hc.2.2.2.1]
  · refine ⟨nI (B 12), ?_, ?_⟩
    · show some (S.1 42 12, S) = _
      rw [hm 12 (by omega)]
    · show some (S.1 21 6, S) = _
      rw [hc.2.2.2.2.1]
  · refine ⟨nI tl, ?_, ?_⟩
    · show some (S.1 41 18, S) = _
      rw [h9.2.2.1]
    · show some (S.1 18 1, S) = _
      rw [h9.2.1]
theorem op_count (x : Int32) {S : jS} (h : GG S) : O2 (f_X11_count x S) (f_X12_count x) := by
  cases hx : okr x 0 5 with
  | false =>
    refine O2_bad h (-2) ?_ ?_
    · unfold f_X11_count f_X11_count_e f_X11_count_9
      rw [q5, rng0 x 5 (by omega), hx, if_neg (by decide), X11_refuseBad, jcl_s]
    · unfold f_X12_count f_X12_count_e f_X12_count_26
      rw [show f_X12_in x.toInt64 0 5 _ = some (bI (okr x 0 5), _) from X12_inN x 0 5 (by omega) (by omega) _, jcl_s, hx, ite_b, if_neg (by decide), X12_bad, jcl_s]
      rfl
  | true =>
    obtain ⟨a, -, ha, rfl⟩ := okr_of hx (by omega)
    obtain ⟨B, T, tl, hR⟩ := id h
    obtain ⟨v, e1, e2⟩ := X12_counted hR ha
    refine ⟨v, S, S, ?_, ?_, h⟩
    · unfold f_X11_count f_X11_count_e
      rw [q5, rng0 _ 5 (by omega), hx, if_pos rfl, e2, jcl_s]
    · unfold f_X12_count f_X12_count_e f_X12_count_26
      rw [show f_X12_in (nI a).toInt64 0 5 _ = some (bI (okr (nI a) 0 5), _) from X12_inN (nI a) 0 5 (by omega) (by omega) _, jcl_s, hx, ite_b, if_pos rfl, e1, jcl_s]
