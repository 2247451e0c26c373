/-! ===== orders: the class ===== -/
theorem pc_or : ∀ s, s < 256 → ∀ i, i < 8 → s.testBit i = false → pc (s ||| 2 ^ i) = pc s + 1 ∧ s < s ||| 2 ^ i ∧ (s ||| 2 ^ i) < 256 ∧ (s ||| 2 ^ i).testBit i = true := by decide +kernel
theorem pc_all : ∀ M, M < 9 → ∀ s, s < 2 ^ M → (pc s ≤ M ∧ ((pc s = M → s = 2 ^ M - 1) ∧ (s = 2 ^ M - 1 → pc s = M))) := by decide +kernel
theorem or_2p {s i M : Nat} (hs : s < 2 ^ M) (hi : i < M) : (s ||| 2 ^ i) < 2 ^ M := Nat.or_lt_two_pow hs (Nat.pow_lt_pow_right (by omega) hi)
def adR (R : Nat → Nat) (p : Nat) : Bool := decide (0 < p) && (decide (p < lvc R) && decide (hH R (p - 1) + 1 = hH R p))
theorem cm_t {ad : Nat → Bool} {G : Nat → Nat} {M s l p : Nat} (h : ad p = true) : dif (2 ^ M - 1) s &&& G l = msk (bC ad G s l p) M := by
  apply Nat.eq_of_testBit_eq
  intro i
  rw [Nat.testBit_and, dif_bit, Nat.testBit_two_pow_sub_one, msk_bit]
  unfold bC
  rw [h, Bool.and_assoc]
  rfl
theorem cm_f {ad : Nat → Bool} {G : Nat → Nat} {M s l p : Nat} (h : ad p = false) : dif (2 ^ M - 1) s = msk (bC ad G s l p) M := by
  apply Nat.eq_of_testBit_eq
  intro i
  rw [dif_bit, Nat.testBit_two_pow_sub_one, msk_bit]
  unfold bC
  rw [h, Bool.not_false, Bool.true_or, Bool.and_true]
theorem X4_comers {S : jS} {R G : Nat → Nat} (hS : stl S R G) {s l : Nat} (hs : s < 2 ^ lvc R) (hl : 0 < pc s → l < lvc R) : f_X4_comers (nI s) (nI l) S = some (nI (msk (bC (adR R) G s l (pc s)) (lvc R)), S) := by
  have lc : lvc R ≤ 8 := cnt_le (lvp R) 8
  have p8 := p2_8 lc
  have p1 : 0 < 2 ^ lvc R := Nat.pow_pos (by omega)
  have pb := pc_8 s (by omega)
  unfold f_X4_comers f_X4_comers_e f_X4_comers_54 f_X4_comers_55 f_X4_comers_76
  rw [J6_bitCount (by omega), jcl_s, hS.1, shl_M _ (by omega), show nI (2 ^ lvc R) - 1 = nI (2 ^ lvc R - 1) from qsub (b := 1) (by omega), dif_nI, itg q0 (by omega) (by omega), itlt (by omega) (by omega), if_pos (show (0 : Int32) = 0 from rfl), if_neg (show ¬ (1 : Int32) = 0 by decide)]
  by_cases c1 : 0 < pc s
  · rw [if_pos c1]
    by_cases c2 : pc s < lvc R
    · have h1 := (hH_1 R (show pc s - 1 < lvc R by omega)).1
      have h2 := (hH_1 R c2).1
      have hl := hl c1
      rw [if_pos c2, show nI (pc s) - 1 = nI (pc s - 1) from qsub (b := 1) (by omega), jld_nI (by omega) (by omega), jld_nI (by omega) (by omega), (hS.2 (pc s - 1) (by omega)).1, (hS.2 (pc s) c2).1, show nI (hH R (pc s - 1)) + 1 = nI (hH R (pc s - 1) + 1) from qadd _ 1, iteq (by omega) (by omega), jld_nI (by omega) (by omega), (hS.2 l hl).2.2, and_nI]
      by_cases c3 : hH R (pc s - 1) + 1 = hH R (pc s)
      · have ha : adR R (pc s) = true := by
          unfold adR
          rw [decide_eq_true c1, decide_eq_true c2, decide_eq_true c3]
          rfl
        rw [if_pos c3, cm_t ha]
      · have ha : adR R (pc s) = false := by
          unfold adR
          rw [decide_eq_false c3, Bool.and_false, Bool.and_false]
        rw [if_neg c3, ← cm_f ha]
    · have ha : adR R (pc s) = false := by
        unfold adR
        rw [decide_eq_false c2, Bool.false_and, Bool.and_false]
      rw [if_neg c2, ← cm_f ha]
  · have ha : adR R (pc s) = false := by
      unfold adR
      rw [decide_eq_false c1, Bool.false_and]
    rw [if_neg c1, ← cm_f ha]
theorem ix_nI (a b i : Nat) : (nI a ||| nI b) * 8 + nI i = nI ((a ||| b) * 8 + i) := by
  rw [or_nI, show (8 : Int32) = nI 8 from rfl, qmul, qadd]
theorem iy_nI (a i : Nat) : nI a * 8 + nI i = nI (a * 8 + i) := by
  rw [show (8 : Int32) = nI 8 from rfl, qmul, qadd]
theorem X4_sumOver {S : jS} {R G : Nat → Nat} (hS : stl S R G) {s v : Nat} (V : Nat → Nat) (hs : s < 2 ^ lvc R) (hv : v < 256) (hT : ∀ i, i < lvc R → v.testBit i = true → S.1 16 ((s ||| 2 ^ i) * 8 + i) = nI (V i)) : f_X4_sumOver (nI s) (nI v) S = some (nI (sF (fun i => if v.testBit i = true then V i else 0) 0 (lvc R)), S) := by
  have lc : lvc R ≤ 8 := cnt_le (lvp R) 8
  have p8 := p2_8 lc
  unfold f_X4_sumOver f_X4_sumOver_e lp_X4_sumOver_5
  refine jloop_u (fun i => (nI s, nI v, nI (sF (fun i => if v.testBit i = true then V i else 0) 0 i), nI i, S)) (lvc R) rfl (by omega) (fun i hi g => ?_) (fun g => ?_)
  · have o := or_2p hs hi
    dsimp only
    unfold f_X4_sumOver_5 f_X4_sumOver_44
    rw [hS.1, itlt (by omega) (by omega), if_pos hi, bit_nI v (by omega) i (by omega), shl_1 i (by omega), ix_nI, jld_nI (by omega) (by omega), show nI i + 1 = nI (i + 1) from qadd _ 1, sF_pre, Nat.zero_add]
    cases c : v.testBit i with
    | false => rw [if_neg (show ¬ bI false = 1 by decide), if_neg nft]; rfl
    | true => rw [if_pos (show bI true = 1 from rfl), if_pos rfl, hT i hi c, qadd]
  · dsimp only
    unfold f_X4_sumOver_5 f_X4_sumOver_50
    rw [hS.1, itlt (by omega) (by omega), if_neg (by omega)]
/-- the class's word for none -/
def eI : Option Nat → Int32
  | none => -1
  | some r => nI r
theorem nI_m1 {a : Nat} (h : a < 2147483648) : ¬ nI a = -1 := by
  intro e
  have : nI a < 0 := by rw [e]; decide
  exact absurd this (nI_pos h)
theorem X4_leastOver {S : jS} {R G : Nat → Nat} (hS : stl S R G) {s v : Nat} (V : Nat → Option Nat) (hs : s < 2 ^ lvc R) (hv : v < 256) (hV : ∀ i r, V i = some r → r ≤ 1000) (hT : ∀ i, i < lvc R → v.testBit i = true → S.1 16 ((s ||| 2 ^ i) * 8 + i) = eI (V i)) : f_X4_leastOver (nI s) (nI v) S = some (eI (mF (fun i => if v.testBit i = true then ad1 (pc s) i (V i) else none) 0 (lvc R)), S) := by
  have lc : lvc R ≤ 8 := cnt_le (lvp R) 8
  have p8 := p2_8 lc
  have pb := pc_8 s (by omega)
  have hle : ∀ m r, mF (fun i => if v.testBit i = true then ad1 (pc s) i (V i) else none) 0 m = some r → r ≤ 1001 := fun m r => mF_le _ 1001 (fun i r e => by
    cases hb : v.testBit i with
    | false => rw [hb, if_neg (by decide)] at e; cases e
    | true =>
      rw [hb, if_pos rfl] at e
      cases e2 : V i with
      | none => rw [e2] at e; cases e
      | some q =>
        rw [e2] at e
        have e : some (if i = pc s then q else q + 1) = some r := e
        have := hV i q e2
        cases e
        split <;> omega) m 0 r
  unfold f_X4_leastOver f_X4_leastOver_e
  rw [J6_bitCount (by omega), jcl_s]
  unfold lp_X4_leastOver_11
  refine jloop_u (fun i => (nI s, nI v, nI (pc s), eI (mF (fun i => if v.testBit i = true then ad1 (pc s) i (V i) else none) 0 i), nI i, S)) (lvc R) rfl (by omega) (fun i hi g => ?_) (fun g => ?_)
  · have o := or_2p hs hi
    have hl := hle i
    dsimp only
    unfold f_X4_leastOver_11 f_X4_leastOver_51 f_X4_leastOver_74 f_X4_leastOver_94 f_X4_leastOver_96
    rw [hS.1, itlt (by omega) (by omega), if_pos hi, bit_nI v (by omega) i (by omega), shl_1 i (by omega), ix_nI, jld_nI (by omega) (by omega), show nI i + 1 = nI (i + 1) from qadd _ 1, mF_pre, Nat.zero_add]
    generalize mF (fun i => if v.testBit i = true then ad1 (pc s) i (V i) else none) 0 i = y at hl
    cases c : v.testBit i with
    | false => rw [if_neg (show ¬ bI false = 1 by decide), if_pos (show (-1 : Int32) = -1 from rfl), if_neg (by decide), omin_n]
    | true =>
      rw [if_pos (show bI true = 1 from rfl), if_pos rfl, hT i hi c]
      cases e : V i with
      | none =>
        rw [if_pos (show eI none = -1 from rfl)]
        show g (nI s, nI v, nI (pc s), eI y, nI (i + 1), S) = g (nI s, nI v, nI (pc s), eI (omin y none), nI (i + 1), S)
        rw [omin_n]
      | some r =>
        have hr := hV i r e
        rw [if_neg (show ¬ eI (some r) = -1 from nI_m1 (by omega)), iteq (by omega) (by omega), show eI (some r) + 1 = nI (r + 1) from qadd r 1, show eI (some r) = nI r from rfl]
        cases y with
        | none =>
          rw [if_pos (show eI none = -1 from rfl)]
          show _ = g (nI s, nI v, nI (pc s), nI (if i = pc s then r else r + 1), nI (i + 1), S)
          by_cases c2 : i = pc s
          · rw [if_pos c2, if_pos c2]
          · rw [if_neg c2, if_neg c2, if_pos (show eI none = -1 from rfl)]
        | some y =>
          have hy := hl y rfl
          rw [if_neg (show ¬ eI (some y) = -1 from nI_m1 (by omega)), show eI (some y) = nI y from rfl]
          show _ = g (nI s, nI v, nI (pc s), nI (mn y (if i = pc s then r else r + 1)), nI (i + 1), S)
          unfold mn
          by_cases c2 : i = pc s
          · rw [if_pos c2, if_pos c2, itlt (by omega) (by omega)]
            by_cases c3 : r < y
            · rw [if_pos c3, if_pos c3]
            · rw [if_neg c3, if_neg c3]
          · rw [if_neg c2, if_neg c2, if_neg (show ¬ nI y = -1 from nI_m1 (by omega)), itlt (by omega) (by omega)]
            by_cases c3 : r + 1 < y
            · rw [if_pos c3, if_pos c3]
            · rw [if_neg c3, if_neg c3]
  · dsimp only
    unfold f_X4_leastOver_11 f_X4_leastOver_102
    rw [hS.1, itlt (by omega) (by omega), if_neg (by omega)]
/-! ===== the class's table ===== -/
def wr (s : Nat) (v : Nat → Int32) : Nat → (Nat → Int32) → Nat → Int32
  | 0, f => f
  | j + 1, f => if s.testBit j = true then upd (wr s v j f) (s * 8 + j) (v j) else wr s v j f
theorem wr_o (s : Nat) (v : Nat → Int32) (f : Nat → Int32) {a : Nat} (ha : a < s * 8 ∨ s * 8 + 8 ≤ a) : ∀ j, j ≤ 8 → wr s v j f a = f a
  | 0, _ => rfl
  | j + 1, h => by
    have ih := wr_o s v f ha j (by omega)
    show (if s.testBit j = true then upd (wr s v j f) (s * 8 + j) (v j) else wr s v j f) a = f a
    cases s.testBit j with
    | false => rw [if_neg (by decide)]; exact ih
    | true => rw [if_pos rfl, upd_n _ _ (by omega)]; exact ih
theorem wr_i (s : Nat) (v : Nat → Int32) (f : Nat → Int32) {i : Nat} (hb : s.testBit i = true) : ∀ j, i < j → wr s v j f (s * 8 + i) = v i
  | 0, h => absurd h (Nat.not_lt_zero i)
  | j + 1, h => by
    show (if s.testBit j = true then upd (wr s v j f) (s * 8 + j) (v j) else wr s v j f) (s * 8 + i) = v i
    by_cases e : i = j
    · subst e
      rw [if_pos hb, upd_s]
    · have ih := wr_i s v f hb j (by omega)
      cases s.testBit j with
      | false => rw [if_neg (by decide)]; exact ih
      | true => rw [if_pos rfl, upd_n _ _ (by omega)]; exact ih
theorem dec_nI {a : Nat} (h : 0 < a) : nI a + (-1) = nI (a - 1) := by
  have : nI a = nI (a - 1) + 1 := by
    rw [show nI (a - 1) + 1 = nI (a - 1 + 1) from qadd _ 1, show a - 1 + 1 = a by omega]
  rw [this, Int32.add_assoc, show (1 : Int32) + (-1) = 0 from by decide, Int32.add_zero]
theorem jsR_st {S : jS} {R G : Nat → Nat} (hS : stl S R G) (f : Nat → Int32) : stl (jsR S 16 f) R G := hS
