/-! ===== ranges, bits, refusals ===== -/
def bI (b : Bool) : Int32 := if b = true then 1 else 0
theorem bI_t : bI true = 1 := rfl
theorem bI_f : bI false = 0 := rfl
theorem bI_0 (b : Bool) : (bI b = 0) = (b = false) := by cases b <;> simp [bI]
theorem bI_1 (b : Bool) : (bI b = 1) = (b = true) := by cases b <;> simp [bI]
theorem jzr_b (b : Bool) (S : jS) : jzr (bI b) S = some (bI b, S) := by
  cases b <;> rfl
theorem jzr_1 (S : jS) : jzr 1 S = some (bI true, S) := rfl
theorem jzr_0 (S : jS) : jzr 0 S = some (bI false, S) := rfl
theorem ite_b {α : Type} (b : Bool) (x y : α) : (if bI b = 0 then x else y) = if b = true then y else x := by cases b <;> simp [bI]
def okr (x : Int32) (lo hi : Nat) : Bool := decide ((lo : Int) ≤ x.toInt ∧ x.toInt ≤ (hi : Int))
theorem okr_of {x : Int32} {lo hi : Nat} (h : okr x lo hi = true) (hh : hi < 2147483648) : ∃ a, lo ≤ a ∧ a ≤ hi ∧ x = nI a := by
  unfold okr at h
  rw [decide_eq_true_eq] at h
  have h0 : ¬ x < 0 := by
    rw [Int32.lt_iff_toInt_lt]
    show ¬ x.toInt < 0
    omega
  obtain ⟨j, hj, rfl⟩ := nI_of h0
  rw [nI_toInt hj] at h
  exact ⟨j, by omega, by omega, rfl⟩
theorem okr_nI {a lo hi : Nat} (ha : a < 2147483648) : okr (nI a) lo hi = decide (lo ≤ a ∧ a ≤ hi) := by
  unfold okr
  rw [nI_toInt ha]
  congr 1
  apply propext
  omega
theorem lgn (x y : Int64) : (lg_cmp x y < 0) = (x.toInt < y.toInt) := by
  unfold lg_cmp
  simp only [gt_iff_lt, Int64.lt_iff_toInt_lt, ← Int64.toInt_inj]
  apply propext
  split
  · exact ⟨fun h => absurd h (by decide), fun h => by omega⟩
  · split
    · exact ⟨fun h => absurd h (by decide), fun h => by omega⟩
    · exact ⟨fun _ => by omega, fun _ => by decide⟩
theorem lgp (x y : Int64) : (0 < lg_cmp x y) = (y.toInt < x.toInt) := by
  unfold lg_cmp
  simp only [gt_iff_lt, Int64.lt_iff_toInt_lt, ← Int64.toInt_inj]
  apply propext
  split
  · exact ⟨fun _ => by omega, fun _ => by decide⟩
  · split
    · exact ⟨fun h => absurd h (by decide), fun h => by omega⟩
    · exact ⟨fun h => absurd h (by decide), fun h => by omega⟩
theorem X12_in (x : Int32) (lo hi : Int64) (S : jS) : f_X12_in x.toInt64 lo hi S = some (bI (decide (lo.toInt ≤ x.toInt ∧ x.toInt ≤ hi.toInt)), S) := by
  unfold f_X12_in f_X12_in_e f_X12_in_17 f_X12_in_18
  have e : x.toInt64.toInt = x.toInt := Int32.toInt_toInt64 x
  simp only [lgn, lgp, e, jzr_1, jzr_0]
  by_cases h1 : lo.toInt ≤ x.toInt
  · rw [if_neg (by omega)]
    by_cases h2 : x.toInt ≤ hi.toInt
    · rw [if_neg (by omega), decide_eq_true ⟨h1, h2⟩]
    · rw [if_pos (by omega), decide_eq_false (fun h => h2 h.2)]
  · rw [if_pos (by omega), decide_eq_false (fun h => h1 h.1)]
theorem X12_isHouse (x : Int32) (S : jS) : f_X12_isHouse x S = some (bI (okr x 0 7), S) := by
  unfold f_X12_isHouse f_X12_isHouse_e
  rw [X12_in, jcl_s, jzr_b]
  rfl
theorem X12_isNumber (x : Int32) (S : jS) : f_X12_isNumber x S = some (bI (okr x 1 300), S) := by
  unfold f_X12_isNumber f_X12_isNumber_e
  rw [X12_in, jcl_s, jzr_b]
  rfl
theorem X12_isLaw (x y : Int32) (S : jS) : f_X12_isLaw x y S = some (bI (okr x 0 5 && okr y 0 9), S) := by
  unfold f_X12_isLaw f_X12_isLaw_e f_X12_isLaw_28 f_X12_isLaw_29
  simp only [X12_in, jcl_s, ite_b, jzr_1, jzr_0]
  show (if okr x 0 5 = true then (if okr y 0 9 = true then some (bI true, S) else some (bI false, S)) else some (bI false, S)) = _
  cases okr x 0 5 <;> cases okr y 0 9 <;> rfl
theorem i32_lt_lit (x : Int32) (n : Nat) (hn : n < 2147483648) : (x < nI n) = (x.toInt < (n : Int)) := propext (by rw [Int32.lt_iff_toInt_lt, nI_toInt hn])
theorem i32_gt_lit (x : Int32) (n : Nat) (hn : n < 2147483648) : (nI n < x) = ((n : Int) < x.toInt) := propext (by rw [Int32.lt_iff_toInt_lt, nI_toInt hn])
theorem X11_isHouse (x : Int32) (S : jS) : f_X11_isHouse x S = some (bI (okr x 0 7), S) := by
  unfold f_X11_isHouse f_X11_isHouse_e
  simp (disch := omega) only [q0, q8, i32_lt_lit]
  unfold okr
  by_cases h1 : x.toInt < ((0 : Nat) : Int)
  · rw [if_pos h1, decide_eq_false (by omega)]; rfl
  · rw [if_neg h1]
    by_cases h2 : x.toInt < ((8 : Nat) : Int)
    · rw [if_pos h2, decide_eq_true (by omega)]; rfl
    · rw [if_neg h2, decide_eq_false (by omega)]; rfl
theorem X11_isNumber (x : Int32) (S : jS) : f_X11_isNumber x S = some (bI (okr x 1 300), S) := by
  unfold f_X11_isNumber f_X11_isNumber_e
  simp (disch := omega) only [q1, q300, i32_lt_lit, i32_gt_lit]
  unfold okr
  by_cases h1 : x.toInt < ((1 : Nat) : Int)
  · rw [if_pos h1, decide_eq_false (by omega)]; rfl
  · rw [if_neg h1]
    by_cases h2 : ((300 : Nat) : Int) < x.toInt
    · rw [if_pos h2, decide_eq_false (by omega)]; rfl
    · rw [if_neg h2, decide_eq_true (by omega)]; rfl
theorem X11_isLaw (x y : Int32) (S : jS) : f_X11_isLaw x y S = some (bI (okr x 0 5 && okr y 0 9), S) := by
  unfold f_X11_isLaw f_X11_isLaw_e
  simp (disch := omega) only [q0, q6, q9, i32_lt_lit, i32_gt_lit]
  unfold okr
  by_cases h1 : x.toInt < ((0 : Nat) : Int)
  · rw [if_pos h1, decide_eq_false (p := ((0 : Nat) : Int) ≤ x.toInt ∧ _) (by omega)]; rfl
  · rw [if_neg h1]
    by_cases h2 : x.toInt < ((6 : Nat) : Int)
    · rw [if_pos h2, decide_eq_true (p := ((0 : Nat) : Int) ≤ x.toInt ∧ _) (by omega)]
      by_cases h3 : y.toInt < ((0 : Nat) : Int)
      · rw [if_pos h3, decide_eq_false (by omega)]; rfl
      · rw [if_neg h3]
        by_cases h4 : ((9 : Nat) : Int) < y.toInt
        · rw [if_pos h4, decide_eq_false (by omega)]; rfl
        · rw [if_neg h4, decide_eq_true (by omega)]; rfl
    · rw [if_neg h2, decide_eq_false (p := ((0 : Nat) : Int) ≤ x.toInt ∧ _) (by omega)]; rfl
theorem X11_isBit (x : Int32) (S : jS) : f_X11_isBit x S = some (bI (okr x 0 1), S) := by
  unfold f_X11_isBit f_X11_isBit_e f_X11_isBit_9 f_X11_isBit_14
  rcases qcase x 1 (by omega) with h | h | ⟨a, ha, rfl⟩
  · rw [if_neg (show ¬ x = 0 from qneg (a := 0) (by omega) h), if_neg (show ¬ x = 1 from qneg (a := 1) (by omega) h)]
    have : okr x 0 1 = false := by
      unfold okr
      rw [Int32.lt_iff_toInt_lt] at h
      have h : x.toInt < 0 := h
      exact decide_eq_false (by omega)
    rw [this]; rfl
  · have h1 : (1 : Int) < x.toInt := by
      rw [Int32.lt_iff_toInt_lt, nI_toInt (by omega)] at h
      exact h
    have e0 : ¬ x = 0 := fun e => by rw [e] at h1; exact absurd h1 (by decide)
    have e1 : ¬ x = 1 := fun e => by rw [e] at h1; exact absurd h1 (by decide)
    rw [if_neg e0, if_neg e1]
    have : okr x 0 1 = false := by
      unfold okr
      exact decide_eq_false (by omega)
    rw [this]; rfl
  · rcases (show a = 0 ∨ a = 1 by omega) with rfl | rfl <;> rfl
theorem X11_bit (b : Bool) (S : jS) : f_X11_bit (bI b) S = some (bI b, S) := by cases b <;> rfl
/-! ===== who may live beside whom ===== -/
def dvs (a b : Nat) : Bool := decide (b % a = 0)
def pln (a b : Nat) : Bool := decide (a = b) || (!dvs a b && !dvs b a)
def evn (a b : Nat) : Bool := decide ((a + b) % 2 = 0)
def prm (x : Nat) : Bool := decide (pt x = 1)
def sqt (x : Nat) : Nat → Nat → Nat
  | 0, r => r
  | m + 1, r => if r * r < x then sqt x m (r + 1) else r
def sqr (x : Nat) : Bool := decide (sqt x 18 1 * sqt x 18 1 = x)
def may (k n a b : Nat) : Bool :=
  if k = 1 then pln a b && evn a b
  else if k = 2 then pln a b && (!prm a && !prm b)
  else if k = 3 then (pln a b && evn a b) || (sqr a && sqr b)
  else if k = 4 then pln a b && decide (b + n ≤ a ∨ a + n ≤ b)
  else if k = 5 then (pln a b && (!prm a && !prm b)) || (decide (pt a = b) && decide (pt b = a))
  else pln a b
/-- what the tables hold -/
def tabs (S : jS) : Prop := ∀ x, x ≤ 300 → S.1 2 x = nI (pt x) ∧ S.1 3 x = bI (decide (0 < x) && sqr x) ∧ S.1 46 x = nI (pt x)
theorem sq_tab : ∀ x, x < 301 → sqO 1 17 (fun _ => 0) x = bI (decide (0 < x) && sqr x) := by decide +kernel
theorem X12_divides {a b : Nat} (ha : 0 < a) (ha2 : a ≤ 300) (hb : b ≤ 300) (S : jS) : f_X12_divides (nI a) (nI b) S = some (bI (dvs a b), S) := by
  unfold f_X12_divides f_X12_divides_e f_X12_divides_11 dvs
  have hm := Nat.mod_lt b ha
  rw [jrm_nI (by omega) ha (by omega)]
  simp (disch := omega) only [q0, qeq]
  by_cases h : b % a = 0
  · rw [if_pos h, decide_eq_true h]; rfl
  · rw [if_neg h, decide_eq_false h]; rfl
theorem X12_isPrime {S : jS} (hT : tabs S) {x : Nat} (hx : x ≤ 300) : f_X12_isPrime (nI x) S = some (bI (prm x), S) := by
  unfold f_X12_isPrime f_X12_isPrime_e f_X12_isPrime_15 prm
  have hp := pt_le x
  rw [jld_nI (by omega) (by omega), (hT x hx).2.2]
  simp (disch := omega) only [q1, qeq]
  by_cases h : pt x = 1
  · rw [if_pos h, decide_eq_true h]; rfl
  · rw [if_neg h, decide_eq_false h]; rfl
theorem sqt_step (x m r : Nat) : sqt x (m + 1) r = if r * r < x then sqt x m (r + 1) else r := rfl
theorem X12_isSquare_2 {k15 : Int32 → Int32 → jS → Option (Int32 × jS)} {x : Nat} (hx : x ≤ 300) (m r : Nat) (hr : r + m = 19) (S : jS) : lp_X12_isSquare_2 k15 (nI x) (nI r) S = k15 (nI x) (nI (sqt x m r)) S := by
  unfold lp_X12_isSquare_2
  refine jloop_wf (fun a => a.1 = nI x ∧ a.2.2 = S ∧ ∃ r, r ≤ 19 ∧ a.2.1 = nI r) (fun a => 19 - a.2.1.toNatClampNeg) (fun a => k15 (nI x) (nI (sqt x (19 - a.2.1.toNatClampNeg) a.2.1.toNatClampNeg)) S) ?_ jN (nI x, nI r, S) ⟨rfl, rfl, r, by omega, rfl⟩ (jN_big (by show 19 - (nI r).toNatClampNeg < _; omega)) |>.trans ?_
  · rintro ⟨a1, a2, S2⟩ ⟨h1, h2, r, hr, h3⟩ g hg
    dsimp only at h1 h2 h3
    subst h1 h2 h3
    dsimp only
    unfold f_X12_isSquare_2
    have hr2 : r * r ≤ 19 * 19 := Nat.mul_le_mul hr hr
    simp (disch := omega) only [q1, qlt, qcl, qmul, qadd]
    by_cases h : r * r < x
    · have h19 : r ≤ 17 := by
        rcases Nat.lt_or_ge r 18 with h9 | h9
        · omega
        · have := Nat.mul_le_mul h9 h9; omega
      rw [if_pos h, hg _ ⟨rfl, rfl, r + 1, by omega, rfl⟩ (by simp (disch := omega) only [qcl]; omega)]
      dsimp only
      simp (disch := omega) only [qcl]
      rw [show 19 - r = (19 - (r + 1)) + 1 by omega, sqt_step, if_pos h]
    · rw [if_neg h]
      cases e : 19 - r with
      | zero => rfl
      | succ q => rw [sqt_step, if_neg h]
  · dsimp only
    rw [qcl (by omega), show 19 - r = m by omega]
theorem sqt_le : ∀ (m r x : Nat), sqt x m r ≤ r + m
  | 0, r, x => Nat.le_refl _
  | m + 1, r, x => by
    rw [sqt_step]
    have := sqt_le m (r + 1) x
    split <;> omega
theorem X12_isSquare {x : Nat} (hx : x ≤ 300) (S : jS) : f_X12_isSquare (nI x) S = some (bI (sqr x), S) := by
  unfold f_X12_isSquare f_X12_isSquare_e
  rw [q1, X12_isSquare_2 hx 18 1 rfl S]
  unfold f_X12_isSquare_15 f_X12_isSquare_27 sqr
  have h1 := sqt_le 18 1 x
  have h2 := Nat.mul_le_mul h1 h1
  rw [qmul]
  simp (disch := omega) only [qeq]
  by_cases h : sqt x 18 1 * sqt x 18 1 = x
  · rw [if_pos h, decide_eq_true h]; rfl
  · rw [if_neg h, decide_eq_false h]; rfl
theorem par_neg : ∀ k, k < 301 → (((0 : Int32) - nI k) - ((0 : Int32) - nI k) / 2 * 2 = 0 ↔ k % 2 = 0) := by decide +kernel
theorem nsub {a b : Nat} (h : a < b) (hb : b ≤ 300) : nI a - nI b = 0 - nI (b - a) := by
  apply Int32.toInt_inj.mp
  rw [pk_sub_toInt (by omega) (by omega), q0, pk_sub_toInt (by omega) (by omega)]
  omega
theorem jrm_par {β : Type} {a b : Nat} (ha : a ≤ 300) (hb : b ≤ 300) {E1 E2 : Option β} : jrm (nI a - nI b) 2 (fun v => if v = 0 then E1 else E2) = if evn a b = true then E1 else E2 := by
  unfold evn
  rcases Nat.lt_or_ge a b with h | h
  · unfold jrm
    rw [if_neg (by decide), nsub h hb]
    have := par_neg (b - a) (by omega)
    by_cases hp : (b - a) % 2 = 0
    · dsimp only
      rw [if_pos (this.mpr hp), decide_eq_true (by omega)]; rfl
    · dsimp only
      rw [if_neg (fun h9 => hp (this.mp h9)), decide_eq_false (by omega)]; rfl
  · rw [qsub h, q2, jrm_nI (by omega) (by omega) (by omega)]
    simp (disch := omega) only [q0, qeq]
    by_cases hp : (a - b) % 2 = 0
    · rw [if_pos hp, decide_eq_true (by omega)]; rfl
    · rw [if_neg hp, decide_eq_false (by omega)]; rfl
theorem sub_lt {a b n : Nat} (ha : a ≤ 300) (hb : b ≤ 300) (hn : n ≤ 300) : (nI a - nI b < nI n) = (a < b + n) := by
  apply propext
  rw [Int32.lt_iff_toInt_lt, pk_sub_toInt (by omega) (by omega), nI_toInt (by omega)]
  omega
theorem X12_mayBy {S : jS} (hT : tabs S) {k n a b : Nat} (hk : k < 6) (hn : n < 10) (ha0 : 0 < a) (ha : a ≤ 300) (hb0 : 0 < b) (hb : b ≤ 300) : f_X12_mayBy (nI k) (nI n) (nI a) (nI b) S = some (bI (may k n a b), S) := by
  have key79 : ∀ p e q : Bool, f_X12_mayBy_79 (bI q) (nI k) (nI n) (nI a) (nI b) (bI p) (bI e) S = some (bI (if k = 1 then e else if k = 2 then q else if k = 3 then e || (sqr a && sqr b) else if k = 4 then p && decide (b + n ≤ a ∨ a + n ≤ b) else if k = 5 then q || (decide (pt a = b) && decide (pt b = a)) else p), S) := by
    intro p e q
    unfold f_X12_mayBy_79 f_X12_mayBy_146 f_X12_mayBy_142 f_X12_mayBy_147 f_X12_mayBy_173 f_X12_mayBy_169 f_X12_mayBy_174 f_X12_mayBy_206 f_X12_mayBy_202 f_X12_mayBy_207
    have hpa := pt_le a
    have hpb := pt_le b
    simp (disch := omega) only [ite_b, jzr_b, jzr_1, jzr_0, jcl_s, X12_isSquare, jld_nI, (hT a ha).2.2, (hT b hb).2.2, sub_lt]
    simp (disch := omega) only [q1, q2, q3, q4, q5, qeq]
    split
    · rfl
    · split
      · rfl
      · split
        · cases e <;> cases sqr a <;> cases sqr b <;> rfl
        · split
          · by_cases h1 : a < b + n
            · by_cases h2 : b < a + n
              · rw [if_pos h1, if_pos h2, decide_eq_false (by omega)]; cases p <;> rfl
              · rw [if_pos h1, if_neg h2, decide_eq_true (by omega)]; cases p <;> rfl
            · rw [if_neg h1, decide_eq_true (by omega)]; cases p <;> rfl
          · split
            · by_cases h1 : pt a = b
              · rw [if_pos h1, decide_eq_true h1]
                by_cases h2 : pt b = a
                · rw [if_pos h2, decide_eq_true h2]; cases q <;> rfl
                · rw [if_neg h2, decide_eq_false h2]; cases q <;> rfl
              · rw [if_neg h1, decide_eq_false h1]; cases q <;> rfl
            · rfl
  have key29 : ∀ p : Bool, f_X12_mayBy_29 (bI p) (nI k) (nI n) (nI a) (nI b) S = some (bI (if k = 1 then p && evn a b else if k = 2 then p && (!prm a && !prm b) else if k = 3 then (p && evn a b) || (sqr a && sqr b) else if k = 4 then p && decide (b + n ≤ a ∨ a + n ≤ b) else if k = 5 then (p && (!prm a && !prm b)) || (decide (pt a = b) && decide (pt b = a)) else p), S) := by
    intro p
    have key50 : ∀ e : Bool, f_X12_mayBy_50 (bI e) (nI k) (nI n) (nI a) (nI b) (bI p) S = some (bI (if k = 1 then e else if k = 2 then p && (!prm a && !prm b) else if k = 3 then e || (sqr a && sqr b) else if k = 4 then p && decide (b + n ≤ a ∨ a + n ≤ b) else if k = 5 then (p && (!prm a && !prm b)) || (decide (pt a = b) && decide (pt b = a)) else p), S) := by
      intro e
      unfold f_X12_mayBy_50 f_X12_mayBy_78
      simp only [ite_b, X12_isPrime hT ha, X12_isPrime hT hb, jcl_s]
      rw [show (0 : Int32) = bI false from rfl, show (1 : Int32) = bI true from rfl]
      simp only [key79]
      cases p <;> cases prm a <;> cases prm b <;> rfl
    unfold f_X12_mayBy_29 f_X12_mayBy_49
    rw [jrm_par ha hb, ite_b]
    rw [show (0 : Int32) = bI false from rfl, show (1 : Int32) = bI true from rfl]
    simp only [key50]
    cases p <;> cases evn a b <;> rfl
  unfold f_X12_mayBy f_X12_mayBy_e f_X12_mayBy_24 f_X12_mayBy_28
  simp only [X12_divides ha0 ha hb, X12_divides hb0 hb ha, jcl_s, ite_b]
  rw [show (0 : Int32) = bI false from rfl, show (1 : Int32) = bI true from rfl]
  simp only [key29]
  unfold may
  simp (disch := omega) only [qeq]
  have hp : pln a b = (decide (a = b) || (!dvs a b && !dvs b a)) := rfl
  by_cases h : a = b
  · rw [if_pos h, hp, decide_eq_true h]; rfl
  · rw [if_neg h, hp, decide_eq_false h]
    cases dvs a b <;> cases dvs b a <;> rfl
