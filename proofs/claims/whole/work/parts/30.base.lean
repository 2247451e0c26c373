/-! ===== numbers, loops and the state: what the pure part rests on ===== -/
theorem qlt {a b : Nat} (ha : a < 2147483648) (hb : b < 2147483648) : (nI a < nI b) = (a < b) := propext (nI_ltI ha hb)
theorem qle {a b : Nat} (ha : a < 2147483648) (hb : b < 2147483648) : (nI a ≤ nI b) = (a ≤ b) := propext (nI_leI ha hb)
theorem qeq {a b : Nat} (ha : a < 2147483648) (hb : b < 2147483648) : (nI a = nI b) = (a = b) := propext (nI_eq ha hb)
theorem qadd (a b : Nat) : nI a + nI b = nI (a + b) := nI_add a b
theorem qmul (a b : Nat) : nI a * nI b = nI (a * b) := pk_mul a b
theorem qsub {a b : Nat} (h : b ≤ a) : nI a - nI b = nI (a - b) := pk_sub h
theorem qcl {a : Nat} (h : a < 2147483648) : (nI a).toNatClampNeg = a := nI_clamp h
theorem q0 : (0 : Int32) = nI 0 := rfl
theorem q1 : (1 : Int32) = nI 1 := rfl
theorem q2 : (2 : Int32) = nI 2 := rfl
theorem q3 : (3 : Int32) = nI 3 := rfl
theorem q4 : (4 : Int32) = nI 4 := rfl
theorem q5 : (5 : Int32) = nI 5 := rfl
theorem q6 : (6 : Int32) = nI 6 := rfl
theorem q7 : (7 : Int32) = nI 7 := rfl
theorem q8 : (8 : Int32) = nI 8 := rfl
theorem q9 : (9 : Int32) = nI 9 := rfl
theorem q10 : (10 : Int32) = nI 10 := rfl
theorem q150 : (150 : Int32) = nI 150 := rfl
theorem q300 : (300 : Int32) = nI 300 := rfl
theorem qneg {x : Int32} {a : Nat} (ha : a < 2147483648) (h : x < 0) : ¬ x = nI a := by
  intro e
  rw [e] at h
  exact absurd h (nI_pos ha)
/-- an int that is none of 0 .. n is below 0 or above n -/
theorem qcase (x : Int32) (n : Nat) (hn : n < 2147483647) : x < 0 ∨ nI n < x ∨ ∃ a, a ≤ n ∧ x = nI a := by
  rcases pk_ix x (n := n + 1) (by omega) with h | h | ⟨j, hj, h⟩
  · exact Or.inl h
  · refine Or.inr (Or.inl ?_)
    have h0 : ¬ x < 0 := by
      intro h0
      have h1 : nI (n + 1) < 0 := by
        rw [Int32.lt_iff_toInt_lt] at h0 ⊢
        rw [Int32.le_iff_toInt_le] at h
        omega
      exact absurd h1 (nI_pos (by omega))
    obtain ⟨j, hj, rfl⟩ := nI_of h0
    rw [nI_leI (by omega) hj] at h
    rw [nI_ltI (by omega) hj]
    omega
  · exact Or.inr (Or.inr ⟨j, by omega, h⟩)
section qb
variable {α β : Type}
theorem jb_nI {a n : Nat} (h : a < n) (hn : n < 2147483648) : jb (nI a) n = true := by
  unfold jb
  rw [decide_eq_true_eq]
  exact nI_in h hn
theorem jld_nI {S : jS} {k a n : Nat} {E : Int32 → Option β} (h : a < n) (hn : n < 2147483648) : jld S k (nI a) n E = E (S.1 k a) := by
  unfold jld
  rw [if_pos (jb_nI h hn), nI_clamp (by omega)]
theorem jst_nI {S : jS} {k a n : Nat} {v : Int32} {E : jS → Option β} (h : a < n) (hn : n < 2147483648) : jst S k (nI a) n v E = E (jsI S k a v) := by
  unfold jst
  rw [if_pos (jb_nI h hn), nI_clamp (by omega)]
theorem jdv_nI {a b : Nat} {E : Int32 → Option β} (ha : a < 2147483648) (h0 : 0 < b) (hb : b < 2147483648) : jdv (nI a) (nI b) E = E (nI (a / b)) := by
  unfold jdv
  rw [if_neg (nI_ne0 h0 hb), pk_div ha h0 hb]
theorem jrm_nI {a b : Nat} {E : Int32 → Option β} (ha : a < 2147483648) (h0 : 0 < b) (hb : b < 2147483648) : jrm (nI a) (nI b) E = E (nI (a % b)) := by
  unfold jrm
  rw [if_neg (nI_ne0 h0 hb), pk_rem ha h0 hb]
theorem jcl_s {r : α} {S : jS} {E : α → jS → Option β} : jcl (some (r, S)) E = E r S := rfl
theorem jcv_s {S : jS} {E : jS → Option β} : jcv (some S) E = E S := rfl
theorem jpt_s {S : jS} {k j : Nat} {v : Int32} {E : jS → Option β} : jpt S k j v E = E (jsI S k j v) := rfl
theorem jpl_s {S : jS} {k j : Nat} {v : Int64} {E : jS → Option β} : jpl S k j v E = E (jsL S k j v) := rfl
/-- a loop by a measure: r tells what comes out of each state of the loop -/
theorem jloop_wf {B : (α → Option β) → α → Option β} (P : α → Prop) (μ : α → Nat) (r : α → Option β) (hs : ∀ a, P a → ∀ g : α → Option β, (∀ a', P a' → μ a' < μ a → g a' = r a') → B g a = r a) : ∀ (n : Nat) (a : α), P a → μ a < n → jloop B n a = r a := by
  intro n
  induction n with
  | zero => intro a _ h; exact absurd h (Nat.not_lt_zero _)
  | succ n ih =>
    intro a hP hn
    exact hs a hP (jloop B n) (fun a' h1 h2 => ih a' h1 (by omega))
theorem jN_big {n : Nat} (h : n < 1000000000) : n < jN := h
end qb
theorem jsR_1 (S : jS) (k : Nat) (f : Nat → Int32) (a : Nat) : (jsR S k f).1 a = if a = k then f else S.1 a := rfl
theorem jsR_2 (S : jS) (k : Nat) (f : Nat → Int32) : (jsR S k f).2 = S.2 := rfl
theorem jsI_1 (S : jS) (k j : Nat) (v : Int32) (a : Nat) : (jsI S k j v).1 a = if a = k then upd (S.1 k) j v else S.1 a := rfl
theorem jsI_2 (S : jS) (k j : Nat) (v : Int32) : (jsI S k j v).2 = S.2 := rfl
theorem jsL_1 (S : jS) (k j : Nat) (v : Int64) : (jsL S k j v).1 = S.1 := rfl
theorem jsL_2 (S : jS) (k j : Nat) (v : Int64) (a : Nat) : (jsL S k j v).2 a = if a = k then vp_updL (S.2 k) j v else S.2 a := rfl
theorem upd_1 (f : Nat → Int32) (k : Nat) (v : Int32) (j : Nat) : upd f k v j = if j = k then v else f j := rfl
theorem jsR_self (S : jS) (k : Nat) : jsR S k (S.1 k) = S := by
  refine Prod.ext ?_ rfl
  funext a
  rw [jsR_1]
  split
  · next h => rw [h]
  · rfl
theorem jsR_R (S : jS) (k : Nat) (f g : Nat → Int32) : jsR (jsR S k f) k g = jsR S k g := by
  refine Prod.ext ?_ rfl
  funext a
  simp only [jsR_1]
  split <;> rfl
theorem jsR_I (S : jS) (k j : Nat) (v : Int32) (g : Nat → Int32) : jsR (jsI S k j v) k g = jsR S k g := jsR_R S k _ g
/-! ===== the tables of parts and squares ===== -/
/-- the sum of d .. d + m - 1 that divide y and are not above its half -/
def sdv (y : Nat) : Nat → Nat → Nat
  | _, 0 => 0
  | d, m + 1 => (if 2 * d ≤ y ∧ y % d = 0 then d else 0) + sdv y (d + 1) m
def pt (x : Nat) : Nat := sdv x 1 300
/-- d is added at x, x + d, .. 300 -/
def tbA (d x : Nat) (f : Nat → Int32) : Nat → Int32 := fun y => if x ≤ y ∧ y ≤ 300 ∧ (y - x) % d = 0 then f y + nI d else f y
def tbO : Nat → Nat → (Nat → Int32) → (Nat → Int32)
  | _, 0, f => f
  | d, m + 1, f => tbO (d + 1) m (tbA d (2 * d) f)
theorem tbA_step {d x : Nat} (hd : 0 < d) (hx : x ≤ 300) (f : Nat → Int32) : tbA d (x + d) (upd f x (f x + nI d)) = tbA d x f := by
  funext y
  unfold tbA
  simp only [upd_1]
  by_cases hy : y = x
  · subst hy
    rw [if_neg (by omega), if_pos rfl, if_pos ⟨Nat.le_refl _, hx, by rw [Nat.sub_self, Nat.zero_mod]⟩]
  · rw [if_neg hy]
    by_cases h : x + d ≤ y ∧ y ≤ 300 ∧ (y - (x + d)) % d = 0
    · rw [if_pos h, if_pos ⟨by omega, h.2.1, by
        have e : y - x = (y - (x + d)) + d := by omega
        rw [e, Nat.add_mod_right]; exact h.2.2⟩]
    · rw [if_neg h, if_neg]
      rintro ⟨h1, h2, h3⟩
      apply h
      have hlt : ¬ y - x < d := by
        intro hl
        rw [Nat.mod_eq_of_lt hl] at h3
        omega
      refine ⟨by omega, h2, ?_⟩
      have e : y - x = (y - (x + d)) + d := by omega
      rw [e, Nat.add_mod_right] at h3
      exact h3
theorem tbA_out {d x : Nat} (h : 300 < x) (f : Nat → Int32) : tbA d x f = f := by
  funext y
  unfold tbA
  rw [if_neg (by omega)]
theorem tbO_val : ∀ (m d : Nat) (f : Nat → Int32) (y : Nat), 0 < d → y ≤ 300 → tbO d m f y = f y + nI (sdv y d m)
  | 0, d, f, y, _, _ => by
    show f y = f y + nI 0
    rw [← q0, Int32.add_zero]
  | m + 1, d, f, y, hd, hy => by
    show tbO (d + 1) m (tbA d (2 * d) f) y = _
    rw [tbO_val m (d + 1) _ y (by omega) hy]
    unfold tbA
    show _ = f y + nI ((if 2 * d ≤ y ∧ y % d = 0 then d else 0) + sdv y (d + 1) m)
    rw [← qadd, ← Int32.add_assoc]
    congr 1
    by_cases h : 2 * d ≤ y ∧ y % d = 0
    · rw [if_pos h, if_pos ⟨h.1, hy, by
        have e : y = (y - 2 * d) + d + d := by omega
        have e2 := h.2
        rw [e, Nat.add_mod_right, Nat.add_mod_right] at e2
        exact e2⟩]
    · rw [if_neg h, if_neg, ← q0, Int32.add_zero]
      rintro ⟨h1, h2, h3⟩
      apply h
      refine ⟨h1, ?_⟩
      have e : y = (y - 2 * d) + d + d := by omega
      rw [e, Nat.add_mod_right, Nat.add_mod_right]
      exact h3
theorem sdv_far : ∀ (m d y : Nat), y < 2 * d → sdv y d m = 0
  | 0, _, _, _ => rfl
  | m + 1, d, y, h => by
    show (if 2 * d ≤ y ∧ y % d = 0 then d else 0) + sdv y (d + 1) m = 0
    rw [if_neg (by omega), sdv_far m (d + 1) y (by omega)]
theorem sdv_app : ∀ (a b d y : Nat), sdv y d (a + b) = sdv y d a + sdv y (d + a) b
  | 0, b, d, y => by
    rw [Nat.zero_add]
    show sdv y d b = 0 + sdv y (d + 0) b
    rw [Nat.zero_add, Nat.add_zero]
  | a + 1, b, d, y => by
    have e : a + 1 + b = (a + b) + 1 := by omega
    rw [e]
    show (if 2 * d ≤ y ∧ y % d = 0 then d else 0) + sdv y (d + 1) (a + b) = (if 2 * d ≤ y ∧ y % d = 0 then d else 0) + sdv y (d + 1) a + sdv y (d + (a + 1)) b
    have e2 : d + 1 + a = d + (a + 1) := by omega
    rw [sdv_app a b (d + 1) y, e2, Nat.add_assoc]
theorem sdv_150 {y : Nat} (hy : y ≤ 300) : sdv y 1 150 = pt y := by
  unfold pt
  rw [show (300 : Nat) = 150 + 150 from rfl, sdv_app 150 150 1 y, sdv_far 150 (1 + 150) y (by omega), Nat.add_zero]
theorem sdv_le : ∀ (m d y : Nat), sdv y d m ≤ (d + m) * m
  | 0, _, _ => by show 0 ≤ _; omega
  | m + 1, d, y => by
    have h := sdv_le m (d + 1) y
    show (if 2 * d ≤ y ∧ y % d = 0 then d else 0) + sdv y (d + 1) m ≤ _
    have e : (d + 1 + m) * m = (d + (m + 1)) * m := by congr 1; omega
    rw [e] at h
    have e2 : (d + (m + 1)) * (m + 1) = (d + (m + 1)) * m + (d + (m + 1)) := Nat.mul_succ _ _
    rw [e2]
    split <;> omega
theorem pt_le (y : Nat) : pt y ≤ 90300 := sdv_le 300 1 y
theorem X3_61 {k85 : Int32 → jS → Option jS} (d : Nat) (hd : 0 < d) (hd2 : d ≤ 300) (x : Nat) (hx : x ≤ 600) (S : jS) : lp_X3_init_61 k85 (nI d) (nI x) S = k85 (nI d) (jsR S 1 (tbA d x (S.1 1))) := by
  unfold lp_X3_init_61
  refine jloop_wf (fun a => a.1 = nI d ∧ ∃ x, x ≤ 600 ∧ a.2.1 = nI x) (fun a => 600 - a.2.1.toNatClampNeg) (fun a => k85 (nI d) (jsR a.2.2 1 (tbA d a.2.1.toNatClampNeg (a.2.2.1 1)))) ?_ jN (nI d, nI x, S) ⟨rfl, x, hx, rfl⟩ (jN_big (by show 600 - (nI x).toNatClampNeg < _; omega)) |>.trans ?_
  · rintro ⟨a1, a2, S⟩ ⟨h1, x, hx, h2⟩ g hg
    dsimp only at h1 h2
    subst h1 h2
    dsimp only
    unfold f_X3_init_61
    simp (disch := omega) only [q300, qlt, qcl]
    by_cases h : 300 < x
    · rw [if_pos h, tbA_out h, jsR_self]
    · rw [if_neg h, jld_nI (by omega) (by omega), jst_nI (by omega) (by omega), qadd]
      rw [hg _ ⟨rfl, x + d, by omega, rfl⟩ (by simp (disch := omega) only [qcl]; omega)]
      dsimp only
      simp (disch := omega) only [qcl]
      rw [jsR_I, jsI_1, if_pos rfl, tbA_step hd (by omega)]
  · dsimp only
    rw [qcl (by omega)]
theorem X3_50 {k91 : jS → Option jS} (d : Nat) (hd : 0 < d) (hd2 : d ≤ 151) (S : jS) : lp_X3_init_50 k91 (nI d) S = k91 (jsR S 1 (tbO d (151 - d) (S.1 1))) := by
  unfold lp_X3_init_50
  refine jloop_wf (fun a => ∃ d, 0 < d ∧ d ≤ 151 ∧ a.1 = nI d) (fun a => 151 - a.1.toNatClampNeg) (fun a => k91 (jsR a.2 1 (tbO a.1.toNatClampNeg (151 - a.1.toNatClampNeg) (a.2.1 1)))) ?_ jN (nI d, S) ⟨d, hd, hd2, rfl⟩ (jN_big (by show 151 - (nI d).toNatClampNeg < _; omega)) |>.trans ?_
  · rintro ⟨a1, S⟩ ⟨d, hd, hd2, h1⟩ g hg
    dsimp only at h1
    subst h1
    dsimp only
    unfold f_X3_init_50
    simp (disch := omega) only [q150, q2, qlt, qcl, qmul]
    by_cases h : 150 < d
    · have e : d = 151 := by omega
      subst e
      rw [if_pos h]
      show k91 S = k91 (jsR S 1 (S.1 1))
      rw [jsR_self]
    · rw [if_neg h, X3_61 d hd (by omega) (2 * d) (by omega) S]
      unfold f_X3_init_85
      simp (disch := omega) only [q1, qadd]
      rw [hg _ ⟨d + 1, by omega, by omega, rfl⟩ (by simp (disch := omega) only [qcl]; omega)]
      dsimp only
      simp (disch := omega) only [qcl]
      rw [jsR_R, jsR_1, if_pos rfl]
      have e : 151 - d = (151 - (d + 1)) + 1 := by omega
      rw [e]
      rfl
  · dsimp only
    rw [qcl (by omega)]
/-- t .. t + m - 1 squared hold 1 -/
def sqO : Nat → Nat → (Nat → Int32) → (Nat → Int32)
  | _, 0, f => f
  | t, m + 1, f => sqO (t + 1) m (upd f (t * t) 1)
theorem X3_24 {k48 : jS → Option jS} (t : Nat) (ht : t ≤ 18) (S : jS) : lp_X3_init_24 k48 (nI t) S = k48 (jsR S 2 (sqO t (18 - t) (S.1 2))) := by
  unfold lp_X3_init_24
  refine jloop_wf (fun a => ∃ t, t ≤ 18 ∧ a.1 = nI t) (fun a => 18 - a.1.toNatClampNeg) (fun a => k48 (jsR a.2 2 (sqO a.1.toNatClampNeg (18 - a.1.toNatClampNeg) (a.2.1 2)))) ?_ jN (nI t, S) ⟨t, ht, rfl⟩ (jN_big (by show 18 - (nI t).toNatClampNeg < _; omega)) |>.trans ?_
  · rintro ⟨a1, S⟩ ⟨t, ht, h1⟩ g hg
    dsimp only at h1
    subst h1
    dsimp only
    unfold f_X3_init_24
    have ht2 : t * t ≤ 18 * 18 := Nat.mul_le_mul ht ht
    simp (disch := omega) only [q300, qlt, qcl, qmul]
    by_cases h : t = 18
    · subst h
      rw [if_pos (by decide)]
      show k48 S = k48 (jsR S 2 (S.1 2))
      rw [jsR_self]
    · have ht3 : t * t ≤ 17 * 17 := Nat.mul_le_mul (by omega) (by omega)
      rw [if_neg (by omega), jst_nI (by omega) (by omega)]
      simp (disch := omega) only [q1, qadd]
      rw [hg _ ⟨t + 1, by omega, rfl⟩ (by simp (disch := omega) only [qcl]; omega)]
      dsimp only
      simp (disch := omega) only [qcl]
      rw [jsR_I, jsI_1, if_pos rfl]
      have e : 18 - t = (18 - (t + 1)) + 1 := by omega
      rw [e]
      rfl
  · dsimp only
    rw [qcl (by omega)]
theorem X3_init : f_X3_init_e jS0 = some (jsR (jsR jS0 2 (sqO 1 17 (fun _ => 0))) 1 (tbO 1 150 (fun _ => 0))) := by
  unfold f_X3_init_e
  rw [q1, X3_24 1 (by omega)]
  unfold f_X3_init_48
  rw [q1, X3_50 1 (by omega) (by omega)]
  rfl
theorem X12_137 {k161 : Int32 → jS → Option jS} (d : Nat) (hd : 0 < d) (hd2 : d ≤ 300) (x : Nat) (hx : x ≤ 600) (S : jS) : lp_X12_init_137 k161 (nI d) (nI x) S = k161 (nI d) (jsR S 5 (tbA d x (S.1 5))) := by
  unfold lp_X12_init_137
  refine jloop_wf (fun a => a.1 = nI d ∧ ∃ x, x ≤ 600 ∧ a.2.1 = nI x) (fun a => 600 - a.2.1.toNatClampNeg) (fun a => k161 (nI d) (jsR a.2.2 5 (tbA d a.2.1.toNatClampNeg (a.2.2.1 5)))) ?_ jN (nI d, nI x, S) ⟨rfl, x, hx, rfl⟩ (jN_big (by show 600 - (nI x).toNatClampNeg < _; omega)) |>.trans ?_
  · rintro ⟨a1, a2, S⟩ ⟨h1, x, hx, h2⟩ g hg
    dsimp only at h1 h2
    subst h1 h2
    dsimp only
    unfold f_X12_init_137
    simp (disch := omega) only [q300, qlt, qcl]
    by_cases h : 300 < x
    · rw [if_pos h, tbA_out h, jsR_self]
    · rw [if_neg h, jld_nI (by omega) (by omega), jst_nI (by omega) (by omega), qadd]
      rw [hg _ ⟨rfl, x + d, by omega, rfl⟩ (by simp (disch := omega) only [qcl]; omega)]
      dsimp only
      simp (disch := omega) only [qcl]
      rw [jsR_I, jsI_1, if_pos rfl, tbA_step hd (by omega)]
  · dsimp only
    rw [qcl (by omega)]
theorem X12_126 {k167 : jS → Option jS} (d : Nat) (hd : 0 < d) (hd2 : d ≤ 301) (S : jS) : lp_X12_init_126 k167 (nI d) S = k167 (jsR S 5 (tbO d (301 - d) (S.1 5))) := by
  unfold lp_X12_init_126
  refine jloop_wf (fun a => ∃ d, 0 < d ∧ d ≤ 301 ∧ a.1 = nI d) (fun a => 301 - a.1.toNatClampNeg) (fun a => k167 (jsR a.2 5 (tbO a.1.toNatClampNeg (301 - a.1.toNatClampNeg) (a.2.1 5)))) ?_ jN (nI d, S) ⟨d, hd, hd2, rfl⟩ (jN_big (by show 301 - (nI d).toNatClampNeg < _; omega)) |>.trans ?_
  · rintro ⟨a1, S⟩ ⟨d, hd, hd2, h1⟩ g hg
    dsimp only at h1
    subst h1
    dsimp only
    unfold f_X12_init_126
    simp (disch := omega) only [q300, q2, qlt, qcl, qmul]
    by_cases h : 300 < d
    · have e : d = 301 := by omega
      subst e
      rw [if_pos h]
      show k167 S = k167 (jsR S 5 (S.1 5))
      rw [jsR_self]
    · rw [if_neg h, X12_137 d hd (by omega) (2 * d) (by omega) S]
      unfold f_X12_init_161
      simp (disch := omega) only [q1, qadd]
      rw [hg _ ⟨d + 1, by omega, by omega, rfl⟩ (by simp (disch := omega) only [qcl]; omega)]
      dsimp only
      simp (disch := omega) only [qcl]
      rw [jsR_R, jsR_1, if_pos rfl]
      have e : 301 - d = (301 - (d + 1)) + 1 := by omega
      rw [e]
      rfl
  · dsimp only
    rw [qcl (by omega)]
theorem X12_init : f_X12_init_e jS1 = some (jsR jS1 5 (tbO 1 300 (fun _ => 0))) := by
  unfold f_X12_init_e
  rw [q1, X12_126 1 (by omega) (by omega)]
  rfl
