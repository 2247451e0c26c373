/-! ===== greatest ===== -/
theorem apt_comm (a b : Nat) : apt a b = apt b a := by
  unfold apt
  rw [Bool.and_comm]
theorem dif_eq {s i : Nat} : (dif s (2 ^ i) = s) = (s.testBit i = false) := by
  apply propext
  constructor
  · intro e
    have b : (dif s (2 ^ i)).testBit i = s.testBit i := by rw [e]
    rw [dif_bit, Nat.testBit_two_pow, decide_eq_true rfl] at b
    simpa using b.symm
  · intro e
    apply Nat.eq_of_testBit_eq
    intro t
    rw [dif_bit, Nat.testBit_two_pow]
    by_cases q : i = t
    · subst q
      rw [e]; rfl
    · rw [decide_eq_false q]
      simp
theorem dif_le (a b : Nat) : dif a b ≤ a := by
  rcases Nat.lt_or_ge a (dif a b) with h | h
  · exfalso
    obtain ⟨i, hi1, hi2, hi3⟩ : ∃ i, True ∧ True ∧ (dif a b).testBit i = true ∧ a.testBit i = false := by
      apply Classical.byContradiction
      intro q
      have : dif a b = dif a b &&& a := by
        apply Nat.eq_of_testBit_eq
        intro t
        rw [Nat.testBit_and]
        cases e : (dif a b).testBit t with
        | false => rfl
        | true =>
          cases e2 : a.testBit t with
          | true => rfl
          | false => exact absurd ⟨t, trivial, trivial, e, e2⟩ q
      have le : dif a b &&& a ≤ a := Nat.and_le_right
      omega
    obtain ⟨g1, g2⟩ := hi3
    rw [dif_bit, g2, Bool.false_and] at g1
    cases g1
  · exact h
theorem al_iff (p : Nat → Bool) : ∀ m i, al p i m = true ↔ ∀ t, i ≤ t → t < i + m → p t = true
  | 0, i => ⟨fun _ t h1 h2 => by omega, fun _ => rfl⟩
  | m + 1, i => by
    rw [al_s, Bool.and_eq_true, al_iff p m (i + 1)]
    constructor
    · rintro ⟨h1, h2⟩ t g1 g2
      by_cases e : t = i
      · rw [e]; exact h1
      · exact h2 t (by omega) (by omega)
    · exact fun h => ⟨h i (Nat.le_refl i) (by omega), fun t g1 g2 => h t (by omega) (by omega)⟩
/-- the class's test of one set -/
def iap (G : Nat → Nat) (s i : Nat) : Bool := !s.testBit i || decide (dif (dif s (2 ^ i)) (G i) = 0)
theorem X4_isApart {S : jS} {R G : Nat → Nat} (hS : stl S R G) {s : Nat} (hs : s < 256) : f_X4_isApart (nI s) S = some (bI (al (iap G s) 0 (lvc R)), S) := by
  have lc : lvc R ≤ 8 := cnt_le (lvp R) 8
  unfold f_X4_isApart f_X4_isApart_e lp_X4_isApart_2
  refine jloop_wf (fun a => ∃ i, i ≤ lvc R ∧ a = (nI s, nI i, S)) (fun a => 8 - a.2.1.toNatClampNeg) (fun a => some (bI (al (iap G s) a.2.1.toNatClampNeg (lvc R - a.2.1.toNatClampNeg)), S)) ?_ jN (nI s, 0, S) ⟨0, by omega, rfl⟩ (jN_big (by show 8 - (nI 0).toNatClampNeg < _; omega))
  rintro _ ⟨i, hi, rfl⟩ g hg
  dsimp only
  unfold f_X4_isApart_2 f_X4_isApart_36 f_X4_isApart_38 f_X4_isApart_44
  rw [qcl (by omega), hS.1, itlt (by omega) (by omega)]
  by_cases c : i < lvc R
  · have d1 := dif_le s (2 ^ i)
    have d2 := dif_lt (b := G i) (show dif s (2 ^ i) < 256 by omega)
    rw [if_pos c, shl_1 i (by omega), dif_nI, jld_nI (by omega) (by omega), (hS.2 i c).2.2, dif_nI, iteq (by omega) (by omega), itv q0 d2 (by omega), show lvc R - i = (lvc R - (i + 1)) + 1 by omega, al_s, show nI i + 1 = nI (i + 1) from qadd _ 1]
    have st : g (nI s, nI (i + 1), S) = some (bI (al (iap G s) (i + 1) (lvc R - (i + 1))), S) := by
      rw [hg _ ⟨i + 1, by omega, rfl⟩ (by dsimp only; rw [qcl (by omega), qcl (by omega)]; omega)]
      dsimp only
      rw [qcl (by omega)]
    have e1 : iap G s i = (!s.testBit i || decide (dif (dif s (2 ^ i)) (G i) = 0)) := rfl
    rw [e1]
    by_cases c1 : dif s (2 ^ i) = s
    · rw [if_pos c1]
      rw [dif_eq] at c1
      rw [c1]
      exact st
    · rw [if_neg c1]
      rw [dif_eq, Bool.not_eq_false] at c1
      rw [c1]
      by_cases c2 : dif (dif s (2 ^ i)) (G i) = 0
      · rw [if_pos c2, decide_eq_true c2]
        exact st
      · rw [if_neg c2, decide_eq_false c2]
        rfl
  · rw [if_neg c, show lvc R - i = 0 by omega]
    rfl
theorem X12_areApart {S : jS} {R : Nat → Nat} (hR : rw8 R) (hm : ∀ j, j < 8 → S.1 42 j = nI (R j)) {a b : Nat} (ha : a < 8) (hb : b < 8) (pa : 0 < R a) (pb : 0 < R b) : f_X12_areApart (nI a) (nI b) S = some (bI (apt (R a) (R b)), S) := by
  unfold f_X12_areApart f_X12_areApart_e f_X12_areApart_40 f_X12_areApart_41
  rw [jld_nI (by omega) (by omega), jld_nI (by omega) (by omega), hm a ha, hm b hb, X12_divides pa (hR a ha) (hR b hb), jcl_s, ite_b, jld_nI (by omega) (by omega), jld_nI (by omega) (by omega), hm a ha, hm b hb, X12_divides pb (hR b hb) (hR a ha), jcl_s, ite_b]
  unfold apt
  cases dvs (R a) (R b)
  · cases dvs (R b) (R a) <;> rfl
  · rfl
/-- the model's test of two houses, and of the houses below one -/
def mpr (R : Nat → Nat) (t h h' : Nat) : Bool := !(t.testBit h && t.testBit h') || apt (R h) (R h')
def mpl (R : Nat → Nat) (t h : Nat) : Bool := al (mpr R t h) 0 h
theorem pre_al (p : Nat → Bool) : ∀ m i, al p i (m + 1) = (al p i m && p (i + m))
  | 0, i => by
    show (p i && true) = (true && p (i + 0))
    rw [Bool.and_true, Bool.true_and]
    rfl
  | m + 1, i => by
    rw [al_s p i (m + 1), pre_al p m (i + 1), al_s p i m, Bool.and_assoc, show i + 1 + m = i + (m + 1) by omega]
theorem X12_areAllApart_13 {k76 : Int32 → Int32 → Int32 → jS → Option (Int32 × jS)} {S : jS} {R : Nat → Nat} (hR : rw8 R) (hm : ∀ j, j < 8 → S.1 42 j = nI (R j)) {t h : Nat} (ht : t < 256) (hh : h < 8) (hp : ∀ j, j < 8 → t.testBit j = true → 0 < R j) (b : Bool) : lp_X12_areAllApart_13 k76 (nI t) (bI b) (nI h) 0 S = k76 (nI t) (bI (b && mpl R t h)) (nI h) S := by
  unfold lp_X12_areAllApart_13 mpl
  refine jloop_u (fun i => (nI t, bI (b && al (mpr R t h) 0 i), nI h, nI i, S)) h (by show (nI t, bI b, nI h, 0, S) = (nI t, bI (b && true), nI h, nI 0, S); rw [Bool.and_true]; rfl) (by omega) (fun i hi g => ?_) (fun g => ?_)
  · dsimp only
    unfold f_X12_areAllApart_13 f_X12_areAllApart_42 f_X12_areAllApart_43 f_X12_areAllApart_64 f_X12_areAllApart_68 f_X12_areAllApart_69
    rw [itlt (by omega) (by omega), if_pos hi, bit_nI t (by omega) h (by omega), bit_nI t (by omega) i (by omega), show nI i + 1 = nI (i + 1) from qadd _ 1, pre_al, Nat.zero_add, ← Bool.and_assoc]
    have e : mpr R t h i = (!(t.testBit h && t.testBit i) || apt (R h) (R i)) := rfl
    rw [e]
    cases c : (b && al (mpr R t h) 0 i)
    · cases c1 : t.testBit h
      · rfl
      · cases c2 : t.testBit i <;> rfl
    · cases c1 : t.testBit h
      · rfl
      · cases c2 : t.testBit i
        · rfl
        · rw [if_pos (show bI true = 1 from rfl), if_pos (show bI true = 1 from rfl), if_neg (show ¬ bI true = 0 by decide), if_neg (show ¬ (1 : Int32) = 0 by decide), X12_areApart hR hm hh (by omega) (hp h hh c1) (hp i (by omega) c2), jcl_s, ite_b]
          cases apt (R h) (R i) <;> rfl
  · dsimp only
    unfold f_X12_areAllApart_13
    rw [itlt (by omega) (by omega), if_neg (by omega)]
theorem X12_areAllApart {S : jS} {R : Nat → Nat} (hR : rw8 R) (hm : ∀ j, j < 8 → S.1 42 j = nI (R j)) {t : Nat} (ht : t < 256) (hp : ∀ j, j < 8 → t.testBit j = true → 0 < R j) : f_X12_areAllApart (nI t) S = some (bI (al (mpl R t) 0 8), S) := by
  unfold f_X12_areAllApart f_X12_areAllApart_e lp_X12_areAllApart_4
  refine jloop_u (fun i => (nI t, bI (al (mpl R t) 0 i), nI i, S)) 8 rfl (by omega) (fun i hi g => ?_) (fun g => ?_)
  · dsimp only
    unfold f_X12_areAllApart_4
    rw [itl q8 (by omega) (by omega), if_pos hi, X12_areAllApart_13 hR hm ht hi hp]
    unfold f_X12_areAllApart_76
    rw [show nI i + 1 = nI (i + 1) from qadd _ 1, pre_al, Nat.zero_add]
  · dsimp only
    unfold f_X12_areAllApart_4 f_X12_areAllApart_82
    rw [if_neg (by decide), jzr_b]
/-- a closed-up set is apart just when the houses' set is -/
theorem apart_xpd {R : Nat → Nat} {s : Nat} (hs : s < 2 ^ lvc R) : al (mpl R (xpd 8 (lvm R) s)) 0 8 = al (iap (fun i => msk (fun j => apt (R (hH R i)) (R (hH R j))) (lvc R)) s) 0 (lvc R) := by
  have P : (al (mpl R (xpd 8 (lvm R) s)) 0 8 = true) ↔ (al (iap (fun i => msk (fun j => apt (R (hH R i)) (R (hH R j))) (lvc R)) s) 0 (lvc R) = true) := by
    rw [al_iff, al_iff]
    constructor
    · intro h i _ hi
      have hi : i < lvc R := by omega
      unfold iap
      cases c1 : s.testBit i with
      | false => rfl
      | true =>
        rw [Bool.not_true, Bool.false_or, decide_eq_true_eq]
        apply Nat.eq_of_testBit_eq
        intro j
        rw [Nat.zero_testBit, dif_bit, dif_bit, Nat.testBit_two_pow, msk_bit]
        cases c2 : s.testBit j with
        | false => rfl
        | true =>
          by_cases e : i = j
          · rw [decide_eq_true e]; simp
          · have hj : j < lvc R := by
              rcases Nat.lt_or_ge j (lvc R) with q | q
              · exact q
              · have : s.testBit j = false := Nat.testBit_lt_two_pow (Nat.lt_of_lt_of_le hs (Nat.pow_le_pow_right (by omega) q))
                rw [this] at c2
                cases c2
            obtain ⟨a1, a2, a3⟩ := hH_1 R hi
            obtain ⟨b1, b2, b3⟩ := hH_1 R hj
            have ta : (xpd 8 (lvm R) s).testBit (hH R i) = true := by rw [xpd_bit R hs a1, a2, a3, c1]; rfl
            have tb : (xpd 8 (lvm R) s).testBit (hH R j) = true := by rw [xpd_bit R hs b1, b2, b3, c2]; rfl
            have ap : apt (R (hH R i)) (R (hH R j)) = true := by
              rcases Nat.lt_trichotomy (hH R i) (hH R j) with q | q | q
              · have := h (hH R j) (Nat.zero_le _) (by omega)
                unfold mpl at this
                rw [al_iff] at this
                have := this (hH R i) (Nat.zero_le _) (by omega)
                unfold mpr at this
                rw [ta, tb] at this
                rw [apt_comm]
                simpa using this
              · rw [q] at a3
                omega
              · have := h (hH R i) (Nat.zero_le _) (by omega)
                unfold mpl at this
                rw [al_iff] at this
                have := this (hH R j) (Nat.zero_le _) (by omega)
                unfold mpr at this
                rw [ta, tb] at this
                simpa using this
            rw [decide_eq_false e, decide_eq_true hj, ap]
            rfl
    · intro h a _ ha
      unfold mpl
      rw [al_iff]
      intro b _ hb
      have ha : a < 8 := by omega
      have hb : b < a := by omega
      unfold mpr
      cases ta : (xpd 8 (lvm R) s).testBit a with
      | false => rfl
      | true =>
        cases tb : (xpd 8 (lvm R) s).testBit b with
        | false => rfl
        | true =>
          rw [xpd_bit R hs ha, Bool.and_eq_true] at ta
          rw [xpd_bit R hs (by omega), Bool.and_eq_true] at tb
          have ca : cnt (lvp R) a < lvc R := cnt_lt (lvp R) ha ta.1
          have cb : cnt (lvp R) b < lvc R := cnt_lt (lvp R) (show b < 8 by omega) tb.1
          have cab : cnt (lvp R) b < cnt (lvp R) a := cnt_lt (lvp R) hb tb.1
          have := h (cnt (lvp R) a) (Nat.zero_le _) (by omega)
          unfold iap at this
          rw [ta.2, Bool.not_true, Bool.false_or, decide_eq_true_eq] at this
          have bt : (dif (dif s (2 ^ cnt (lvp R) a)) (msk (fun j => apt (R (hH R (cnt (lvp R) a))) (R (hH R j))) (lvc R))).testBit (cnt (lvp R) b) = false := by
            rw [this]
            exact Nat.zero_testBit _
          rw [dif_bit, dif_bit, Nat.testBit_two_pow, msk_bit, tb.2, decide_eq_false (show ¬ cnt (lvp R) a = cnt (lvp R) b by omega), decide_eq_true cb, hH_2 R ha ta.1, hH_2 R (show b < 8 by omega) tb.1] at bt
          simpa using bt
  cases e1 : al (mpl R (xpd 8 (lvm R) s)) 0 8 <;> cases e2 : al (iap (fun i => msk (fun j => apt (R (hH R i)) (R (hH R j))) (lvc R)) s) 0 (lvc R)
  · rfl
  · rw [e1, e2] at P
    exact absurd (P.2 rfl) (by decide)
  · rw [e1, e2] at P
    exact absurd (P.1 rfl) (by decide)
  · rfl
