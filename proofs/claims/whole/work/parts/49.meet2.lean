/-! ===== meet: the model ===== -/
theorem wt_le {d h x : Nat} (hh : h < 8) (hx : x ≤ 300) : wt d h x ≤ 300 := by
  unfold wt
  repeat' split
  all_goals omega
theorem wt_0 {d h x : Nat} (hx0 : 0 < x) : wt d h x = 0 ↔ h ≤ d ∧ (d - h) % x = 0 := by
  have hm := Nat.mod_lt (d - h) hx0
  unfold wt
  by_cases c : h < d
  · rw [if_pos c]
    by_cases c2 : (d - h) % x = 0
    · rw [if_pos c2]
      exact ⟨fun _ => ⟨by omega, c2⟩, fun _ => rfl⟩
    · rw [if_neg c2]
      exact ⟨fun q => by omega, fun q => absurd q.2 c2⟩
  · rw [if_neg c]
    constructor
    · intro q
      have : d - h = 0 := by omega
      rw [this, Nat.zero_mod]
      exact ⟨by omega, rfl⟩
    · intro q
      omega
theorem wt_far {d h x d' : Nat} (hx0 : 0 < x) (hd : d ≤ d') (h1 : h ≤ d') (h2 : (d' - h) % x = 0) : d + wt d h x ≤ d' := by
  have hm := Nat.mod_lt (d - h) hx0
  unfold wt
  by_cases c : h < d
  · rw [if_pos c]
    by_cases c2 : (d - h) % x = 0
    · rw [if_pos c2]; omega
    · rw [if_neg c2]
      have e1 := Nat.div_add_mod (d - h) x
      have e2 := Nat.div_add_mod (d' - h) x
      rw [h2] at e2
      have lt : (d - h) / x < (d' - h) / x := by
        have le : (d - h) / x ≤ (d' - h) / x := Nat.div_le_div_right (by omega)
        rcases Nat.lt_or_ge ((d - h) / x) ((d' - h) / x) with q | q
        · exact q
        · exfalso
          have e : (d - h) / x = (d' - h) / x := by omega
          rw [e] at e1
          omega
      have mul : x * ((d - h) / x + 1) ≤ x * ((d' - h) / x) := Nat.mul_le_mul_left x lt
      rw [Nat.mul_add, Nat.mul_one] at mul
      omega
  · rw [if_neg c]
    omega
def wl (R : Nat → Nat) (d h : Nat) : Nat := if 0 < R h then wt d h (R h) else 0
def mfr (R : Nat → Nat) (d : Nat) : Nat → Nat
  | 0 => 0
  | i + 1 => if mfr R d i < wl R d i then wl R d i else mfr R d i
def mfl (R : Nat → Nat) (d : Nat) : Nat → Bool
  | 0 => true
  | i + 1 => mfl R d i && decide (wl R d i = 0)
theorem wl_le {R : Nat → Nat} (hR : rw8 R) (d : Nat) {h : Nat} (hh : h < 8) : wl R d h ≤ 300 := by
  unfold wl
  split
  · exact wt_le hh (hR h hh)
  · omega
theorem mfr_le {R : Nat → Nat} (hR : rw8 R) (d : Nat) : ∀ i, i ≤ 8 → mfr R d i ≤ 300
  | 0, _ => by show 0 ≤ 300; omega
  | i + 1, h => by
    have h1 := mfr_le hR d i (by omega)
    have h2 := wl_le hR d (show i < 8 by omega)
    show (if mfr R d i < wl R d i then wl R d i else mfr R d i) ≤ 300
    split <;> omega
theorem mfl_iff (R : Nat → Nat) (d : Nat) : ∀ i, mfl R d i = true ↔ cmn R i d
  | 0 => ⟨fun _ h hh => absurd hh (Nat.not_lt_zero h), fun _ => rfl⟩
  | i + 1 => by
    have ih := mfl_iff R d i
    have one : wl R d i = 0 ↔ thr R d i := by
      unfold wl thr
      by_cases c : 0 < R i
      · rw [if_pos c]
        exact ⟨fun q _ => (wt_0 c).1 q, fun q => (wt_0 c).2 (q c)⟩
      · rw [if_neg c]
        exact ⟨fun _ q => absurd q c, fun _ => rfl⟩
    show (mfl R d i && decide (wl R d i = 0)) = true ↔ _
    rw [Bool.and_eq_true, decide_eq_true_eq, ih, one]
    constructor
    · rintro ⟨h1, h2⟩ t ht
      by_cases e : t = i
      · rw [e]; exact h2
      · exact h1 t (by omega)
    · exact fun h => ⟨fun t ht => h t (by omega), h i (by omega)⟩
theorem mfr_far {R : Nat → Nat} {d d' : Nat} (hd : d ≤ d') : ∀ i, cmn R i d' → d + mfr R d i ≤ d'
  | 0, _ => hd
  | i + 1, h => by
    have ih := mfr_far hd i (fun t ht => h t (by omega))
    show d + (if mfr R d i < wl R d i then wl R d i else mfr R d i) ≤ d'
    split
    · unfold wl
      by_cases c : 0 < R i
      · rw [if_pos c]
        obtain ⟨g1, g2⟩ := h i (by omega) c
        exact wt_far c hd g1 g2
      · rw [if_neg c]; omega
    · exact ih
theorem mfr_pos {R : Nat → Nat} {d : Nat} : ∀ i, mfl R d i = false → 0 < mfr R d i
  | 0, h => by cases h
  | i + 1, h => by
    have h : (mfl R d i && decide (wl R d i = 0)) = false := h
    show 0 < (if mfr R d i < wl R d i then wl R d i else mfr R d i)
    cases c : mfl R d i with
    | false =>
      have := mfr_pos i c
      split <;> omega
    | true =>
      rw [c, Bool.true_and, decide_eq_false_iff_not] at h
      split <;> omega
theorem mfr_zero {R : Nat → Nat} {d : Nat} : ∀ i, mfl R d i = true → mfr R d i = 0
  | 0, _ => rfl
  | i + 1, h => by
    have h : (mfl R d i && decide (wl R d i = 0)) = true := h
    rw [Bool.and_eq_true, decide_eq_true_eq] at h
    show (if mfr R d i < wl R d i then wl R d i else mfr R d i) = 0
    rw [mfr_zero i h.1, h.2]
    rfl
theorem X12_meet_21 {k85 : Int32 → Int32 → Int32 → jS → Option (Int32 × jS)} {S : jS} {R : Nat → Nat} (hR : rw8 R) (hc : ∀ j, j < 8 → S.1 42 j = nI (R j)) {d : Nat} (hd : d ≤ 99999) : lp_X12_meet_21 k85 (nI d) 1 0 0 S = k85 (nI d) (bI (mfl R d 8)) (nI (mfr R d 8)) S := by
  unfold lp_X12_meet_21
  refine jloop_u (fun i => (nI d, bI (mfl R d i), nI (mfr R d i), nI i, S)) 8 rfl (by omega) (fun i hi g => ?_) (fun g => ?_)
  · have hx := hR i hi
    have hf := mfr_le hR d i (by omega)
    have hw := wl_le hR d hi
    dsimp only
    unfold f_X12_meet_21 f_X12_meet_49 f_X12_meet_64 f_X12_meet_65 f_X12_meet_78
    have e : (if 0 < R i then jcl (f_X12_daysTill (nI i) (nI d) S) (fun v3 S2 => if bI (mfl R d i) = 0 then (if nI (mfr R d i) < v3 then g (nI d, 0, v3, nI i + 1, S2) else g (nI d, 0, nI (mfr R d i), nI i + 1, S2)) else if v3 = 0 then (if nI (mfr R d i) < v3 then g (nI d, 1, v3, nI i + 1, S2) else g (nI d, 1, nI (mfr R d i), nI i + 1, S2)) else (if nI (mfr R d i) < v3 then g (nI d, 0, v3, nI i + 1, S2) else g (nI d, 0, nI (mfr R d i), nI i + 1, S2))) else (if bI (mfl R d i) = 0 then (if nI (mfr R d i) < nI 0 then g (nI d, 0, nI 0, nI i + 1, S) else g (nI d, 0, nI (mfr R d i), nI i + 1, S)) else if nI 0 = 0 then (if nI (mfr R d i) < nI 0 then g (nI d, 1, nI 0, nI i + 1, S) else g (nI d, 1, nI (mfr R d i), nI i + 1, S)) else (if nI (mfr R d i) < nI 0 then g (nI d, 0, nI 0, nI i + 1, S) else g (nI d, 0, nI (mfr R d i), nI i + 1, S)))) = (if bI (mfl R d i) = 0 then (if nI (mfr R d i) < nI (wl R d i) then g (nI d, 0, nI (wl R d i), nI i + 1, S) else g (nI d, 0, nI (mfr R d i), nI i + 1, S)) else if nI (wl R d i) = 0 then (if nI (mfr R d i) < nI (wl R d i) then g (nI d, 1, nI (wl R d i), nI i + 1, S) else g (nI d, 1, nI (mfr R d i), nI i + 1, S)) else (if nI (mfr R d i) < nI (wl R d i) then g (nI d, 0, nI (wl R d i), nI i + 1, S) else g (nI d, 0, nI (mfr R d i), nI i + 1, S))) := by
      unfold wl
      by_cases c : 0 < R i
      · rw [if_pos c, if_pos c, X12_daysTill hd hi c hx (hc i hi), jcl_s]
      · rw [if_neg c, if_neg c]
    rw [itl q8 (by omega) (by omega), if_pos hi, jld_nI (by omega) (by omega), hc i hi, itg q0 (by omega) (by omega)]
    refine e.trans ?_
    rw [ite_b, itv q0 (by omega) (by omega), itlt (by omega) (by omega), itlt (by omega) (by omega), show nI i + 1 = nI (i + 1) from qadd _ 1]
    show _ = g (nI d, bI (mfl R d i && decide (wl R d i = 0)), nI (if mfr R d i < wl R d i then wl R d i else mfr R d i), nI (i + 1), S)
    cases mfl R d i
    · rw [if_neg (by decide), Bool.false_and]
      split <;> rfl
    · rw [if_pos rfl, Bool.true_and]
      by_cases c : wl R d i = 0
      · rw [if_pos c, decide_eq_true c]
        split <;> rfl
      · rw [if_neg c, decide_eq_false c]
        split <;> rfl
  · dsimp only
    unfold f_X12_meet_21
    rw [if_neg (by decide)]
theorem X12_meet {S : jS} {R : Nat → Nat} (hR : rw8 R) (hc : ∀ j, j < 8 → S.1 42 j = nI (R j)) {d0 st : Nat} (hI : ∀ d, d ≤ 99999 → (cmn R 8 d ↔ ∃ j, d = d0 + j * st)) : f_X12_meet S = some ((if 99999 < d0 then -1 else nI d0), S) := by
  unfold f_X12_meet f_X12_meet_e lp_X12_meet_4
  refine jloop_wf (fun q => ∃ d b, d ≤ 100300 ∧ (∀ d', d' < d → d' ≤ 99999 → ¬ cmn R 8 d') ∧ (b = true → d ≤ 99999 ∧ cmn R 8 d) ∧ q = (nI d, bI b, S)) (fun q => 2 * (100300 - q.1.toNatClampNeg) + (if q.2.1 = 0 then 1 else 0)) (fun _ => some ((if 99999 < d0 then -1 else nI d0), S)) ?_ jN (0, 0, S) ⟨0, false, by omega, fun d' h => absurd h (Nat.not_lt_zero d'), fun q => (by cases q), rfl⟩ (jN_big (by show 2 * (100300 - (nI 0).toNatClampNeg) + 1 < _; omega))
  rintro _ ⟨d, b, hd, hno, hb, rfl⟩ g hg
  dsimp only
  unfold f_X12_meet_4 f_X12_meet_92 f_X12_meet_106 f_X12_meet_107
  have no0 : (∀ d', d' ≤ 99999 → ¬ cmn R 8 d') → 99999 < d0 := by
    intro q
    rcases Nat.lt_or_ge 99999 d0 with w | w
    · exact w
    · exact absurd ((hI d0 w).2 ⟨0, by omega⟩) (q d0 w)
  rw [itl (show (100000 : Int32) = nI 100000 from rfl) (by omega) (by omega)]
  cases b with
  | true =>
    obtain ⟨h1, h2⟩ := hb rfl
    obtain ⟨j, hj⟩ := (hI d h1).1 h2
    have e : d = d0 := by
      rcases Nat.lt_or_ge d0 d with w | w
      · exact absurd ((hI d0 (by omega)).2 ⟨0, by omega⟩) (hno d0 w (by omega))
      · omega
    rw [if_pos (show d < 100000 by omega), if_neg (show ¬ bI true = 0 by decide), if_neg (show ¬ bI true = 0 by decide), itl (show (100000 : Int32) = nI 100000 from rfl) (by omega) (by omega), if_pos (show d < 100000 by omega), if_neg (by omega), e]
  | false =>
    by_cases c : d < 100000
    · rw [if_pos c, if_pos (show bI false = 0 by rfl), X12_meet_21 hR hc (by omega)]
      unfold f_X12_meet_85
      have hf := mfr_le hR d 8 (by omega)
      rw [qadd]
      cases cf : mfl R d 8 with
      | true =>
        rw [mfr_zero 8 cf]
        exact hg _ ⟨d + 0, true, by omega, fun d' h => hno d' (by omega), fun _ => ⟨by omega, (mfl_iff R d 8).1 cf⟩, rfl⟩ (by
          show 2 * (100300 - (nI d).toNatClampNeg) + 0 < 2 * (100300 - (nI d).toNatClampNeg) + 1
          omega)
      | false =>
        have hp := mfr_pos 8 cf
        exact hg _ ⟨d + mfr R d 8, false, by omega, fun d' h1 h2 h3 => (by
          rcases Nat.lt_or_ge d' d with w | w
          · exact hno d' w h2 h3
          · have := mfr_far w 8 h3
            omega), fun q => (by cases q), rfl⟩ (by
          show 2 * (100300 - (nI (d + mfr R d 8)).toNatClampNeg) + 1 < 2 * (100300 - (nI d).toNatClampNeg) + 1
          rw [qcl (by omega), qcl (by omega)]
          omega)
    · rw [if_neg c, if_pos (show bI false = 0 by rfl), if_pos (no0 (fun d' h => hno d' (by omega) h))]
theorem op_meet {S : jS} (h : GG S) : O2 (f_X11_meet S) f_X12_meet := by
  obtain ⟨B, T, tl, hR⟩ := id h
  obtain ⟨h1, hv, hm, hc, h5⟩ := id hR
  obtain ⟨d0, st, hI, hd, e⟩ := X11_meet hv.1 hc.1
  exact ⟨_, S, S, e, X12_meet hv.1 (fun j hj => hm j (by omega)) hI, h⟩
