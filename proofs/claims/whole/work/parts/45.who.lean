/-! ===== who ===== -/
theorem cnt_mono (p : Nat → Bool) {i j : Nat} (h : i ≤ j) : cnt p i ≤ cnt p j := by
  induction j with
  | zero =>
    have : i = 0 := by omega
    subst this
    exact Nat.le_refl _
  | succ j ih =>
    rcases Nat.lt_or_ge i (j + 1) with hl | hl
    · have := ih (by omega)
      show cnt p i ≤ cnt p j + _
      omega
    · have : i = j + 1 := by omega
      subst this
      exact Nat.le_refl _
theorem cnt_lt (p : Nat → Bool) {i j : Nat} (h : i < j) (hp : p i = true) : cnt p i < cnt p j := by
  have h1 : cnt p (i + 1) ≤ cnt p j := cnt_mono p h
  have h2 : cnt p (i + 1) = cnt p i + (if p i = true then 1 else 0) := rfl
  rw [if_pos hp] at h2
  omega
theorem lfs_0 (p : Nat → Bool) (o : Nat) : ∀ i, cnt p i = 0 → lfs p o i = -1
  | 0, _ => rfl
  | i + 1, h => by
    have e : cnt p (i + 1) = cnt p i + (if p i = true then 1 else 0) := rfl
    show (if p i = true then _ else lfs p o i) = -1
    by_cases c : p i = true
    · rw [e, if_pos c] at h
      omega
    · rw [if_neg c]
      exact lfs_0 p o i (by rw [e, if_neg c] at h; omega)
/-- the fits lie in the class's array, rising -/
def fit (S : jS) (p : Nat → Bool) (i : Nat) : Prop := ∀ t, t < i → p t = true → S.1 39 (cnt p t) = nI (t + 1)
theorem X11_gatherFits {S : jS} {B T : Nat → Nat} {tl : Nat} (hR : RR S B T tl) : ∃ S1, f_X11_gatherFits S = some (nI (cnt (cb B) 300), S1) ∧ Ev S S1 ∧ fit S1 (cb B) 300 ∧ (0 < cnt (cb B) 300 → S1.1 39 0 = lfs (cb B) 1 300) := by
  unfold f_X11_gatherFits f_X11_gatherFits_e lp_X11_gatherFits_4
  refine jloop_i (fun i a => ∃ S', a = (nI (cnt (cb B) i), nI (i + 1), S') ∧ Ev S S' ∧ fit S' (cb B) i ∧ (0 < cnt (cb B) i → S'.1 39 0 = lfs (cb B) 1 i)) (fun r => ∃ S1, r = some (nI (cnt (cb B) 300), S1) ∧ Ev S S1 ∧ fit S1 (cb B) 300 ∧ (0 < cnt (cb B) 300 → S1.1 39 0 = lfs (cb B) 1 300)) 300 (by omega) ?_ ?_ ⟨S, rfl, Ev.rfl' S, fun t ht => absurd ht (Nat.not_lt_zero t), fun hl => absurd hl (Nat.lt_irrefl 0)⟩
  · rintro i hi _ ⟨S', rfl, ev, hf, h0⟩
    have hq := X11_agreesWithReadings (RR_ev hR ev) (show 0 < i + 1 by omega) (show i + 1 ≤ 300 by omega)
    have hl := cnt_le (cb B) i
    have ec : cnt (cb B) (i + 1) = cnt (cb B) i + (if cb B i = true then 1 else 0) := rfl
    have el : lfs (cb B) 1 (i + 1) = if cb B i = true then (if cnt (cb B) i = 0 then nI (i + 1) else lfs (cb B) 1 i) else lfs (cb B) 1 i := rfl
    by_cases c : cb B i = true
    · have c' : al (rok B (i + 1)) 0 (B 10) = true := c
      rw [if_pos c] at ec el
      refine ⟨(nI (cnt (cb B) (i + 1)), nI (i + 1 + 1), jsI S' 39 (cnt (cb B) i) (nI (i + 1))), ⟨_, rfl, ev.tr (Ev.I S' 39 _ _ rfl (by omega) (by omega) (by omega)), fun t ht hp => ?_, fun _ => ?_⟩, fun g => ?_⟩
      · rw [jsI_d, jsR_s, upd_1]
        rcases Nat.lt_or_ge t i with hl2 | hl2
        · have := cnt_lt (cb B) hl2 hp
          rw [if_neg (by omega)]
          exact hf t hl2 hp
        · have e : t = i := by omega
          subst e
          rw [if_pos rfl]
      · rw [jsI_d, jsR_s, upd_1, el]
        by_cases c2 : cnt (cb B) i = 0
        · rw [if_pos c2.symm, if_pos c2]
        · rw [if_neg (Ne.symm c2), if_neg c2]
          exact h0 (by omega)
      · dsimp only
        unfold f_X11_gatherFits_4 f_X11_gatherFits_38
        rw [itg q300 (by omega) (by omega), if_neg (by omega), hq, jcl_s, c', ite_b, if_pos rfl, itl q300 (by omega) (by omega), if_pos (by omega), jst_nI (by omega) (by omega), ec, show nI (i + 1) + 1 = nI (i + 1 + 1) from qadd _ 1, show nI (cnt (cb B) i) + 1 = nI (cnt (cb B) i + 1) from qadd _ 1]
    · have c' : al (rok B (i + 1)) 0 (B 10) = false := by
        rw [Bool.not_eq_true] at c
        exact c
      rw [if_neg c] at ec el
      refine ⟨(nI (cnt (cb B) (i + 1)), nI (i + 1 + 1), S'), ⟨_, rfl, ev, fun t ht hp => ?_, fun hl2 => ?_⟩, fun g => ?_⟩
      · rcases Nat.lt_or_ge t i with hl2 | hl2
        · exact hf t hl2 hp
        · have e : t = i := by omega
          subst e
          exact absurd hp c
      · rw [el]
        exact h0 (by omega)
      · dsimp only
        unfold f_X11_gatherFits_4 f_X11_gatherFits_38
        rw [itg q300 (by omega) (by omega), if_neg (by omega), hq, jcl_s, c', ite_b, if_neg (by decide), ec, show nI (i + 1) + 1 = nI (i + 1 + 1) from qadd _ 1]
        rfl
  · rintro _ ⟨S', rfl, ev, hf, h0⟩
    refine ⟨_, ⟨S', rfl, ev, hf, h0⟩, fun g => ?_⟩
    dsimp only
    unfold f_X11_gatherFits_4 f_X11_gatherFits_44
    rw [if_pos (by decide)]
theorem nar_bool (b : Bool) : vp_nar .boolean (bI b) = bI b := by cases b <;> rfl
theorem X12_layCan {S : jS} {B T : Nat → Nat} {tl : Nat} (hR : RR S B T tl) : ∃ S1, f_X12_layCan S = some S1 ∧ Ev S S1 ∧ S1.1 41 15 = nI (cnt (cb B) 300) ∧ S1.1 41 16 = lfs (cb B) 1 300 ∧ ∀ t, t < 300 → S1.1 52 (t + 1) = bI (cb B t) := by
  unfold f_X12_layCan f_X12_layCan_e
  rw [jpt_s, jpt_s]
  unfold lp_X12_layCan_12
  refine jloop_i (fun i a => ∃ S', a = (nI (i + 1), S') ∧ Ev S S' ∧ S'.1 41 15 = nI (cnt (cb B) i) ∧ S'.1 41 16 = lfs (cb B) 1 i ∧ ∀ t, t < i → S'.1 52 (t + 1) = bI (cb B t)) (fun r => ∃ S1, r = some S1 ∧ Ev S S1 ∧ S1.1 41 15 = nI (cnt (cb B) 300) ∧ S1.1 41 16 = lfs (cb B) 1 300 ∧ ∀ t, t < 300 → S1.1 52 (t + 1) = bI (cb B t)) 300 (by omega) ?_ ?_ ⟨_, rfl, (Ev.F S 41 15 0 (by omega)).tr (Ev.F _ 41 16 (-1) (by omega)), rfl, rfl, fun t ht => absurd ht (Nat.not_lt_zero t)⟩
  · rintro i hi _ ⟨S', rfl, ev, h15, h16, h52⟩
    have hq := X12_canBe (RR_ev hR ev) (show 0 < i + 1 by omega) (show i + 1 ≤ 300 by omega)
    have hl := cnt_le (cb B) i
    have ec : cnt (cb B) (i + 1) = cnt (cb B) i + (if cb B i = true then 1 else 0) := rfl
    have el : lfs (cb B) 1 (i + 1) = if cb B i = true then (if cnt (cb B) i = 0 then nI (i + 1) else lfs (cb B) 1 i) else lfs (cb B) 1 i := rfl
    refine ⟨(nI (i + 1 + 1), jsI (jsI (jsI S' 52 (i + 1) (bI (cb B i))) 41 16 (lfs (cb B) 1 (i + 1))) 41 15 (nI (cnt (cb B) (i + 1)))), ⟨_, rfl, ev.tr ((Ev.I S' 52 _ _ rfl (by omega) (by omega) (by omega)).tr ((Ev.F _ 41 16 _ (by omega)).tr (Ev.F _ 41 15 _ (by omega)))), rfl, rfl, fun t ht => ?_⟩, fun g => ?_⟩
    · show upd (S'.1 52) (i + 1) (bI (cb B i)) (t + 1) = _
      rw [upd_1]
      by_cases e : t = i
      · subst e
        rw [if_pos rfl]
      · rw [if_neg (by omega)]
        exact h52 t (by omega)
    · have g15 : (jsI S' 52 (i + 1) (bI (cb B i))).1 41 15 = nI (cnt (cb B) i) := h15
      have g16 : (jsI S' 52 (i + 1) (bI (cb B i))).1 41 16 = lfs (cb B) 1 i := h16
      have g52 : (jsI S' 52 (i + 1) (bI (cb B i))).1 52 (i + 1) = bI (cb B i) := upd_s _ _ _
      have k52 : ∀ v, (jsI (jsI S' 52 (i + 1) (bI (cb B i))) 41 16 v).1 52 (i + 1) = bI (cb B i) := fun v => g52
      have k15 : ∀ v, (jsI (jsI S' 52 (i + 1) (bI (cb B i))) 41 16 v).1 41 15 = nI (cnt (cb B) i) := fun v => h15
      dsimp only
      unfold f_X12_layCan_12 f_X12_layCan_51 f_X12_layCan_55 f_X12_layCan_77
      rw [itg q300 (by omega) (by omega), if_neg (by omega), hq, jcl_s]
      show jst S' 52 (nI (i + 1)) 301 (vp_nar .boolean (bI (cb B i))) _ = _
      rw [nar_bool, jst_nI (by omega) (by omega), jld_nI (by omega) (by omega), g52, ite_b, g15, itv q0 (by omega) (by omega), g16]
      simp only [jpt_s]
      rw [jld_nI (by omega) (by omega), jld_nI (by omega) (by omega), k52, k52, k15, k15]
      simp only [ite_b]
      rw [show nI (cnt (cb B) i) + 1 = nI (cnt (cb B) i + 1) from qadd _ 1, show nI (cnt (cb B) i) + 0 = nI (cnt (cb B) i + 0) from qadd _ 0, show nI (i + 1) + 1 = nI (i + 1 + 1) from qadd _ 1]
      by_cases c : cb B i = true
      · rw [if_pos c] at ec el
        simp only [if_pos c]
        by_cases c2 : cnt (cb B) i = 0
        · rw [if_pos c2, el, if_pos c2, ec]
        · rw [if_neg c2, el, if_neg c2, ec]
      · rw [if_neg c] at ec el
        simp only [if_neg c]
        rw [el, ec]
  · rintro _ ⟨S', rfl, ev, h15, h16, h52⟩
    refine ⟨_, ⟨S', rfl, ev, h15, h16, h52⟩, fun g => ?_⟩
    dsimp only
    unfold f_X12_layCan_12 f_X12_layCan_87
    rw [if_pos (by decide)]
theorem op_who (x : Int32) {S : jS} (h : GG S) : O2 (f_X11_who x S) (f_X12_who x) := by
  obtain ⟨B, T, tl, hR⟩ := id h
  cases hx : okr x 0 1 with
  | false =>
    refine O2_bad h (-10) ?_ ?_
    · unfold f_X11_who f_X11_who_e
      rw [X11_isBit, jcl_s, hx, ite_b, if_neg (by decide), X11_refuseBadApart, jcl_s]
    · unfold f_X12_who f_X12_who_e
      rw [X12_in01, jcl_s, hx, ite_b, if_neg (by decide), X12_bad, jcl_s]
      rfl
  | true =>
    obtain ⟨a, -, ha, rfl⟩ := okr_of hx (by omega)
    obtain ⟨S1, e1, ev1, hf, h0⟩ := X11_gatherFits hR
    obtain ⟨S2, e2, ev2, h15, h16, h52⟩ := X12_layCan (RR_ev hR ev1)
    have hl := cnt_le (cb B) 300
    rcases (show a = 0 ∨ a = 1 by omega) with rfl | rfl
    · refine O2_ev h (nI (cnt (cb B) 300)) ⟨S1, ?_, ev1, S2, ?_, ev2⟩
      · unfold f_X11_who f_X11_who_e
        rw [X11_isBit, jcl_s, hx, ite_b, if_pos rfl, e1, jcl_s, if_pos (by decide)]
      · unfold f_X12_who f_X12_who_e f_X12_who_36
        rw [X12_in01, jcl_s, hx, ite_b, if_pos rfl, e2, jcv_s, if_pos (by decide), h15]
    · refine O2_ev h (lfs (cb B) 1 300) ⟨S1, ?_, ev1, S2, ?_, ev2⟩
      · unfold f_X11_who f_X11_who_e f_X11_who_37
        rw [X11_isBit, jcl_s, hx, ite_b, if_pos rfl, e1, jcl_s, if_neg (by decide), itv q0 (by omega) (by omega), q0, jld_nI (by omega) (by omega)]
        by_cases c : cnt (cb B) 300 = 0
        · rw [if_pos c, lfs_0 _ _ _ c]
        · rw [if_neg c, h0 (by omega)]
      · unfold f_X12_who f_X12_who_e f_X12_who_36
        rw [X12_in01, jcl_s, hx, ite_b, if_pos rfl, e2, jcv_s, if_neg (by decide), h16]
/-! ===== tryNext ===== -/
theorem may_comm (k n a b : Nat) : may k n a b = may k n b a := by
  have e1 : pln a b = pln b a := by
    unfold pln
    rw [Bool.and_comm, show decide (a = b) = decide (b = a) by congr 1; apply propext; exact ⟨Eq.symm, Eq.symm⟩]
  have e2 : evn a b = evn b a := by
    unfold evn
    rw [Nat.add_comm]
  unfold may
  rw [e1, e2, Bool.and_comm (!prm a), Bool.and_comm (sqr a), Bool.and_comm (decide (pt a = b)), show decide (b + n ≤ a ∨ a + n ≤ b) = decide (a + n ≤ b ∨ b + n ≤ a) by congr 1; apply propext; exact ⟨Or.symm, Or.symm⟩]
/-- whom of those that can be the number x bears -/
def gq (B : Nat → Nat) (x t : Nat) : Bool := cb B t && may (B 8) (B 9) x (t + 1)
theorem cnt_c {p q : Nat → Bool} : ∀ n, (∀ i, i < n → p i = q i) → cnt p n = cnt q n
  | 0, _ => rfl
  | n + 1, h => by
    show cnt p n + (if p n = true then 1 else 0) = cnt q n + (if q n = true then 1 else 0)
    rw [cnt_c n (fun i hi => h i (by omega)), h n (by omega)]
/-- counting along the fits is counting along the numbers -/
theorem cnt_fit (p r : Nat → Bool) (F : Nat → Nat) (hF : ∀ t, t < 300 → p t = true → F (cnt p t) = t + 1) : ∀ i, i ≤ 300 → cnt (fun m => r (F m)) (cnt p i) = cnt (fun t => p t && r (t + 1)) i
  | 0, _ => rfl
  | i + 1, h => by
    have ih := cnt_fit p r F hF i (by omega)
    have ec : cnt p (i + 1) = cnt p i + (if p i = true then 1 else 0) := rfl
    show _ = cnt (fun t => p t && r (t + 1)) i + (if (p i && r (i + 1)) = true then 1 else 0)
    by_cases c : p i = true
    · rw [if_pos c] at ec
      rw [ec]
      show cnt (fun m => r (F m)) (cnt p i) + (if r (F (cnt p i)) = true then 1 else 0) = _
      rw [ih, hF i (by omega) c, c, Bool.true_and]
    · rw [if_neg c] at ec
      have ec : cnt p (i + 1) = cnt p i := ec
      rw [Bool.not_eq_true] at c
      rw [ec, ih, c, Bool.false_and]
      rfl
