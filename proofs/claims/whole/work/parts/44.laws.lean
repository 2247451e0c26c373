/-! ===== laws ===== -/
/-- m places from i on -/
def al (p : Nat → Bool) : Nat → Nat → Bool
  | _, 0 => true
  | i, m + 1 => p i && al p (i + 1) m
theorem al_s (p : Nat → Bool) (i m : Nat) : al p i (m + 1) = (p i && al p (i + 1) m) := rfl
/-- a note agrees with a law -/
def nok (B : Nat → Nat) (k n i : Nat) : Bool := may k n (B (45 + 3 * i)) (B (46 + 3 * i)) == decide (B (47 + 3 * i) = 1)
theorem bI_nI (b : Bool) {c : Nat} (hc : c ≤ 1) : (bI b = nI c) = ((b == decide (c = 1)) = true) := by
  rcases (show c = 0 ∨ c = 1 by omega) with rfl | rfl <;> cases b <;> simp [bI] <;> decide
theorem X11_agreesWithNotes {S : jS} {B T : Nat → Nat} {tl : Nat} (hR : RR S B T tl) {k n : Nat} (hk : k < 6) (hn : n < 10) : f_X11_agreesWithNotes (nI (10 * k + n)) S = some (bI (al (nok B k n) 0 (B 11)), S) := by
  obtain ⟨h1, hv, hm, hc, h5⟩ := hR
  have v11 := hv.2.2.2.2.1
  unfold f_X11_agreesWithNotes f_X11_agreesWithNotes_e lp_X11_agreesWithNotes_2
  refine jloop_wf (fun a => ∃ i, i ≤ B 11 ∧ a = (nI (10 * k + n), nI i, S)) (fun a => 8 - a.2.1.toNatClampNeg) (fun a => some (bI (al (nok B k n) a.2.1.toNatClampNeg (B 11 - a.2.1.toNatClampNeg)), S)) ?_ jN (nI (10 * k + n), 0, S) ⟨0, by omega, rfl⟩ (jN_big (by show 8 - (nI 0).toNatClampNeg < _; omega))
  rintro _ ⟨i, hi, rfl⟩ g hg
  dsimp only
  unfold f_X11_agreesWithNotes_2 f_X11_agreesWithNotes_72 f_X11_agreesWithNotes_80
  rw [qcl (by omega), hc.2.2.2.1, itlt (by omega) (by omega)]
  by_cases c : i < B 11
  · obtain ⟨s1, s2, s3, s4, s5⟩ := hv.2.2.2.2.2.2.2.1 i c
    have r1 : S.1 24 (3 * i) = nI (B (45 + 3 * i)) := hc.2.2.2.2.2.2.1 (3 * i) (by omega)
    have r2 : S.1 24 (3 * i + 1) = nI (B (46 + 3 * i)) := by
      have := hc.2.2.2.2.2.2.1 (3 * i + 1) (by omega)
      rw [show 45 + (3 * i + 1) = 46 + 3 * i by omega] at this
      exact this
    have r3 : S.1 24 (3 * i + 2) = nI (B (47 + 3 * i)) := by
      have := hc.2.2.2.2.2.2.1 (3 * i + 2) (by omega)
      rw [show 45 + (3 * i + 2) = 47 + 3 * i by omega] at this
      exact this
    rw [if_pos c, itl q8 (by omega) (by omega), if_pos (by omega), q3, qmul, show nI (3 * i) + 1 = nI (3 * i + 1) from qadd _ 1, show nI (3 * i) + 2 = nI (3 * i + 2) from qadd _ 2, jld_nI (by omega) (by omega), jld_nI (by omega) (by omega), r1, r2, X2_allows h1 hk hn s2 s4, jcl_s, X11_bit, jcl_s, jld_nI (by omega) (by omega), r3]
    have em : mayE k n (B (45 + 3 * i)) (B (46 + 3 * i)) = may k n (B (45 + 3 * i)) (B (46 + 3 * i)) := by
      unfold mayE
      rw [decide_eq_false (by omega), decide_eq_false (by omega)]
      rfl
    rw [em, show B 11 - i = (B 11 - (i + 1)) + 1 by omega, al_s]
    have eb := bI_nI (may k n (B (45 + 3 * i)) (B (46 + 3 * i))) s5
    by_cases c2 : nok B k n i = true
    · rw [if_pos (by rw [eb]; exact c2), show nI i + 1 = nI (i + 1) from qadd i 1]
      dsimp only
      rw [hg _ ⟨i + 1, by omega, rfl⟩ (by dsimp only; rw [qcl (by omega), qcl (by omega)]; omega), c2]
      dsimp only
      rw [qcl (by omega)]
      rfl
    · rw [if_neg (by rw [eb]; exact c2)]
      rw [Bool.not_eq_true] at c2
      rw [c2]
      rfl
  · rw [if_neg c, show B 11 - i = 0 by omega]
    rfl
theorem X12_isLawSo {S : jS} {B T : Nat → Nat} {tl : Nat} (hR : RR S B T tl) {k n : Nat} (hk : k < 6) (hn : n < 10) : f_X12_isLawSo (nI (10 * k + n)) S = some (bI (al (nok B k n) 0 (B 11)), S) := by
  obtain ⟨h1, hv, hm, hc, h5⟩ := hR
  have v11 := hv.2.2.2.2.1
  unfold f_X12_isLawSo f_X12_isLawSo_e lp_X12_isLawSo_4
  refine jloop_wf (fun a => ∃ i b, i ≤ B 11 ∧ a = (nI (10 * k + n), bI b, nI i, S)) (fun a => 8 - a.2.2.1.toNatClampNeg) (fun a => some (bI (!decide (a.2.1 = 0) && al (nok B k n) a.2.2.1.toNatClampNeg (B 11 - a.2.2.1.toNatClampNeg)), S)) ?_ jN (nI (10 * k + n), 1, 0, S) ⟨0, true, by omega, rfl⟩ (jN_big (by show 8 - (nI 0).toNatClampNeg < _; omega))
  rintro _ ⟨i, b, hi, rfl⟩ g hg
  dsimp only
  unfold f_X12_isLawSo_4 f_X12_isLawSo_73 f_X12_isLawSo_80 f_X12_isLawSo_81 f_X12_isLawSo_88
  have eb0 : (!decide (bI b = 0)) = b := by cases b <;> rfl
  rw [qcl (by omega), eb0, show (11 : Int32) = nI 11 from rfl, jld_nI (by omega) (by omega), hm 11 (by omega), itlt (by omega) (by omega), ite_b, show nI i + 1 = nI (i + 1) from qadd i 1]
  by_cases c : i < B 11
  · obtain ⟨s1, s2, s3, s4, s5⟩ := hv.2.2.2.2.2.2.2.1 i c
    have st : ∀ b' : Bool, g (nI (10 * k + n), bI b', nI (i + 1), S) = some (bI (b' && al (nok B k n) (i + 1) (B 11 - (i + 1))), S) := by
      intro b'
      rw [hg _ ⟨i + 1, b', by omega, rfl⟩ (by dsimp only; rw [qcl (by omega), qcl (by omega)]; omega)]
      dsimp only
      rw [qcl (by omega)]
      cases b' <;> rfl
    rw [if_pos c, show B 11 - i = (B 11 - (i + 1)) + 1 by omega, al_s]
    cases b
    · rw [if_neg (by decide)]
      exact st false
    · rw [if_pos rfl, q10, jdv_nI (by omega) (by omega) (by omega), jrm_nI (by omega) (by omega) (by omega), show (10 * k + n) / 10 = k by omega, show (10 * k + n) % 10 = n by omega, q3, qmul, show (45 : Int32) = nI 45 from rfl, qadd, show nI (45 + 3 * i) + 1 = nI (45 + 3 * i + 1) from qadd _ 1, show nI (45 + 3 * i) + 2 = nI (45 + 3 * i + 2) from qadd _ 2, jld_nI (by omega) (by omega), jld_nI (by omega) (by omega), hm _ (by omega), hm _ (by omega), show 45 + 3 * i + 1 = 46 + 3 * i by omega, show 45 + 3 * i + 2 = 47 + 3 * i by omega, X12_mayBy h1 hk hn s1 s2 s3 s4, jcl_s, jld_nI (by omega) (by omega), hm _ (by omega)]
      have f1 := st true
      have f0 := st false
      have e1 : nok B k n i = (may k n (B (45 + 3 * i)) (B (46 + 3 * i)) == decide (B (47 + 3 * i) = 1)) := rfl
      rw [e1]
      rcases (show B (47 + 3 * i) = 0 ∨ B (47 + 3 * i) = 1 by omega) with e | e
      · rw [e]
        cases may k n (B (45 + 3 * i)) (B (46 + 3 * i))
        · exact f1
        · exact f0
      · rw [e]
        cases may k n (B (45 + 3 * i)) (B (46 + 3 * i))
        · exact f0
        · exact f1
  · rw [if_neg c, show B 11 - i = 0 by omega, jzr_b]
    cases b <;> rfl
def lfs (p : Nat → Bool) (o : Nat) : Nat → Int32
  | 0 => -1
  | i + 1 => if p i = true then (if cnt p i = 0 then nI (i + o) else lfs p o i) else lfs p o i
theorem op_laws (x : Int32) {S : jS} (h : GG S) : O2 (f_X11_laws x S) (f_X12_laws x) := by
  obtain ⟨B, T, tl, hR⟩ := id h
  cases hx : okr x 0 1 with
  | false =>
    refine O2_bad h (-10) ?_ ?_
    · unfold f_X11_laws f_X11_laws_e
      rw [X11_isBit, jcl_s, hx, ite_b, if_neg (by decide), X11_refuseBadApart, jcl_s]
    · unfold f_X12_laws f_X12_laws_e
      rw [X12_in01, jcl_s, hx, ite_b, if_neg (by decide), X12_bad, jcl_s]
      rfl
  | true =>
    obtain ⟨a, -, ha, rfl⟩ := okr_of hx (by omega)
    have el : ∀ i, 10 * (i / 10) + i % 10 = i := by intro i; omega
    have e11 : f_X11_laws (nI a) S = f_X11_laws_55 (nI a) (nI (cnt (fun l => al (nok B (l / 10) (l % 10)) 0 (B 11)) 60)) (lfs (fun l => al (nok B (l / 10) (l % 10)) 0 (B 11)) 0 60) S := by
      unfold f_X11_laws f_X11_laws_e
      rw [X11_isBit, jcl_s, hx, ite_b, if_pos rfl]
      unfold lp_X11_laws_19
      refine jloop_u (fun i => (nI a, nI (cnt (fun l => al (nok B (l / 10) (l % 10)) 0 (B 11)) i), lfs (fun l => al (nok B (l / 10) (l % 10)) 0 (B 11)) 0 i, nI i, S)) 60 rfl (by omega) (fun i hi g => ?_) (fun g => ?_)
      · have hq := X11_agreesWithNotes hR (show i / 10 < 6 by omega) (show i % 10 < 10 by omega)
        rw [el] at hq
        have hc := cnt_le (fun l => al (nok B (l / 10) (l % 10)) 0 (B 11)) i
        dsimp only
        unfold f_X11_laws_19 f_X11_laws_45 f_X11_laws_49
        rw [itl (show (60 : Int32) = nI 60 from rfl) (by omega) (by omega), if_pos hi, hq, jcl_s, ite_b, itv q0 (by omega) (by omega), show nI i + 1 = nI (i + 1) from qadd i 1, show nI (cnt (fun l => al (nok B (l / 10) (l % 10)) 0 (B 11)) i) + 1 = nI (cnt (fun l => al (nok B (l / 10) (l % 10)) 0 (B 11)) i + 1) from qadd _ 1]
        dsimp only
        show _ = g (nI a, nI (cnt (fun l => al (nok B (l / 10) (l % 10)) 0 (B 11)) i + (if al (nok B (i / 10) (i % 10)) 0 (B 11) = true then 1 else 0)), (if al (nok B (i / 10) (i % 10)) 0 (B 11) = true then (if cnt (fun l => al (nok B (l / 10) (l % 10)) 0 (B 11)) i = 0 then nI (i + 0) else lfs (fun l => al (nok B (l / 10) (l % 10)) 0 (B 11)) 0 i) else lfs (fun l => al (nok B (l / 10) (l % 10)) 0 (B 11)) 0 i), nI (i + 1), S)
        by_cases c : al (nok B (i / 10) (i % 10)) 0 (B 11) = true
        · rw [if_pos c, if_pos c, if_pos c]
          by_cases c2 : cnt (fun l => al (nok B (l / 10) (l % 10)) 0 (B 11)) i = 0
          · rw [if_pos c2, if_pos c2]; rfl
          · rw [if_neg c2, if_neg c2]
        · rw [if_neg c, if_neg c, if_neg c]; rfl
      · dsimp only
        unfold f_X11_laws_19
        rw [if_neg (by decide)]
    have e12 : f_X12_laws (nI a) S = f_X12_laws_74 (nI a) (nI (cnt (fun l => al (nok B (l / 10) (l % 10)) 0 (B 11)) 60)) (lfs (fun l => al (nok B (l / 10) (l % 10)) 0 (B 11)) 0 60) S := by
      unfold f_X12_laws f_X12_laws_e
      rw [X12_in01, jcl_s, hx, ite_b, if_pos rfl]
      unfold lp_X12_laws_24
      refine jloop_u (fun i => (nI a, nI (cnt (fun l => al (nok B (l / 10) (l % 10)) 0 (B 11)) i), lfs (fun l => al (nok B (l / 10) (l % 10)) 0 (B 11)) 0 i, nI i, S)) 60 rfl (by omega) (fun i hi g => ?_) (fun g => ?_)
      · have hq := X12_isLawSo hR (show i / 10 < 6 by omega) (show i % 10 < 10 by omega)
        rw [el] at hq
        have hc := cnt_le (fun l => al (nok B (l / 10) (l % 10)) 0 (B 11)) i
        dsimp only
        unfold f_X12_laws_24 f_X12_laws_53 f_X12_laws_54 f_X12_laws_66
        rw [itl (show (60 : Int32) = nI 60 from rfl) (by omega) (by omega), if_pos hi, hq, jcl_s]
        simp only [ite_b]
        rw [itv q0 (by omega) (by omega), show nI i + 1 = nI (i + 1) from qadd i 1, show nI (cnt (fun l => al (nok B (l / 10) (l % 10)) 0 (B 11)) i) + 1 = nI (cnt (fun l => al (nok B (l / 10) (l % 10)) 0 (B 11)) i + 1) from qadd _ 1, show nI (cnt (fun l => al (nok B (l / 10) (l % 10)) 0 (B 11)) i) + 0 = nI (cnt (fun l => al (nok B (l / 10) (l % 10)) 0 (B 11)) i + 0) from qadd _ 0]
        show _ = g (nI a, nI (cnt (fun l => al (nok B (l / 10) (l % 10)) 0 (B 11)) i + (if al (nok B (i / 10) (i % 10)) 0 (B 11) = true then 1 else 0)), (if al (nok B (i / 10) (i % 10)) 0 (B 11) = true then (if cnt (fun l => al (nok B (l / 10) (l % 10)) 0 (B 11)) i = 0 then nI (i + 0) else lfs (fun l => al (nok B (l / 10) (l % 10)) 0 (B 11)) 0 i) else lfs (fun l => al (nok B (l / 10) (l % 10)) 0 (B 11)) 0 i), nI (i + 1), S)
        by_cases c : al (nok B (i / 10) (i % 10)) 0 (B 11) = true
        · simp only [if_pos c]
          by_cases c2 : cnt (fun l => al (nok B (l / 10) (l % 10)) 0 (B 11)) i = 0
          · rw [if_pos c2, if_pos c2]; rfl
          · rw [if_neg c2, if_neg c2]
        · simp only [if_neg c]
      · dsimp only
        unfold f_X12_laws_24
        rw [if_neg (by decide)]
    rcases (show a = 0 ∨ a = 1 by omega) with rfl | rfl
    · exact ⟨_, S, S, e11, e12, h⟩
    · exact ⟨_, S, S, e11, e12, h⟩
/-! ===== who ===== -/
def rok (B : Nat → Nat) (x i : Nat) : Bool := may (B (15 + 4 * i)) (B (16 + 4 * i)) x (B (13 + 4 * i)) == decide (B (14 + 4 * i) = 1)
def cb (B : Nat → Nat) (j : Nat) : Bool := al (rok B (j + 1)) 0 (B 10)
theorem X11_agreesWithReadings {S : jS} {B T : Nat → Nat} {tl : Nat} (hR : RR S B T tl) {x : Nat} (hx0 : 0 < x) (hx : x ≤ 300) : f_X11_agreesWithReadings (nI x) S = some (bI (al (rok B x) 0 (B 10)), S) := by
  obtain ⟨h1, hv, hm, hc, h5⟩ := hR
  have v10 := hv.2.2.2.1
  unfold f_X11_agreesWithReadings f_X11_agreesWithReadings_e lp_X11_agreesWithReadings_2
  refine jloop_wf (fun a => ∃ i, i ≤ B 10 ∧ a = (nI x, nI i, S)) (fun a => 8 - a.2.1.toNatClampNeg) (fun a => some (bI (al (rok B x) a.2.1.toNatClampNeg (B 10 - a.2.1.toNatClampNeg)), S)) ?_ jN (nI x, 0, S) ⟨0, by omega, rfl⟩ (jN_big (by show 8 - (nI 0).toNatClampNeg < _; omega))
  rintro _ ⟨i, hi, rfl⟩ g hg
  dsimp only
  unfold f_X11_agreesWithReadings_2 f_X11_agreesWithReadings_72 f_X11_agreesWithReadings_80
  rw [qcl (by omega), hc.2.2.1, itlt (by omega) (by omega)]
  by_cases c : i < B 10
  · obtain ⟨s1, s2, s3, s4, s5⟩ := hv.2.2.2.2.2.2.1 i c
    obtain ⟨r1, r2, r3⟩ := hc.2.2.2.2.2.1 i c
    have r1 : S.1 23 (3 * i) = nI (B (13 + 4 * i)) := r1
    have r2 : S.1 23 (3 * i + 1) = nI (B (14 + 4 * i)) := r2
    have r3 : S.1 23 (3 * i + 2) = nI (10 * B (15 + 4 * i) + B (16 + 4 * i)) := r3
    rw [if_pos c, itl q8 (by omega) (by omega), if_pos (by omega), q3, qmul, show nI (3 * i) + 1 = nI (3 * i + 1) from qadd _ 1, show nI (3 * i) + 2 = nI (3 * i + 2) from qadd _ 2, jld_nI (by omega) (by omega), jld_nI (by omega) (by omega), r1, r3, X2_allows h1 s4 s5 hx s2, jcl_s, X11_bit, jcl_s, jld_nI (by omega) (by omega), r2]
    have em : mayE (B (15 + 4 * i)) (B (16 + 4 * i)) x (B (13 + 4 * i)) = may (B (15 + 4 * i)) (B (16 + 4 * i)) x (B (13 + 4 * i)) := by
      unfold mayE
      rw [decide_eq_false (by omega), decide_eq_false (by omega)]
      rfl
    rw [em, show B 10 - i = (B 10 - (i + 1)) + 1 by omega, al_s]
    have eb := bI_nI (may (B (15 + 4 * i)) (B (16 + 4 * i)) x (B (13 + 4 * i))) s3
    by_cases c2 : rok B x i = true
    · rw [if_pos (by rw [eb]; exact c2), show nI i + 1 = nI (i + 1) from qadd i 1]
      dsimp only
      rw [hg _ ⟨i + 1, by omega, rfl⟩ (by dsimp only; rw [qcl (by omega), qcl (by omega)]; omega), c2]
      dsimp only
      rw [qcl (by omega)]
      rfl
    · rw [if_neg (by rw [eb]; exact c2)]
      rw [Bool.not_eq_true] at c2
      rw [c2]
      rfl
  · rw [if_neg c, show B 10 - i = 0 by omega]
    rfl
theorem X12_canBe {S : jS} {B T : Nat → Nat} {tl : Nat} (hR : RR S B T tl) {x : Nat} (hx0 : 0 < x) (hx : x ≤ 300) : f_X12_canBe (nI x) S = some (bI (al (rok B x) 0 (B 10)), S) := by
  obtain ⟨h1, hv, hm, hc, h5⟩ := hR
  have v10 := hv.2.2.2.1
  unfold f_X12_canBe f_X12_canBe_e lp_X12_canBe_4
  refine jloop_wf (fun a => ∃ i b, i ≤ B 10 ∧ a = (nI x, bI b, nI i, S)) (fun a => 8 - a.2.2.1.toNatClampNeg) (fun a => some (bI (!decide (a.2.1 = 0) && al (rok B x) a.2.2.1.toNatClampNeg (B 10 - a.2.2.1.toNatClampNeg)), S)) ?_ jN (nI x, 1, 0, S) ⟨0, true, by omega, rfl⟩ (jN_big (by show 8 - (nI 0).toNatClampNeg < _; omega))
  rintro _ ⟨i, b, hi, rfl⟩ g hg
  dsimp only
  unfold f_X12_canBe_4 f_X12_canBe_75 f_X12_canBe_83 f_X12_canBe_90
  have eb0 : (!decide (bI b = 0)) = b := by cases b <;> rfl
  rw [qcl (by omega), eb0, q10, jld_nI (by omega) (by omega), hm 10 (by omega), itlt (by omega) (by omega), ite_b, show nI i + 1 = nI (i + 1) from qadd i 1]
  by_cases c : i < B 10
  · obtain ⟨s1, s2, s3, s4, s5⟩ := hv.2.2.2.2.2.2.1 i c
    have st : ∀ b' : Bool, g (nI x, bI b', nI (i + 1), S) = some (bI (b' && al (rok B x) (i + 1) (B 10 - (i + 1))), S) := by
      intro b'
      rw [hg _ ⟨i + 1, b', by omega, rfl⟩ (by dsimp only; rw [qcl (by omega), qcl (by omega)]; omega)]
      dsimp only
      rw [qcl (by omega)]
      cases b' <;> rfl
    rw [if_pos c, show B 10 - i = (B 10 - (i + 1)) + 1 by omega, al_s]
    cases b
    · rw [if_neg (by decide), jzr_b]
      rfl
    · rw [if_pos rfl, q4, qmul, show (13 : Int32) = nI 13 from rfl, qadd, show nI (13 + 4 * i) + 1 = nI (13 + 4 * i + 1) from qadd _ 1, show nI (13 + 4 * i) + 2 = nI (13 + 4 * i + 2) from qadd _ 2, show nI (13 + 4 * i) + 3 = nI (13 + 4 * i + 3) from qadd _ 3, jld_nI (by omega) (by omega), jld_nI (by omega) (by omega), jld_nI (by omega) (by omega), hm _ (by omega), hm _ (by omega), hm _ (by omega), show 13 + 4 * i + 1 = 14 + 4 * i by omega, show 13 + 4 * i + 2 = 15 + 4 * i by omega, show 13 + 4 * i + 3 = 16 + 4 * i by omega, X12_mayBy h1 s4 s5 hx0 hx s1 s2, jcl_s, jld_nI (by omega) (by omega), hm _ (by omega)]
      have f1 := st true
      have f0 := st false
      have e1 : rok B x i = (may (B (15 + 4 * i)) (B (16 + 4 * i)) x (B (13 + 4 * i)) == decide (B (14 + 4 * i) = 1)) := rfl
      rw [e1]
      rcases (show B (14 + 4 * i) = 0 ∨ B (14 + 4 * i) = 1 by omega) with e | e
      · rw [e]
        cases may (B (15 + 4 * i)) (B (16 + 4 * i)) x (B (13 + 4 * i))
        · exact f1
        · exact f0
      · rw [e]
        cases may (B (15 + 4 * i)) (B (16 + 4 * i)) x (B (13 + 4 * i))
        · exact f0
        · exact f1
  · rw [if_neg c, show B 10 - i = 0 by omega, jzr_b]
    cases b <;> rfl
