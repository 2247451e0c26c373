/-! ===== street, undo ===== -/
theorem jloop_u {α β : Type} {B : (α → Option β) → α → Option β} {r : Option β} (st : Nat → α) (n : Nat) {a : α} (h0 : a = st 0) (hn : n < 1000000000) (h : ∀ i, i < n → ∀ g : α → Option β, B g (st i) = g (st (i + 1))) (he : ∀ g : α → Option β, B g (st n) = r) : jloop B jN a = r := by
  rw [h0]
  exact jloop_up st n hn h he
theorem upd_s (f : Nat → Int32) (k : Nat) (v : Int32) : upd f k v k = v := if_pos rfl
theorem upd_n (f : Nat → Int32) {k : Nat} (v : Int32) {j : Nat} (h : j ≠ k) : upd f k v j = f j := if_neg h
theorem jsI_d (S : jS) (k j : Nat) (v : Int32) : jsI S k j v = jsR S k (upd (S.1 k) j v) := rfl
theorem jsR_s (S : jS) (k : Nat) (f : Nat → Int32) : (jsR S k f).1 k = f := if_pos rfl
theorem jsR_n (S : jS) {k a : Nat} (f : Nat → Int32) (h : a ≠ k) : (jsR S k f).1 a = S.1 a := if_neg h
/-- the first n places of an array are 0 -/
def zr (n : Nat) (f : Nat → Int32) : Nat → Int32 := fun j => if j < n then 0 else f j
theorem zr_0 (f : Nat → Int32) : zr 0 f = f := by
  funext j
  exact if_neg (Nat.not_lt_zero j)
theorem zr_s (n : Nat) (f : Nat → Int32) : upd (zr n f) n 0 = zr (n + 1) f := by
  funext j
  unfold zr
  rw [upd_1]
  by_cases h : j = n
  · rw [if_pos h, if_pos (by omega)]
  · rw [if_neg h]
    by_cases h2 : j < n
    · rw [if_pos h2, if_pos (by omega)]
    · rw [if_neg h2, if_neg (by omega)]
theorem X12_begin42 (x y : Int32) (S : jS) : f_X12_begin_r42 x y S = some (jsR S 42 (upd (upd (zr 69 (S.1 42)) 8 x) 9 y)) := by
  unfold f_X12_begin_r42 f_X12_begin_r42_e lp_X12_begin_r42_2
  refine jloop_u (fun i => (x, y, nI i, jsR S 42 (zr i (S.1 42)))) 69 (by rw [zr_0, jsR_self]; rfl) (by omega) (fun i hi g => ?_) (fun g => ?_)
  · dsimp only
    unfold f_X12_begin_r42_2
    rw [itl (show (69 : Int32) = nI 69 from rfl) (by omega) (by omega), if_pos hi, jst_nI (by omega) (by omega), jsI_R, zr_s, q1, qadd]
  · dsimp only
    unfold f_X12_begin_r42_2 f_X12_begin_r42_18
    rw [if_neg (by decide), q8, q9, jst_nI (by omega) (by omega), jst_nI (by omega) (by omega), jsI_R, jsI_R]
theorem X12_begin54 (x y : Int32) (S : jS) : f_X12_begin_r54 x y S = some (jsR S 54 (upd (upd (zr 69 (S.1 54)) 8 x) 9 y)) := by
  unfold f_X12_begin_r54 f_X12_begin_r54_e lp_X12_begin_r54_2
  refine jloop_u (fun i => (x, y, nI i, jsR S 54 (zr i (S.1 54)))) 69 (by rw [zr_0, jsR_self]; rfl) (by omega) (fun i hi g => ?_) (fun g => ?_)
  · dsimp only
    unfold f_X12_begin_r54_2
    rw [itl (show (69 : Int32) = nI 69 from rfl) (by omega) (by omega), if_pos hi, jst_nI (by omega) (by omega), jsI_R, zr_s, q1, qadd]
  · dsimp only
    unfold f_X12_begin_r54_2 f_X12_begin_r54_18
    rw [if_neg (by decide), q8, q9, jst_nI (by omega) (by omega), jst_nI (by omega) (by omega), jsI_R, jsI_R]
/-- the State's fields behind a beginning -/
def bg21 (f : Nat → Int32) (x : Int32) : Nat → Int32 := upd (upd (upd (upd f 1 x) 3 0) 5 0) 6 0
theorem X10_begin (x : Int32) (S : jS) : f_X10_begin x S = some (jsR (jsR S 22 (zr 8 (S.1 22))) 21 (bg21 (S.1 21) x)) := by
  unfold f_X10_begin f_X10_begin_e lp_X10_begin_2
  refine jloop_u (fun i => (x, nI i, jsR S 22 (zr i (S.1 22)))) 8 (by rw [zr_0, jsR_self]; rfl) (by omega) (fun i hi g => ?_) (fun g => ?_)
  · dsimp only
    unfold f_X10_begin_2
    rw [itl q8 (by omega) (by omega), if_pos hi, jst_nI (by omega) (by omega), jsI_R, zr_s, q1, qadd]
  · dsimp only
    unfold f_X10_begin_2 f_X10_begin_21
    rw [if_neg (by decide), jpt_s, jpt_s, jpt_s, jpt_s]
    simp only [jsI_d, jsR_R, jsR_s]
    rfl
def begB (B : Nat → Nat) (k n : Nat) : Nat → Nat := upB (upB (fun j => if j < 69 then 0 else B j) 8 k) 9 n
theorem begB_0 (B : Nat → Nat) (k n : Nat) {j : Nat} (h1 : j ≠ 8) (h2 : j ≠ 9) (h3 : j < 69) : begB B k n j = 0 := by
  unfold begB
  rw [upB_n _ h2, upB_n _ h1]
  exact if_pos h3
theorem begB_8 (B : Nat → Nat) (k n : Nat) : begB B k n 8 = k := rfl
theorem begB_9 (B : Nat → Nat) (k n : Nat) : begB B k n 9 = n := rfl
theorem vB_begB (B : Nat → Nat) {k n : Nat} (hk : k < 6) (hn : n < 10) : vB (begB B k n) := by
  refine ⟨fun j hj => ?_, hk, hn, Nat.zero_le _, Nat.zero_le _, Nat.zero_le _, fun i hi => ?_, fun i hi => ?_, fun i hi => ?_⟩
  · rw [begB_0 B k n (by omega) (by omega) (by omega)]; omega
  · exact absurd hi (Nat.not_lt_zero i)
  · exact absurd hi (Nat.not_lt_zero i)
  · exact absurd hi (Nat.not_lt_zero i)
theorem mB_begB {f : Nat → Int32} {B : Nat → Nat} (h : mB f B) (k n : Nat) : mB (upd (upd (zr 69 f) 8 (nI k)) 9 (nI n)) (begB B k n) := by
  refine mB_up (mB_up (fun j hj => ?_) 8 k) 9 n
  unfold zr
  by_cases h1 : j < 69
  · rw [if_pos h1, if_pos h1]; rfl
  · rw [if_neg h1, if_neg h1]; exact h j hj
theorem cB_begB {S : jS} {B : Nat → Nat} {k n : Nat} (h22 : ∀ j, j < 8 → S.1 22 j = 0) (h1 : S.1 21 1 = nI (10 * k + n)) (h3 : S.1 21 3 = 0) (h5 : S.1 21 5 = 0) (h6 : S.1 21 6 = 0) : cB S 21 (begB B k n) := by
  refine ⟨fun j hj => ?_, h1, h3, h5, h6, fun i hi => ?_, fun i hi => ?_, fun i hi => ?_⟩
  · rw [begB_0 B k n (by omega) (by omega) (by omega)]; exact h22 j hj
  · exact absurd hi (Nat.not_lt_zero i)
  · exact absurd hi (Nat.not_lt_zero i)
  · exact absurd hi (Nat.not_lt_zero i)
theorem op_street (x y : Int32) {S : jS} (h : GG S) : O2 (f_X11_street x y S) (f_X12_street x y) := by
  obtain ⟨B, T, tl, hR⟩ := id h
  cases hx : (okr x 0 5 && okr y 0 9) with
  | false =>
    refine O2_bad h (-2) ?_ ?_
    · unfold f_X11_street f_X11_street_e
      rw [X11_isLaw, jcl_s, hx, ite_b, if_neg (by decide), X11_refuseBad, jcl_s]
    · unfold f_X12_street f_X12_street_e
      rw [X12_isLaw, jcl_s, hx, ite_b, if_neg (by decide), X12_bad, jcl_s]
      rfl
  | true =>
    have hx' := hx
    rw [Bool.and_eq_true] at hx'
    obtain ⟨k, -, hk, rfl⟩ := okr_of hx'.1 (by omega)
    obtain ⟨n, -, hn, rfl⟩ := okr_of hx'.2 (by omega)
    obtain ⟨h1, hv, hm, hc, h5⟩ := id hR
    refine ⟨nI (lvc B), jsR (jsR S 22 (zr 8 (S.1 22))) 21 (bg21 (S.1 21) (nI (10 * k + n))), jsR (jsR (jsR S 22 (zr 8 (S.1 22))) 21 (bg21 (S.1 21) (nI (10 * k + n)))) 42 (upd (upd (zr 69 (S.1 42)) 8 (nI k)) 9 (nI n)), ?_, ?_, begB B k n, T, tl, RR_mk hR rfl ?_ ?_ ?_ ?_⟩
    · unfold f_X11_street f_X11_street_e
      rw [X11_isLaw, jcl_s, hx, ite_b, if_pos rfl, X10_living hv hc.1, jcl_s, q10, qmul, qadd, X10_begin, jcv_s]
    · unfold f_X12_street f_X12_street_e
      rw [X12_isLaw, jcl_s, hx, ite_b, if_pos rfl, X12_lvb _ hv (show mB ((jsR (jsR S 22 (zr 8 (S.1 22))) 21 (bg21 (S.1 21) (nI (10 * k + n)))).1 42) B from hm), X12_begin42, jcv_s]
      rfl
    · intro j g1 g2
      rw [jsR_1, if_neg g1, jsR_1, if_neg (by omega), jsR_1, if_neg (by omega)]
    · exact vB_begB B (by omega) (by omega)
    · exact mB_begB hm k n
    · refine cB_begB (fun j hj => ?_) rfl rfl rfl rfl
      exact if_pos hj
def ubB (B : Nat → Nat) (c : Nat) : Nat → Nat := fun j => if j = 12 then c else if j < 10 then B (69 + 10 * c + j) else B j
theorem ubB_l (B : Nat → Nat) (c : Nat) {j : Nat} (h : j < 10) : ubB B c j = B (69 + 10 * c + j) := by
  unfold ubB
  rw [if_neg (by omega), if_pos h]
theorem ubB_h (B : Nat → Nat) (c : Nat) {j : Nat} (h : 10 ≤ j) (h2 : j ≠ 12) : ubB B c j = B j := by
  unfold ubB
  rw [if_neg h2, if_neg (by omega)]
theorem vB_ubB {B : Nat → Nat} (hv : vB B) {c : Nat} (hc : c + 1 = B 12) : vB (ubB B c) := by
  obtain ⟨h1, h2, h3, h4, h5, h6, h7, h8, h9⟩ := hv
  obtain ⟨p1, p2, p3⟩ := h9 c (by omega)
  have e12 : ubB B c 12 = c := rfl
  refine ⟨fun j hj => ?_, ?_, ?_, ?_, ?_, ?_, fun i hi => ?_, fun i hi => ?_, fun i hi => ?_⟩
  · rw [ubB_l B c (by omega)]; exact p1 j hj
  · rw [ubB_l B c (by omega), show 69 + 10 * c + 8 = 77 + 10 * c by omega]; exact p2
  · rw [ubB_l B c (by omega), show 69 + 10 * c + 9 = 78 + 10 * c by omega]; exact p3
  · rw [ubB_h B c (by omega) (by omega)]; exact h4
  · rw [ubB_h B c (by omega) (by omega)]; exact h5
  · rw [e12]; omega
  · rw [ubB_h B c (by omega) (by omega)] at hi
    rw [ubB_h B c (by omega) (by omega), ubB_h B c (by omega) (by omega), ubB_h B c (by omega) (by omega), ubB_h B c (by omega) (by omega)]
    exact h7 i hi
  · rw [ubB_h B c (by omega) (by omega)] at hi
    rw [ubB_h B c (by omega) (by omega), ubB_h B c (by omega) (by omega), ubB_h B c (by omega) (by omega)]
    exact h8 i hi
  · rw [e12] at hi
    obtain ⟨r1, r2, r3⟩ := h9 i (by omega)
    rw [ubB_h B c (j := 77 + 10 * i) (by omega) (by omega), ubB_h B c (j := 78 + 10 * i) (by omega) (by omega)]
    refine ⟨fun q hq => ?_, r2, r3⟩
    rw [ubB_h B c (by omega) (by omega)]
    exact r1 q hq
theorem X10_goBack {S : jS} {B : Nat → Nat} (hv : vB B) (hc : cB S 21 B) {c : Nat} (h12 : c + 1 = B 12) : ∃ S1, f_X10_goBack S = some (bI true, S1) ∧ S1.2 = S.2 ∧ (∀ k, k ≠ 21 → k ≠ 22 → S1.1 k = S.1 k) ∧ cB S1 21 (ubB B c) := by
  obtain ⟨c1, c2, c3, c4, c5, c6, c7, c8⟩ := hc
  have hle : B 12 ≤ 8 := hv.2.2.2.2.2.1
  have e6 : (jsI S 21 6 (nI c)).1 21 6 = nI c := rfl
  refine ⟨jsI (jsR (jsI S 21 6 (nI c)) 22 (va_cpy (S.1 25) (S.1 22) (c * 9) 0 8)) 21 1 (S.1 25 (c * 9 + 8)), ?_, rfl, fun k h1 h2 => ?_, ?_⟩
  · unfold f_X10_goBack f_X10_goBack_e
    rw [c5, itl q1 (by omega) (by omega), if_neg (by omega), q1, qsub (by omega), show B 12 - 1 = c by omega, jpt_s, e6, q9, qmul, q0, show (8 : Int32) = nI 8 from rfl, jcp_nI (by omega) (by omega) (by omega) (by omega), qadd, jld_nI (by omega) (by omega), jpt_s]
    rfl
  · rw [jsI_1, if_neg h1, jsR_1, if_neg h2, jsI_1, if_neg h1]
  · obtain ⟨p1, p2⟩ := c8 c (by omega)
    have e12 : ubB B c 12 = c := rfl
    refine ⟨fun j hj => ?_, ?_, ?_, ?_, rfl, fun i hi => ?_, fun i hi => ?_, fun i hi => ?_⟩
    · show va_cpy (S.1 25) (S.1 22) (c * 9) 0 8 j = _
      unfold va_cpy
      rw [if_pos (by omega), ubB_l B c (by omega), ← p1 j hj, show c * 9 + (j - 0) = 9 * c + j by omega]
    · show S.1 25 (c * 9 + 8) = _
      rw [ubB_l B c (by omega), ubB_l B c (by omega), show c * 9 + 8 = 9 * c + 8 by omega, show 69 + 10 * c + 8 = 77 + 10 * c by omega, show 69 + 10 * c + 9 = 78 + 10 * c by omega]
      exact p2
    · rw [ubB_h B c (by omega) (by omega)]; exact c3
    · rw [ubB_h B c (by omega) (by omega)]; exact c4
    · rw [ubB_h B c (by omega) (by omega)] at hi
      rw [ubB_h B c (by omega) (by omega), ubB_h B c (by omega) (by omega), ubB_h B c (by omega) (by omega), ubB_h B c (by omega) (by omega)]
      exact c6 i hi
    · rw [ubB_h B c (by omega) (by omega)] at hi
      rw [ubB_h B c (by omega) (by omega)]
      exact c7 i hi
    · rw [e12] at hi
      obtain ⟨r1, r2⟩ := c8 i (by omega)
      rw [ubB_h B c (j := 77 + 10 * i) (by omega) (by omega), ubB_h B c (j := 78 + 10 * i) (by omega) (by omega)]
      refine ⟨fun q hq => ?_, r2⟩
      rw [ubB_h B c (by omega) (by omega)]
      exact r1 q hq
theorem X12_undo_28 {k66 : jS → Option (Int32 × jS)} {S : jS} {c : Nat} (hc : c < 8) (h12 : S.1 42 12 = nI c) : lp_X12_undo_28 k66 0 S = k66 (jsR S 42 (fun j => if j < 10 then S.1 42 (69 + 10 * c + j) else S.1 42 j)) := by
  unfold lp_X12_undo_28
  have e0 : (fun j => if j < 0 then S.1 42 (69 + 10 * c + j) else S.1 42 j) = S.1 42 := by
    funext j
    exact if_neg (Nat.not_lt_zero j)
  refine jloop_u (fun i => (nI i, jsR S 42 (fun j => if j < i then S.1 42 (69 + 10 * c + j) else S.1 42 j))) 10 (by show (0, S) = (nI 0, jsR S 42 (fun j => if j < 0 then S.1 42 (69 + 10 * c + j) else S.1 42 j)); rw [e0, jsR_self]; rfl) (by omega) (fun i hi g => ?_) (fun g => ?_)
  · dsimp only
    unfold f_X12_undo_28
    have e1 : (jsR S 42 (fun j => if j < i then S.1 42 (69 + 10 * c + j) else S.1 42 j)).1 42 12 = nI c := by
      rw [jsR_s, if_neg (by omega)]
      exact h12
    have e2 : (jsR S 42 (fun j => if j < i then S.1 42 (69 + 10 * c + j) else S.1 42 j)).1 42 (69 + 10 * c + i) = S.1 42 (69 + 10 * c + i) := by
      rw [jsR_s, if_neg (by omega)]
    rw [itl q10 (by omega) (by omega), if_pos hi, show (12 : Int32) = nI 12 from rfl, jld_nI (by omega) (by omega), e1, q10, qmul, show (69 : Int32) = nI 69 from rfl, qadd, qadd, jld_nI (by omega) (by omega), e2, jst_nI (by omega) (by omega), jsI_R, q1, qadd]
    dsimp only
    congr 3
    funext j
    rw [upd_1]
    by_cases h : j = i
    · rw [if_pos h, if_pos (by omega), h]
    · rw [if_neg h]
      by_cases h2 : j < i
      · rw [if_pos h2, if_pos (by omega)]
      · rw [if_neg h2, if_neg (by omega)]
  · dsimp only
    unfold f_X12_undo_28
    rw [if_neg (by decide)]
theorem op_undo {S : jS} (h : GG S) : O2 (f_X11_undo S) f_X12_undo := by
  obtain ⟨B, T, tl, hR⟩ := id h
  obtain ⟨h1, hv, hm, hc, h5⟩ := id hR
  have hle : B 12 ≤ 8 := hv.2.2.2.2.2.1
  by_cases h0 : B 12 = 0
  · refine O2_no h (-3) ?_ ?_
    · unfold f_X11_undo f_X11_undo_e f_X10_goBack f_X10_goBack_e
      rw [hc.2.2.2.2.1, itl q1 (by omega) (by omega), if_pos (by omega), jzr_0, jcl_s, ite_b, if_neg (by decide), X11_refuseNo, jcl_s]
    · unfold f_X12_undo f_X12_undo_e
      rw [show (12 : Int32) = nI 12 from rfl, jld_nI (by omega) (by omega), show (jsI S 0 14 (S.1 0 14 + 1)).1 42 12 = nI (B 12) from hm 12 (by omega), itv q0 (by omega) (by omega), if_pos h0, X12_no, jcl_s]
      rfl
  · obtain ⟨c, hcc⟩ : ∃ c, c + 1 = B 12 := ⟨B 12 - 1, by omega⟩
    obtain ⟨S1, e1, e2, eo, ec⟩ := X10_goBack hv hc hcc
    have hm1 : S1.1 42 = S.1 42 := eo 42 (by omega) (by omega)
    have hv' := vB_ubB hv hcc
    have hm2 : mB ((jsR S1 42 (fun j => if j < 10 then upd (S.1 42) 12 (nI c) (69 + 10 * c + j) else upd (S.1 42) 12 (nI c) j)).1 42) (ubB B c) := by
      intro j hj
      rw [jsR_s]
      by_cases g1 : j < 10
      · rw [if_pos g1, ubB_l B c g1, upd_1, if_neg (by omega)]
        exact hm _ (by omega)
      · rw [if_neg g1, upd_1]
        by_cases g2 : j = 12
        · rw [if_pos g2, g2]; rfl
        · rw [if_neg g2, ubB_h B c (by omega) g2]
          exact hm j hj
    refine ⟨nI (lvc (ubB B c)), S1, jsR S1 42 (fun j => if j < 10 then upd (S.1 42) 12 (nI c) (69 + 10 * c + j) else upd (S.1 42) 12 (nI c) j), ?_, ?_, ubB B c, T, tl, RR_mk hR e2 ?_ hv' hm2 (cB_c ec rfl rfl rfl rfl rfl)⟩
    · unfold f_X11_undo f_X11_undo_e
      rw [e1, jcl_s, ite_b, if_pos rfl, X10_living hv' ec.1, jcl_s]
    · unfold f_X12_undo f_X12_undo_e
      have e12 : S1.1 42 12 = nI (B 12) := by rw [hm1]; exact hm 12 (by omega)
      rw [show (12 : Int32) = nI 12 from rfl, jld_nI (by omega) (by omega), e12, itv q0 (by omega) (by omega), if_neg h0, jld_nI (by omega) (by omega), e12, q1, qsub (by omega), show B 12 - 1 = c by omega, jst_nI (by omega) (by omega), X12_undo_28 (show c < 8 by omega) (by rw [jsI_d, jsR_s, upd_s]), jsI_d, jsR_R, jsR_s, hm1]
      unfold f_X12_undo_66
      rw [X12_lvb _ hv' hm2]
    · intro k g1 g2
      rw [jsR_n _ _ g1]
      exact eo k (by omega) (by omega)
