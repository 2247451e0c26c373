/-! ===== reading ===== -/
def rdB (B : Nat → Nat) (a b : Nat) : Nat → Nat := upB (upB (upB (upB (upB B (13 + 4 * B 10) a) (13 + 4 * B 10 + 1) b) (13 + 4 * B 10 + 2) (B 8)) (13 + 4 * B 10 + 3) (B 9)) 10 (B 10 + 1)
theorem rdB_n (B : Nat → Nat) (a b : Nat) {j : Nat} (h : j ≠ 10) (h2 : j < 13 + 4 * B 10 ∨ 17 + 4 * B 10 ≤ j) : rdB B a b j = B j := by
  unfold rdB
  rw [upB_n _ h, upB_n _ (by omega), upB_n _ (by omega), upB_n _ (by omega), upB_n _ (by omega)]
theorem rdB_0 (B : Nat → Nat) (a b : Nat) : rdB B a b (13 + 4 * B 10) = a := by
  unfold rdB
  rw [upB_n _ (by omega), upB_n _ (by omega), upB_n _ (by omega), upB_n _ (by omega), upB_s]
theorem rdB_1 (B : Nat → Nat) (a b : Nat) : rdB B a b (14 + 4 * B 10) = b := by
  unfold rdB
  rw [show 14 + 4 * B 10 = 13 + 4 * B 10 + 1 by omega, upB_n _ (by omega), upB_n _ (by omega), upB_n _ (by omega), upB_s]
theorem rdB_2 (B : Nat → Nat) (a b : Nat) : rdB B a b (15 + 4 * B 10) = B 8 := by
  unfold rdB
  rw [show 15 + 4 * B 10 = 13 + 4 * B 10 + 2 by omega, upB_n _ (by omega), upB_n _ (by omega), upB_s]
theorem rdB_3 (B : Nat → Nat) (a b : Nat) : rdB B a b (16 + 4 * B 10) = B 9 := by
  unfold rdB
  rw [show 16 + 4 * B 10 = 13 + 4 * B 10 + 3 by omega, upB_n _ (by omega), upB_s]
theorem rdB_10 (B : Nat → Nat) (a b : Nat) : rdB B a b 10 = B 10 + 1 := upB_s _ _ _
theorem vB_rdB {B : Nat → Nat} (hv : vB B) (hf : B 10 < 8) {a b : Nat} (ha0 : 1 ≤ a) (ha : a ≤ 300) (hb : b ≤ 1) : vB (rdB B a b) := by
  obtain ⟨h1, h2, h3, h4, h5, h6, h7, h8, h9⟩ := hv
  have u := fun j h h2 => rdB_n B a b (j := j) h h2
  refine ⟨fun j hj => ?_, ?_, ?_, ?_, ?_, ?_, fun i hi => ?_, fun i hi => ?_, fun i hi => ?_⟩
  · rw [u j (by omega) (by omega)]; exact h1 j hj
  · rw [u 8 (by omega) (by omega)]; exact h2
  · rw [u 9 (by omega) (by omega)]; exact h3
  · rw [rdB_10]; omega
  · rw [u 11 (by omega) (by omega)]; exact h5
  · rw [u 12 (by omega) (by omega)]; exact h6
  · rw [rdB_10] at hi
    rcases Nat.lt_or_ge i (B 10) with hl | hl
    · rw [u _ (by omega) (by omega), u _ (by omega) (by omega), u _ (by omega) (by omega), u _ (by omega) (by omega)]
      exact h7 i hl
    · have e : i = B 10 := by omega
      rw [e, rdB_0, rdB_1, rdB_2, rdB_3]
      exact ⟨ha0, ha, hb, h2, h3⟩
  · rw [u 11 (by omega) (by omega)] at hi
    rw [u _ (by omega) (by omega), u _ (by omega) (by omega), u _ (by omega) (by omega)]
    exact h8 i hi
  · rw [u 12 (by omega) (by omega)] at hi
    obtain ⟨p1, p2⟩ := h9 i hi
    rw [u (77 + 10 * i) (by omega) (by omega), u (78 + 10 * i) (by omega) (by omega)]
    refine ⟨fun q hq => ?_, p2⟩
    rw [u _ (by omega) (by omega)]
    exact p1 q hq
theorem cB_rdB {S S' : jS} {B : Nat → Nat} (hv : vB B) (hc : cB S 21 B) (hf : B 10 < 8) {a b : Nat} (e22 : S'.1 22 = S.1 22) (e24 : S'.1 24 = S.1 24) (e25 : S'.1 25 = S.1 25) (e21 : ∀ j, j ≠ 3 → S'.1 21 j = S.1 21 j) (e3 : S'.1 21 3 = nI (B 10 + 1)) (e23 : S'.1 23 = upd (upd (upd (S.1 23) (3 * B 10) (nI a)) (3 * B 10 + 1) (nI b)) (3 * B 10 + 2) (nI (10 * B 8 + B 9))) : cB S' 21 (rdB B a b) := by
  obtain ⟨c1, c2, c3, c4, c5, c6, c7, c8⟩ := hc
  have u := fun j h h2 => rdB_n B a b (j := j) h h2
  refine ⟨fun j hj => ?_, ?_, ?_, ?_, ?_, fun i hi => ?_, fun i hi => ?_, fun i hi => ?_⟩
  · show S'.1 22 j = _
    rw [u j (by omega) (by omega), e22]; exact c1 j hj
  · rw [u 8 (by omega) (by omega), u 9 (by omega) (by omega), e21 _ (by omega)]; exact c2
  · rw [rdB_10]; exact e3
  · rw [u 11 (by omega) (by omega), e21 _ (by omega)]; exact c4
  · rw [u 12 (by omega) (by omega), e21 _ (by omega)]; exact c5
  · show S'.1 23 _ = _ ∧ S'.1 23 _ = _ ∧ S'.1 23 _ = _
    rw [rdB_10] at hi
    rw [e23]
    simp only [upd_1]
    rcases Nat.lt_or_ge i (B 10) with hl | hl
    · rw [u _ (by omega) (by omega), u _ (by omega) (by omega), u _ (by omega) (by omega), u _ (by omega) (by omega), if_neg (by omega), if_neg (by omega), if_neg (by omega), if_neg (by omega), if_neg (by omega), if_neg (by omega), if_neg (by omega), if_neg (by omega), if_neg (by omega)]
      exact c6 i hl
    · have e : i = B 10 := by omega
      rw [e, rdB_0, rdB_1, rdB_2, rdB_3, if_neg (by omega), if_neg (by omega), if_pos rfl, if_neg (by omega), if_pos rfl, if_pos rfl]
      exact ⟨rfl, rfl, rfl⟩
  · show S'.1 24 _ = _
    rw [u 11 (by omega) (by omega)] at hi
    rw [u _ (by omega) (by omega), e24]
    exact c7 i hi
  · show (∀ h, h < 8 → S'.1 25 _ = _) ∧ S'.1 25 _ = _
    rw [u 12 (by omega) (by omega)] at hi
    obtain ⟨p1, p2⟩ := c8 i hi
    rw [u (77 + 10 * i) (by omega) (by omega), u (78 + 10 * i) (by omega) (by omega), e25]
    refine ⟨fun q hq => ?_, p2⟩
    rw [u _ (by omega) (by omega)]
    exact p1 q hq
theorem op_reading (x y : Int32) {S : jS} (h : GG S) : O2 (f_X11_reading x y S) (f_X12_reading x y) := by
  obtain ⟨B, T, tl, hR⟩ := id h
  cases hx : okr x 1 300 with
  | false =>
    refine O2_bad h (-2) ?_ ?_
    · unfold f_X11_reading f_X11_reading_e f_X11_reading_14
      rw [X11_isNumber, jcl_s, hx, ite_b, if_neg (by decide), X11_refuseBad, jcl_s]
    · unfold f_X12_reading f_X12_reading_e f_X12_reading_17
      rw [X12_isNumber, jcl_s, hx, ite_b, if_neg (by decide), X12_bad, jcl_s]
      rfl
  | true =>
    cases hy : okr y 0 1 with
    | false =>
      refine O2_bad h (-2) ?_ ?_
      · unfold f_X11_reading f_X11_reading_e f_X11_reading_14
        rw [X11_isNumber, jcl_s, hx, ite_b, if_pos rfl, X11_isBit, jcl_s, hy, ite_b, if_neg (by decide), X11_refuseBad, jcl_s]
      · unfold f_X12_reading f_X12_reading_e f_X12_reading_17
        rw [X12_isNumber, jcl_s, hx, ite_b, if_pos rfl, X12_in01, jcl_s, hy, ite_b, if_neg (by decide), X12_bad, jcl_s]
        rfl
    | true =>
      obtain ⟨a, ha0, ha, rfl⟩ := okr_of hx (by omega)
      obtain ⟨b, -, hb, rfl⟩ := okr_of hy (by omega)
      obtain ⟨h1, hv, hm, hc, h5⟩ := id hR
      have hle : B 10 ≤ 8 := hv.2.2.2.1
      have c10 : S.1 21 3 = nI (B 10) := hc.2.2.1
      by_cases hf : B 10 = 8
      · refine O2_full h (-4) ?_ ?_
        · unfold f_X11_reading f_X11_reading_e
          rw [X11_isNumber, jcl_s, hx, ite_b, if_pos rfl, X11_isBit, jcl_s, hy, ite_b, if_pos rfl, c10, itl q8 (by omega) (by omega), if_neg (by omega), X11_refuseFull, jcl_s]
        · unfold f_X12_reading f_X12_reading_e
          rw [X12_isNumber, jcl_s, hx, ite_b, if_pos rfl, X12_in01, jcl_s, hy, ite_b, if_pos rfl, q10, jld_nI (by omega) (by omega), show (jsI S 0 15 (S.1 0 15 + 1)).1 42 10 = nI (B 10) from hm 10 (by omega), itv q8 (by omega) (by omega), if_pos hf, X12_full, jcl_s]
          rfl
      · have e1 : f_X10_addReading (nI a) (nI b) S = some (jsI (jsR S 23 (upd (upd (upd (S.1 23) (3 * B 10) (nI a)) (3 * B 10 + 1) (nI b)) (3 * B 10 + 2) (nI (10 * B 8 + B 9)))) 21 3 (nI (B 10 + 1))) := by
          unfold f_X10_addReading f_X10_addReading_e f_X10_addThree_r23 f_X10_addThree_r23_e f_X10_addThree_r23_39
          rw [c10, hc.2.1, q3, qmul, q2, qadd, if_neg (nI_pos (by omega)), itl (show (24 : Int32) = nI 24 from rfl) (by omega) (by omega), if_pos (by omega), jst_nI (by omega) (by omega), show nI (3 * B 10) + 1 = nI (3 * B 10 + 1) from qadd _ 1, jst_nI (by omega) (by omega), jst_nI (by omega) (by omega), jcv_s]
          simp only [jsI_d, jsR_R, jsR_s]
          rw [jsR_n _ _ (by omega), c10, q1, qadd, jpt_s]
          rfl
        have em : ∀ S1 : jS, S1.1 42 = S.1 42 → f_X12_reading (nI a) (nI b) S1 = some (nI (B 10 + 1), jsR S1 42 (upd (upd (upd (upd (upd (S.1 42) (13 + 4 * B 10) (nI a)) (13 + 4 * B 10 + 1) (nI b)) (13 + 4 * B 10 + 2) (nI (B 8))) (13 + 4 * B 10 + 3) (nI (B 9))) 10 (nI (B 10 + 1)))) := by
          intro S1 e42
          have m10 : S1.1 42 10 = nI (B 10) := by rw [e42]; exact hm 10 (by omega)
          have m8 : S1.1 42 8 = nI (B 8) := by rw [e42]; exact hm 8 (by omega)
          have m9 : S1.1 42 9 = nI (B 9) := by rw [e42]; exact hm 9 (by omega)
          unfold f_X12_reading f_X12_reading_e
          rw [X12_isNumber, jcl_s, hx, ite_b, if_pos rfl, X12_in01, jcl_s, hy, ite_b, if_pos rfl, q10, jld_nI (by omega) (by omega), m10, itv q8 (by omega) (by omega), if_neg hf, jld_nI (by omega) (by omega), m10, q4, qmul, show (13 : Int32) = nI 13 from rfl, qadd, q1, qadd, q2, qadd, q3, qadd, q8, q9, jst_nI (by omega) (by omega), jst_nI (by omega) (by omega), jld_nI (by omega) (by omega), jst_nI (by omega) (by omega), jld_nI (by omega) (by omega), jst_nI (by omega) (by omega), jld_nI (by omega) (by omega), jst_nI (by omega) (by omega), jld_nI (by omega) (by omega)]
          simp (disch := omega) only [jsI_d, jsR_R, jsR_s, upd_s, upd_n]
          rw [m8, m9, m10, qadd, e42]
        refine ⟨nI (B 10 + 1), jsI (jsR S 23 (upd (upd (upd (S.1 23) (3 * B 10) (nI a)) (3 * B 10 + 1) (nI b)) (3 * B 10 + 2) (nI (10 * B 8 + B 9)))) 21 3 (nI (B 10 + 1)), _, ?_, em _ rfl, rdB B a b, T, tl, RR_mk hR rfl ?_ (vB_rdB hv (by omega) ha0 ha hb) (mB_up (mB_up (mB_up (mB_up (mB_up hm _ a) _ b) _ _) _ _) 10 _) (cB_rdB hv hc (by omega) rfl rfl rfl (fun j hj => if_neg hj) rfl rfl)⟩
        · unfold f_X11_reading f_X11_reading_e
          rw [X11_isNumber, jcl_s, hx, ite_b, if_pos rfl, X11_isBit, jcl_s, hy, ite_b, if_pos rfl, c10, itl q8 (by omega) (by omega), if_pos (by omega), e1, jcv_s]
          rfl
        · intro k g1 g2
          rw [jsR_1, if_neg g1, jsI_1, if_neg (by omega), jsR_1, if_neg (by omega)]
/-! ===== image, from ===== -/
theorem cB_ext {S S' : jS} {b b' : Nat} {B : Nat → Nat} (hv : vB B) (h : cB S b B) (e1 : S'.1 b' 1 = S.1 b 1) (e3 : S'.1 b' 3 = S.1 b 3) (e5 : S'.1 b' 5 = S.1 b 5) (e6 : S'.1 b' 6 = S.1 b 6) (r1 : ∀ j, j < 8 → S'.1 (b' + 1) j = S.1 (b + 1) j) (r2 : ∀ j, j < 24 → S'.1 (b' + 2) j = S.1 (b + 2) j) (r3 : ∀ j, j < 24 → S'.1 (b' + 3) j = S.1 (b + 3) j) (r4 : ∀ j, j < 72 → S'.1 (b' + 4) j = S.1 (b + 4) j) : cB S' b' B := by
  obtain ⟨c1, c2, c3, c4, c5, c6, c7, c8⟩ := h
  obtain ⟨-, -, -, v4, v5, v6, -⟩ := hv
  refine ⟨fun j hj => ?_, ?_, ?_, ?_, ?_, fun i hi => ?_, fun i hi => ?_, fun i hi => ⟨fun q hq => ?_, ?_⟩⟩
  · rw [r1 j hj]; exact c1 j hj
  · rw [e1]; exact c2
  · rw [e3]; exact c3
  · rw [e5]; exact c4
  · rw [e6]; exact c5
  · rw [r2 _ (by omega), r2 _ (by omega), r2 _ (by omega)]; exact c6 i hi
  · rw [r3 _ (by omega)]; exact c7 i hi
  · rw [r4 _ (by omega)]; exact (c8 i hi).1 q hq
  · rw [r4 _ (by omega)]; exact (c8 i hi).2
theorem cpy_0 (f g : Nat → Int32) {n j : Nat} (h : j < n) : va_cpy f g 0 0 n j = f j := by
  unfold va_cpy
  rw [if_pos (by omega)]
  congr 1
  omega
theorem X10_cp27 {S : jS} {B : Nat → Nat} (hv : vB B) (hc : cB S 21 B) : ∃ S1, f_X10_copyFrom_r27_r21 S = some S1 ∧ S1.2 = S.2 ∧ (∀ k, (k < 27 ∨ 31 < k) → S1.1 k = S.1 k) ∧ cB S1 27 B := by
  unfold f_X10_copyFrom_r27_r21 f_X10_copyFrom_r27_r21_e
  rw [q0, show (8 : Int32) = nI 8 from rfl, show (24 : Int32) = nI 24 from rfl, show (72 : Int32) = nI 72 from rfl, jcp_nI (by omega) (by omega) (by omega) (by omega), jcp_nI (by omega) (by omega) (by omega) (by omega), jcp_nI (by omega) (by omega) (by omega) (by omega), jcp_nI (by omega) (by omega) (by omega) (by omega), jpt_s, jpt_s, jpt_s, jpt_s]
  refine ⟨_, rfl, rfl, fun k hk => ?_, cB_ext hv hc rfl rfl rfl rfl (fun j hj => cpy_0 _ _ hj) (fun j hj => cpy_0 _ _ hj) (fun j hj => cpy_0 _ _ hj) (fun j hj => cpy_0 _ _ hj)⟩
  rw [jsI_1, if_neg (by omega), jsI_1, if_neg (by omega), jsI_1, if_neg (by omega), jsI_1, if_neg (by omega), jsR_1, if_neg (by omega), jsR_1, if_neg (by omega), jsR_1, if_neg (by omega), jsR_1, if_neg (by omega)]
theorem X10_cp32 {S : jS} {B : Nat → Nat} (hv : vB B) (hc : cB S 21 B) : ∃ S1, f_X10_copyFrom_r32_r21 S = some S1 ∧ S1.2 = S.2 ∧ (∀ k, (k < 32 ∨ 36 < k) → S1.1 k = S.1 k) ∧ cB S1 32 B := by
  unfold f_X10_copyFrom_r32_r21 f_X10_copyFrom_r32_r21_e
  rw [q0, show (8 : Int32) = nI 8 from rfl, show (24 : Int32) = nI 24 from rfl, show (72 : Int32) = nI 72 from rfl, jcp_nI (by omega) (by omega) (by omega) (by omega), jcp_nI (by omega) (by omega) (by omega) (by omega), jcp_nI (by omega) (by omega) (by omega) (by omega), jcp_nI (by omega) (by omega) (by omega) (by omega), jpt_s, jpt_s, jpt_s, jpt_s]
  refine ⟨_, rfl, rfl, fun k hk => ?_, cB_ext hv hc rfl rfl rfl rfl (fun j hj => cpy_0 _ _ hj) (fun j hj => cpy_0 _ _ hj) (fun j hj => cpy_0 _ _ hj) (fun j hj => cpy_0 _ _ hj)⟩
  rw [jsI_1, if_neg (by omega), jsI_1, if_neg (by omega), jsI_1, if_neg (by omega), jsI_1, if_neg (by omega), jsR_1, if_neg (by omega), jsR_1, if_neg (by omega), jsR_1, if_neg (by omega), jsR_1, if_neg (by omega)]
theorem X10_fr27 {S : jS} {B : Nat → Nat} (hv : vB B) (hc : cB S 27 B) : ∃ S1, f_X10_copyFrom_r27 S = some S1 ∧ S1.2 = S.2 ∧ (∀ k, (k < 21 ∨ 25 < k) → S1.1 k = S.1 k) ∧ cB S1 21 B := by
  unfold f_X10_copyFrom_r27 f_X10_copyFrom_r27_e
  rw [q0, show (8 : Int32) = nI 8 from rfl, show (24 : Int32) = nI 24 from rfl, show (72 : Int32) = nI 72 from rfl, jcp_nI (by omega) (by omega) (by omega) (by omega), jcp_nI (by omega) (by omega) (by omega) (by omega), jcp_nI (by omega) (by omega) (by omega) (by omega), jcp_nI (by omega) (by omega) (by omega) (by omega), jpt_s, jpt_s, jpt_s, jpt_s]
  refine ⟨_, rfl, rfl, fun k hk => ?_, cB_ext hv hc rfl rfl rfl rfl (fun j hj => cpy_0 _ _ hj) (fun j hj => cpy_0 _ _ hj) (fun j hj => cpy_0 _ _ hj) (fun j hj => cpy_0 _ _ hj)⟩
  rw [jsI_1, if_neg (by omega), jsI_1, if_neg (by omega), jsI_1, if_neg (by omega), jsI_1, if_neg (by omega), jsR_1, if_neg (by omega), jsR_1, if_neg (by omega), jsR_1, if_neg (by omega), jsR_1, if_neg (by omega)]
theorem X10_fr32 {S : jS} {B : Nat → Nat} (hv : vB B) (hc : cB S 32 B) : ∃ S1, f_X10_copyFrom_r32 S = some S1 ∧ S1.2 = S.2 ∧ (∀ k, (k < 21 ∨ 25 < k) → S1.1 k = S.1 k) ∧ cB S1 21 B := by
  unfold f_X10_copyFrom_r32 f_X10_copyFrom_r32_e
  rw [q0, show (8 : Int32) = nI 8 from rfl, show (24 : Int32) = nI 24 from rfl, show (72 : Int32) = nI 72 from rfl, jcp_nI (by omega) (by omega) (by omega) (by omega), jcp_nI (by omega) (by omega) (by omega) (by omega), jcp_nI (by omega) (by omega) (by omega) (by omega), jcp_nI (by omega) (by omega) (by omega) (by omega), jpt_s, jpt_s, jpt_s, jpt_s]
  refine ⟨_, rfl, rfl, fun k hk => ?_, cB_ext hv hc rfl rfl rfl rfl (fun j hj => cpy_0 _ _ hj) (fun j hj => cpy_0 _ _ hj) (fun j hj => cpy_0 _ _ hj) (fun j hj => cpy_0 _ _ hj)⟩
  rw [jsI_1, if_neg (by omega), jsI_1, if_neg (by omega), jsI_1, if_neg (by omega), jsI_1, if_neg (by omega), jsR_1, if_neg (by omega), jsR_1, if_neg (by omega), jsR_1, if_neg (by omega), jsR_1, if_neg (by omega)]
def imF (a i : Nat) (f g : Nat → Int32) : Nat → Int32 := fun j => if 149 * a ≤ j ∧ j < 149 * a + i then f (j - 149 * a) else g j
theorem X12_image_19 {k50 : Int32 → jS → Option (Int32 × jS)} {a : Nat} (ha : a ≤ 1) (S : jS) : lp_X12_image_19 k50 (nI a) 0 S = k50 (nI a) (jsR S 43 (imF a 149 (S.1 42) (S.1 43))) := by
  unfold lp_X12_image_19
  have e0 : imF a 0 (S.1 42) (S.1 43) = S.1 43 := by
    funext j
    exact if_neg (by omega)
  refine jloop_u (fun i => (nI a, nI i, jsR S 43 (imF a i (S.1 42) (S.1 43)))) 149 (by rw [e0, jsR_self]; rfl) (by omega) (fun i hi g => ?_) (fun g => ?_)
  · dsimp only
    unfold f_X12_image_19
    rw [itl (show (149 : Int32) = nI 149 from rfl) (by omega) (by omega), if_pos hi, jld_nI (by omega) (by omega), show (149 : Int32) = nI 149 from rfl, qmul, qadd, jst_nI (by omega) (by omega), jsI_R, jsR_n _ _ (by omega), q1, qadd]
    dsimp only
    congr 4
    funext j
    unfold imF
    rw [upd_1]
    by_cases h : j = 149 * a + i
    · rw [if_pos h, if_pos (by omega), show j - 149 * a = i by omega]
    · rw [if_neg h]
      by_cases h2 : 149 * a ≤ j ∧ j < 149 * a + i
      · rw [if_pos h2, if_pos (by omega)]
      · rw [if_neg h2, if_neg (by omega)]
  · dsimp only
    unfold f_X12_image_19
    rw [if_neg (by decide)]
theorem X12_from_33 {k64 : jS → Option (Int32 × jS)} {a : Nat} (ha : a ≤ 1) (S : jS) : lp_X12_from_33 k64 (nI a) 0 S = k64 (jsR S 42 (fun j => if j < 149 then S.1 43 (149 * a + j) else S.1 42 j)) := by
  unfold lp_X12_from_33
  have e0 : (fun j => if j < 0 then S.1 43 (149 * a + j) else S.1 42 j) = S.1 42 := by
    funext j
    exact if_neg (by omega)
  refine jloop_u (fun i => (nI a, nI i, jsR S 42 (fun j => if j < i then S.1 43 (149 * a + j) else S.1 42 j))) 149 (by show (nI a, 0, S) = (nI a, nI 0, jsR S 42 (fun j => if j < 0 then S.1 43 (149 * a + j) else S.1 42 j)); rw [e0, jsR_self]; rfl) (by omega) (fun i hi g => ?_) (fun g => ?_)
  · dsimp only
    unfold f_X12_from_33
    rw [itl (show (149 : Int32) = nI 149 from rfl) (by omega) (by omega), if_pos hi, show (149 : Int32) = nI 149 from rfl, qmul, qadd, jld_nI (by omega) (by omega), jst_nI (by omega) (by omega), jsI_R, jsR_n _ _ (by omega), q1, qadd]
    dsimp only
    congr 4
    funext j
    rw [upd_1]
    by_cases h : j = i
    · rw [if_pos h, if_pos (by omega), h]
    · rw [if_neg h]
      by_cases h2 : j < i
      · rw [if_pos h2, if_pos (by omega)]
      · rw [if_neg h2, if_neg (by omega)]
  · dsimp only
    unfold f_X12_from_33
    rw [if_neg (by decide)]
theorem X11_imageAt (x : Int32) (S : jS) : f_X11_imageAt x S = some ((if okr x 0 1 = true then (if x = 0 then 27 else 32) else 0), S) := by
  unfold f_X11_imageAt f_X11_imageAt_e f_X11_imageAt_18 f_X11_imageAt_19 f_X11_imageAt_19v1 f_X11_imageAt_19v2
  cases hx : okr x 0 1 with
  | false =>
    rw [if_neg (show ¬ (false = true) by decide)]
    by_cases h1 : x < 0
    · rw [if_pos h1]
    · rw [if_neg h1, if_neg]
      intro h2
      unfold okr at hx
      rw [decide_eq_false_iff_not] at hx
      rw [Int32.lt_iff_toInt_lt] at h1 h2
      have h1 : ¬ x.toInt < 0 := h1
      have h2 : x.toInt < 2 := h2
      omega
  | true =>
    obtain ⟨a, -, ha, rfl⟩ := okr_of hx (by omega)
    rcases (show a = 0 ∨ a = 1 by omega) with rfl | rfl <;> rfl
theorem im_set {S : jS} {B : Nat → Nat} {i b : Nat} (hv : vB B) (h1 : S.1 37 i = 1) (h2 : S.1 44 i = 1) (hm : ∀ j, j < 149 → S.1 43 (149 * i + j) = nI (B j)) (hc : cB S b B) : im S i b := Or.inr ⟨h1, h2, B, hv, hm, hc⟩
theorem imF_in (a : Nat) (f g : Nat → Int32) {j : Nat} (h : j < 149) : imF a 149 f g (149 * a + j) = f j := by
  unfold imF
  rw [if_pos (by omega), show 149 * a + j - 149 * a = j by omega]
theorem im_ot {S S' : jS} {i b : Nat} (h : im S i b) (e37 : S'.1 37 i = S.1 37 i) (e44 : S'.1 44 i = S.1 44 i) (e43 : ∀ j, j < 149 → S'.1 43 (149 * i + j) = S.1 43 (149 * i + j)) (e0 : S'.1 b = S.1 b) (e1 : S'.1 (b + 1) = S.1 (b + 1)) (e2 : S'.1 (b + 2) = S.1 (b + 2)) (e3 : S'.1 (b + 3) = S.1 (b + 3)) (e4 : S'.1 (b + 4) = S.1 (b + 4)) : im S' i b := by
  unfold im
  rw [e37, e44]
  rcases h with h | ⟨h1, h2, K, h3, h4, h5⟩
  · exact Or.inl h
  · exact Or.inr ⟨h1, h2, K, h3, fun j hj => (e43 j hj).trans (h4 j hj), cB_c h5 e0 e1 e2 e3 e4⟩
theorem op_image (x : Int32) {S : jS} (h : GG S) : O2 (f_X11_image x S) (f_X12_image x) := by
  obtain ⟨B, T, tl, hR⟩ := id h
  cases hx : okr x 0 1 with
  | false =>
    refine O2_bad h (-2) ?_ ?_
    · unfold f_X11_image f_X11_image_e
      rw [X11_imageAt, jcl_s, hx]
      rfl
    · unfold f_X12_image f_X12_image_e
      rw [X12_in01, jcl_s, hx, ite_b, if_neg (by decide), X12_bad, jcl_s]
      rfl
  | true =>
    obtain ⟨a, -, ha, rfl⟩ := okr_of hx (by omega)
    obtain ⟨h1, hv, hm, hc, h5, h6, h7, h8, h9⟩ := id hR
    have em : ∀ S1 : jS, f_X12_image (nI a) S1 = some (1, jsI (jsR S1 43 (imF a 149 (S1.1 42) (S1.1 43))) 44 a 1) := by
      intro S1
      unfold f_X12_image f_X12_image_e
      rw [X12_in01, jcl_s, hx, ite_b, if_pos rfl, X12_image_19 ha]
      unfold f_X12_image_50
      rw [jst_nI (by omega) (by omega)]
      rfl
    rcases (show a = 0 ∨ a = 1 by omega) with rfl | rfl
    · obtain ⟨S1, e1, e2, eo, ec⟩ := X10_cp27 hv hc
      have o : ∀ k, (k < 27 ∨ 31 < k) → S1.1 k = S.1 k := eo
      refine ⟨1, jsI S1 37 0 1, _, ?_, em _, B, T, tl, tabs_c h1 (o 2 (by omega)) (o 3 (by omega)) (o 46 (by omega)), hv, ?_, cB_c hc (o 21 (by omega)) (o 22 (by omega)) (o 23 (by omega)) (o 24 (by omega)) (o 25 (by omega)), im_set hv rfl rfl (fun j hj => ?_) (cB_c ec rfl rfl rfl rfl rfl), im_ot h6 ?_ ?_ (fun j hj => ?_) (o 32 (by omega)) (o 33 (by omega)) (o 34 (by omega)) (o 35 (by omega)) (o 36 (by omega)), ?_, ?_, txt_c h9 (congrFun (o 18 (by omega)) 1) (congrFun (o 41 (by omega)) 18) (o 20 (by omega)) (o 53 (by omega))⟩
      · unfold f_X11_image f_X11_image_e
        rw [X11_imageAt, jcl_s, hx]
        show jcv (f_X10_copyFrom_r27_r21 S) (fun S3 => jst S3 37 (nI 0) 2 (vp_nar .boolean 1) (fun S4 => some (1, S4))) = _
        rw [e1, jcv_s, jst_nI (by omega) (by omega)]
        rfl
      · show mB (S1.1 42) B
        rw [o 42 (by omega)]
        exact hm
      · show imF 0 149 (S1.1 42) (S1.1 43) (149 * 0 + j) = _
        rw [imF_in 0 _ _ hj, o 42 (by omega)]
        exact hm j hj
      · show upd (S1.1 37) 0 1 1 = _
        rw [upd_n _ _ (by omega), o 37 (by omega)]
      · show upd (S1.1 44) 0 1 1 = _
        rw [upd_n _ _ (by omega), o 44 (by omega)]
      · show imF 0 149 (S1.1 42) (S1.1 43) (149 * 1 + j) = _
        unfold imF
        rw [if_neg (by omega), o 43 (by omega)]
      · unfold stt
        show S1.1 0 13 = S1.1 45 0 ∧ S1.1 0 14 = S1.1 45 1 ∧ S1.1 0 15 = S1.1 45 2
        rw [o 0 (by omega), o 45 (by omega)]
        exact h7
      · show S1.2 0 11 = S1.2 41 5 ∧ S1.2 0 12 = S1.2 41 6
        rw [e2]
        exact h8
    · obtain ⟨S1, e1, e2, eo, ec⟩ := X10_cp32 hv hc
      have o : ∀ k, (k < 32 ∨ 36 < k) → S1.1 k = S.1 k := eo
      refine ⟨1, jsI S1 37 1 1, _, ?_, em _, B, T, tl, tabs_c h1 (o 2 (by omega)) (o 3 (by omega)) (o 46 (by omega)), hv, ?_, cB_c hc (o 21 (by omega)) (o 22 (by omega)) (o 23 (by omega)) (o 24 (by omega)) (o 25 (by omega)), im_ot h5 ?_ ?_ (fun j hj => ?_) (o 27 (by omega)) (o 28 (by omega)) (o 29 (by omega)) (o 30 (by omega)) (o 31 (by omega)), im_set hv rfl rfl (fun j hj => ?_) (cB_c ec rfl rfl rfl rfl rfl), ?_, ?_, txt_c h9 (congrFun (o 18 (by omega)) 1) (congrFun (o 41 (by omega)) 18) (o 20 (by omega)) (o 53 (by omega))⟩
      · unfold f_X11_image f_X11_image_e
        rw [X11_imageAt, jcl_s, hx]
        show jcv (f_X10_copyFrom_r32_r21 S) (fun S3 => jst S3 37 (nI 1) 2 (vp_nar .boolean 1) (fun S4 => some (1, S4))) = _
        rw [e1, jcv_s, jst_nI (by omega) (by omega)]
        rfl
      · show mB (S1.1 42) B
        rw [o 42 (by omega)]
        exact hm
      · show upd (S1.1 37) 1 1 0 = _
        rw [upd_n _ _ (by omega), o 37 (by omega)]
      · show upd (S1.1 44) 1 1 0 = _
        rw [upd_n _ _ (by omega), o 44 (by omega)]
      · show imF 1 149 (S1.1 42) (S1.1 43) (149 * 0 + j) = _
        unfold imF
        rw [if_neg (by omega), o 43 (by omega)]
      · show imF 1 149 (S1.1 42) (S1.1 43) (149 * 1 + j) = _
        rw [imF_in 1 _ _ hj, o 42 (by omega)]
        exact hm j hj
      · unfold stt
        show S1.1 0 13 = S1.1 45 0 ∧ S1.1 0 14 = S1.1 45 1 ∧ S1.1 0 15 = S1.1 45 2
        rw [o 0 (by omega), o 45 (by omega)]
        exact h7
      · show S1.2 0 11 = S1.2 41 5 ∧ S1.2 0 12 = S1.2 41 6
        rw [e2]
        exact h8
theorem op_from (x : Int32) {S : jS} (h : GG S) : O2 (f_X11_from x S) (f_X12_from x) := by
  obtain ⟨B, T, tl, hR⟩ := id h
  cases hx : okr x 0 1 with
  | false =>
    refine O2_bad h (-2) ?_ ?_
    · unfold f_X11_from f_X11_from_e
      rw [X11_imageAt, jcl_s, hx]
      rfl
    · unfold f_X12_from f_X12_from_e
      rw [X12_in01, jcl_s, hx, ite_b, if_neg (by decide), X12_bad, jcl_s]
      rfl
  | true =>
    obtain ⟨a, -, ha, rfl⟩ := okr_of hx (by omega)
    obtain ⟨h1, hv, hm, hc, h5, h6, h7, h8, h9⟩ := id hR
    have en : S.1 44 a = 0 → f_X12_from (nI a) (jsI S 0 14 (S.1 0 14 + 1)) = some (-3, jsI (jsI S 0 14 (S.1 0 14 + 1)) 45 1 (S.1 45 1 + 1)) := by
      intro e
      unfold f_X12_from f_X12_from_e
      rw [X12_in01, jcl_s, hx, ite_b, if_pos rfl, jld_nI (by omega) (by omega), if_pos (show (jsI S 0 14 (S.1 0 14 + 1)).1 44 a = 0 from e), X12_no, jcl_s]
      rfl
    have em : ∀ S1 : jS, S1.1 44 a = 1 → f_X12_from (nI a) S1 = some (1, jsR S1 42 (fun j => if j < 149 then S1.1 43 (149 * a + j) else S1.1 42 j)) := by
      intro S1 e
      unfold f_X12_from f_X12_from_e
      rw [X12_in01, jcl_s, hx, ite_b, if_pos rfl, jld_nI (by omega) (by omega), e, if_neg (by decide), X12_from_33 ha]
      rfl
    rcases (show a = 0 ∨ a = 1 by omega) with rfl | rfl
    · have e11 : f_X11_from (nI 0) S = (if S.1 37 0 = 0 then jcl (f_X11_refuseNo S) (fun v6 S5 => some (v6, S5)) else jcv (f_X10_copyFrom_r27 S) (fun S4 => some (1, S4))) := by
        unfold f_X11_from f_X11_from_e
        rw [X11_imageAt, jcl_s, hx]
        rfl
      rcases h5 with ⟨g1, g2⟩ | ⟨g1, g2, K, g3, g4, g5⟩
      · refine O2_no h (-3) ?_ (en g2)
        rw [e11, if_pos g1, X11_refuseNo, jcl_s]
      · obtain ⟨S1, e1, e2, eo, ec⟩ := X10_fr27 g3 g5
        refine ⟨1, S1, _, ?_, em S1 (by rw [eo 44 (by omega)]; exact g2), K, T, tl, RR_mk hR e2 ?_ g3 ?_ (cB_c ec rfl rfl rfl rfl rfl)⟩
        · rw [e11, if_neg (by rw [g1]; decide), e1, jcv_s]
        · intro k q1 q2
          rw [jsR_n _ _ q1]
          exact eo k (by omega)
        · intro j hj
          rw [jsR_s, if_pos hj, eo 43 (by omega)]
          exact g4 j hj
    · have e11 : f_X11_from (nI 1) S = (if S.1 37 1 = 0 then jcl (f_X11_refuseNo S) (fun v6 S5 => some (v6, S5)) else jcv (f_X10_copyFrom_r32 S) (fun S4 => some (1, S4))) := by
        unfold f_X11_from f_X11_from_e
        rw [X11_imageAt, jcl_s, hx]
        rfl
      rcases h6 with ⟨g1, g2⟩ | ⟨g1, g2, K, g3, g4, g5⟩
      · refine O2_no h (-3) ?_ (en g2)
        rw [e11, if_pos g1, X11_refuseNo, jcl_s]
      · obtain ⟨S1, e1, e2, eo, ec⟩ := X10_fr32 g3 g5
        refine ⟨1, S1, _, ?_, em S1 (by rw [eo 44 (by omega)]; exact g2), K, T, tl, RR_mk hR e2 ?_ g3 ?_ (cB_c ec rfl rfl rfl rfl rfl)⟩
        · rw [e11, if_neg (by rw [g1]; decide), e1, jcv_s]
        · intro k q1 q2
          rw [jsR_n _ _ q1]
          exact eo k (by omega)
        · intro j hj
          rw [jsR_s, if_pos hj, eo 43 (by omega)]
          exact g4 j hj
/-! ===== digest ===== -/
def fd (h : Int64) (f : Nat → Int32) : Nat → Int64
  | 0 => h
  | n + 1 => 31 * fd h f n + (f n).toInt64
theorem fd_c (h : Int64) {f g : Nat → Int32} : ∀ n, (∀ i, i < n → f i = g i) → fd h f n = fd h g n
  | 0, _ => rfl
  | n + 1, e => by
    show 31 * fd h f n + (f n).toInt64 = 31 * fd h g n + (g n).toInt64
    rw [fd_c h n (fun i hi => e i (by omega)), e n (by omega)]
theorem X11_fold22 (x : Int64) {n : Nat} (hn : n ≤ 8) (S : jS) : f_X11_fold_r22 x (nI n) S = some (fd x (S.1 22) n, S) := by
  unfold f_X11_fold_r22 f_X11_fold_r22_e lp_X11_fold_r22_6
  refine jloop_u (fun i => (nI n, fd x (S.1 22) i, nI i, S)) n rfl (by omega) (fun i hi g => ?_) (fun g => ?_)
  · dsimp only
    unfold f_X11_fold_r22_6
    rw [itlt (by omega) (by omega), if_pos hi, itl q8 (by omega) (by omega), if_pos (by omega), jld_nI (by omega) (by omega), q1, qadd]
    rfl
  · dsimp only
    unfold f_X11_fold_r22_6 f_X11_fold_r22_39
    rw [itlt (by omega) (by omega), if_neg (by omega)]
theorem X11_fold23 (x : Int64) {n : Nat} (hn : n ≤ 24) (S : jS) : f_X11_fold_r23 x (nI n) S = some (fd x (S.1 23) n, S) := by
  unfold f_X11_fold_r23 f_X11_fold_r23_e lp_X11_fold_r23_6
  refine jloop_u (fun i => (nI n, fd x (S.1 23) i, nI i, S)) n rfl (by omega) (fun i hi g => ?_) (fun g => ?_)
  · dsimp only
    unfold f_X11_fold_r23_6
    rw [itlt (by omega) (by omega), if_pos hi, itl (show (24 : Int32) = nI 24 from rfl) (by omega) (by omega), if_pos (by omega), jld_nI (by omega) (by omega), q1, qadd]
    rfl
  · dsimp only
    unfold f_X11_fold_r23_6 f_X11_fold_r23_39
    rw [itlt (by omega) (by omega), if_neg (by omega)]
theorem X11_fold24 (x : Int64) {n : Nat} (hn : n ≤ 24) (S : jS) : f_X11_fold_r24 x (nI n) S = some (fd x (S.1 24) n, S) := by
  unfold f_X11_fold_r24 f_X11_fold_r24_e lp_X11_fold_r24_6
  refine jloop_u (fun i => (nI n, fd x (S.1 24) i, nI i, S)) n rfl (by omega) (fun i hi g => ?_) (fun g => ?_)
  · dsimp only
    unfold f_X11_fold_r24_6
    rw [itlt (by omega) (by omega), if_pos hi, itl (show (24 : Int32) = nI 24 from rfl) (by omega) (by omega), if_pos (by omega), jld_nI (by omega) (by omega), q1, qadd]
    rfl
  · dsimp only
    unfold f_X11_fold_r24_6 f_X11_fold_r24_39
    rw [itlt (by omega) (by omega), if_neg (by omega)]
theorem op_digest {S : jS} (h : GG S) : O2 (f_X11_digest S) f_X12_digest := by
  obtain ⟨B, T, tl, hR⟩ := id h
  obtain ⟨h1, hv, hm, hc, h5, h6, h7, h8, h9⟩ := id hR
  have v10 := hv.2.2.2.1
  have v11 := hv.2.2.2.2.1
  have tv : ∀ a, a ≤ 5 → f_X11_tally (nI a) S = some ((f_X11_tally (nI a) S).elim 0 Prod.fst, S) ∧ f_X12_counted (nI a) S = some ((f_X11_tally (nI a) S).elim 0 Prod.fst, S) := by
    intro a ha
    obtain ⟨v, g1, g2⟩ := X12_counted hR ha
    rw [g2]
    exact ⟨rfl, g1⟩
  have e11 : f_X11_digest S = f_X11_digest_30 (fd 1013 (fun a => (f_X11_tally (nI a) S).elim 0 Prod.fst) 6) S := by
    unfold f_X11_digest f_X11_digest_e lp_X11_digest_6
    refine jloop_u (fun i => (fd 1013 (fun a => (f_X11_tally (nI a) S).elim 0 Prod.fst) i, nI i, S)) 6 rfl (by omega) (fun i hi g => ?_) (fun g => ?_)
    · dsimp only
      unfold f_X11_digest_6
      rw [itg q5 (by omega) (by omega), if_neg (by omega), (tv i (by omega)).1, jcl_s, q1, qadd]
      dsimp only
      show _ = g (31 * fd 1013 (fun a => (f_X11_tally (nI a) S).elim 0 Prod.fst) i + ((f_X11_tally (nI i) S).elim 0 Prod.fst).toInt64, _, _)
      rw [(tv i (by omega)).1]
    · dsimp only
      unfold f_X11_digest_6
      rw [if_pos (by decide)]
  have e12 : f_X12_digest S = f_X12_digest_31 (fd 1013 (fun a => (f_X11_tally (nI a) S).elim 0 Prod.fst) 6) S := by
    unfold f_X12_digest f_X12_digest_e lp_X12_digest_6
    refine jloop_u (fun i => (fd 1013 (fun a => (f_X11_tally (nI a) S).elim 0 Prod.fst) i, nI i, S)) 6 rfl (by omega) (fun i hi g => ?_) (fun g => ?_)
    · dsimp only
      unfold f_X12_digest_6
      rw [itl q6 (by omega) (by omega), if_pos hi, (tv i (by omega)).2, jcl_s, q1, qadd]
      rfl
    · dsimp only
      unfold f_X12_digest_6
      rw [if_neg (by decide)]
  generalize fd 1013 (fun a => (f_X11_tally (nI a) S).elim 0 Prod.fst) 6 = d0 at e11 e12
  have d1 : f_X12_digest_31 d0 S = f_X12_digest_59 (fd d0 (S.1 22) 8) S := by
    unfold f_X12_digest_31 lp_X12_digest_33
    refine jloop_u (fun i => (fd d0 (S.1 22) i, nI i, S)) 8 rfl (by omega) (fun i hi g => ?_) (fun g => ?_)
    · dsimp only
      unfold f_X12_digest_33
      rw [itl q8 (by omega) (by omega), if_pos hi, jld_nI (by omega) (by omega), hm i (by omega), ← hc.1 i hi, q1, qadd]
      rfl
    · dsimp only
      unfold f_X12_digest_33
      rw [if_neg (by decide)]
  have d2 : ∀ d, f_X12_digest_59 d S = f_X12_digest_145 (fd d (S.1 23) (3 * B 10)) S := by
    intro d
    unfold f_X12_digest_59 lp_X12_digest_61
    refine jloop_u (fun i => (fd d (S.1 23) (3 * i), nI i, S)) (B 10) rfl (by omega) (fun i hi g => ?_) (fun g => ?_)
    · obtain ⟨r1, r2, r3⟩ := hc.2.2.2.2.2.1 i hi
      obtain ⟨s1, s2, s3, s4, s5⟩ := hv.2.2.2.2.2.2.1 i hi
      dsimp only
      unfold f_X12_digest_61
      rw [q10, jld_nI (by omega) (by omega), hm 10 (by omega), itlt (by omega) (by omega), if_pos hi, show (13 : Int32) = nI 13 from rfl, q4, qmul, qadd, q1, qadd, q2, qadd, q3, qadd, jld_nI (by omega) (by omega), jld_nI (by omega) (by omega), jld_nI (by omega) (by omega), jld_nI (by omega) (by omega), hm _ (by omega), hm _ (by omega), hm _ (by omega), hm _ (by omega), qmul, qadd]
      dsimp only
      have e3 : fd d (S.1 23) (3 * (i + 1)) = 31 * (31 * (31 * fd d (S.1 23) (3 * i) + (S.1 23 (3 * i)).toInt64) + (S.1 23 (3 * i + 1)).toInt64) + (S.1 23 (3 * i + 2)).toInt64 := rfl
      have r1 : S.1 23 (3 * i) = nI (B (13 + 4 * i)) := r1
      have r2 : S.1 23 (3 * i + 1) = nI (B (14 + 4 * i)) := r2
      have r3 : S.1 23 (3 * i + 2) = nI (10 * B (15 + 4 * i) + B (16 + 4 * i)) := r3
      rw [e3, r1, r2, r3, show 13 + 4 * i + 1 = 14 + 4 * i by omega, show 13 + 4 * i + 2 = 15 + 4 * i by omega, show 13 + 4 * i + 3 = 16 + 4 * i by omega, nI_l (n := 10 * B (15 + 4 * i) + B (16 + 4 * i)) (by omega), nI_l (n := 10 * B (15 + 4 * i)) (by omega), nI_l (n := B (16 + 4 * i)) (by omega), Int64.add_assoc _ (lN (10 * B (15 + 4 * i))), lN_add]
    · dsimp only
      unfold f_X12_digest_61
      rw [q10, jld_nI (by omega) (by omega), hm 10 (by omega), itlt (by omega) (by omega), if_neg (by omega)]
  have d3 : ∀ d, f_X12_digest_145 d S = f_X12_digest_183 (fd d (S.1 24) (3 * B 11)) S := by
    intro d
    unfold f_X12_digest_145 lp_X12_digest_147
    refine jloop_u (fun i => (fd d (S.1 24) i, nI i, S)) (3 * B 11) rfl (by omega) (fun i hi g => ?_) (fun g => ?_)
    · dsimp only
      unfold f_X12_digest_147
      have r : S.1 24 i = nI (B (45 + i)) := hc.2.2.2.2.2.2.1 i hi
      rw [show (11 : Int32) = nI 11 from rfl, jld_nI (by omega) (by omega), hm 11 (by omega), q3, qmul, itlt (by omega) (by omega), if_pos hi, show (45 : Int32) = nI 45 from rfl, qadd, jld_nI (by omega) (by omega), hm _ (by omega), ← r, q1, qadd]
      rfl
    · dsimp only
      unfold f_X12_digest_147
      rw [show (11 : Int32) = nI 11 from rfl, jld_nI (by omega) (by omega), hm 11 (by omega), q3, qmul, itlt (by omega) (by omega), if_neg (by omega)]
  refine ⟨31 * (31 * fd (fd (fd d0 (S.1 22) 8) (S.1 23) (3 * B 10)) (S.1 24) (3 * B 11) + S.2 0 11) + S.2 0 12, S, S, ?_, ?_, h⟩
  · rw [e11]
    unfold f_X11_digest_30
    rw [q8, X11_fold22 _ (by omega), jcl_s, hc.2.2.1, q3, qmul, X11_fold23 _ (by omega), jcl_s, hc.2.2.2.1, qmul, X11_fold24 _ (by omega), jcl_s]
  · rw [e12, d1, d2, d3]
    unfold f_X12_digest_183
    rw [h8.1, h8.2]
