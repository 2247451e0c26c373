/-! ===== forget, type, note, reading ===== -/
theorem cB_f10 {S : jS} {B : Nat → Nat} (hc : cB S 21 B) : cB (jsI S 21 3 0) 21 (upB B 10 0) := by
  obtain ⟨c1, c2, c3, c4, c5, c6, c7, c8⟩ := hc
  have u : ∀ j, j ≠ 10 → upB B 10 0 j = B j := fun j h => upB_n B h
  refine ⟨fun j hj => ?_, ?_, rfl, ?_, ?_, fun i hi => absurd hi (Nat.not_lt_zero i), fun i hi => ?_, fun i hi => ?_⟩
  · rw [u j (by omega)]; exact c1 j hj
  · rw [u 8 (by omega), u 9 (by omega)]; exact c2
  · rw [u 11 (by omega)]; exact c4
  · rw [u 12 (by omega)]; exact c5
  · rw [u 11 (by omega)] at hi
    rw [u _ (by omega)]
    exact c7 i hi
  · rw [u 12 (by omega)] at hi
    obtain ⟨p1, p2⟩ := c8 i hi
    rw [u (77 + 10 * i) (by omega), u (78 + 10 * i) (by omega)]
    refine ⟨fun q hq => ?_, p2⟩
    rw [u _ (by omega)]
    exact p1 q hq
theorem vB_f10 {B : Nat → Nat} (hv : vB B) : vB (upB B 10 0) := by
  obtain ⟨h1, h2, h3, h4, h5, h6, h7, h8, h9⟩ := hv
  have u : ∀ j, j ≠ 10 → upB B 10 0 j = B j := fun j h => upB_n B h
  refine ⟨fun j hj => ?_, ?_, ?_, Nat.zero_le _, ?_, ?_, fun i hi => absurd hi (Nat.not_lt_zero i), fun i hi => ?_, fun i hi => ?_⟩
  · rw [u j (by omega)]; exact h1 j hj
  · rw [u 8 (by omega)]; exact h2
  · rw [u 9 (by omega)]; exact h3
  · rw [u 11 (by omega)]; exact h5
  · rw [u 12 (by omega)]; exact h6
  · rw [u 11 (by omega)] at hi
    rw [u _ (by omega), u _ (by omega), u _ (by omega)]
    exact h8 i hi
  · rw [u 12 (by omega)] at hi
    obtain ⟨p1, p2⟩ := h9 i hi
    rw [u (77 + 10 * i) (by omega), u (78 + 10 * i) (by omega)]
    refine ⟨fun q hq => ?_, p2⟩
    rw [u _ (by omega)]
    exact p1 q hq
theorem cB_f11 {S : jS} {B : Nat → Nat} (hc : cB S 21 B) : cB (jsI S 21 5 0) 21 (upB B 11 0) := by
  obtain ⟨c1, c2, c3, c4, c5, c6, c7, c8⟩ := hc
  have u : ∀ j, j ≠ 11 → upB B 11 0 j = B j := fun j h => upB_n B h
  refine ⟨fun j hj => ?_, ?_, ?_, rfl, ?_, fun i hi => ?_, fun i hi => absurd hi (Nat.not_lt_zero i), fun i hi => ?_⟩
  · rw [u j (by omega)]; exact c1 j hj
  · rw [u 8 (by omega), u 9 (by omega)]; exact c2
  · rw [u 10 (by omega)]; exact c3
  · rw [u 12 (by omega)]; exact c5
  · rw [u 10 (by omega)] at hi
    rw [u _ (by omega), u _ (by omega), u _ (by omega), u _ (by omega)]
    exact c6 i hi
  · rw [u 12 (by omega)] at hi
    obtain ⟨p1, p2⟩ := c8 i hi
    rw [u (77 + 10 * i) (by omega), u (78 + 10 * i) (by omega)]
    refine ⟨fun q hq => ?_, p2⟩
    rw [u _ (by omega)]
    exact p1 q hq
theorem vB_f11 {B : Nat → Nat} (hv : vB B) : vB (upB B 11 0) := by
  obtain ⟨h1, h2, h3, h4, h5, h6, h7, h8, h9⟩ := hv
  have u : ∀ j, j ≠ 11 → upB B 11 0 j = B j := fun j h => upB_n B h
  refine ⟨fun j hj => ?_, ?_, ?_, ?_, Nat.zero_le _, ?_, fun i hi => ?_, fun i hi => absurd hi (Nat.not_lt_zero i), fun i hi => ?_⟩
  · rw [u j (by omega)]; exact h1 j hj
  · rw [u 8 (by omega)]; exact h2
  · rw [u 9 (by omega)]; exact h3
  · rw [u 10 (by omega)]; exact h4
  · rw [u 12 (by omega)]; exact h6
  · rw [u 10 (by omega)] at hi
    rw [u _ (by omega), u _ (by omega), u _ (by omega), u _ (by omega)]
    exact h7 i hi
  · rw [u 12 (by omega)] at hi
    obtain ⟨p1, p2⟩ := h9 i hi
    rw [u (77 + 10 * i) (by omega), u (78 + 10 * i) (by omega)]
    refine ⟨fun q hq => ?_, p2⟩
    rw [u _ (by omega)]
    exact p1 q hq
theorem X12_in01 (x : Int32) (S : jS) : f_X12_in x.toInt64 0 1 S = some (bI (okr x 0 1), S) := X12_inN x 0 1 (by omega) (by omega) S
theorem op_forget (x : Int32) {S : jS} (h : GG S) : O2 (f_X11_forget x S) (f_X12_forget x) := by
  obtain ⟨B, T, tl, hR⟩ := id h
  cases hx : okr x 0 1 with
  | false =>
    refine O2_bad h (-2) ?_ ?_
    · unfold f_X11_forget f_X11_forget_e
      rw [X11_isBit, jcl_s, hx, ite_b, if_neg (by decide), X11_refuseBad, jcl_s]
    · unfold f_X12_forget f_X12_forget_e
      rw [X12_in01, jcl_s, hx, ite_b, if_neg (by decide), X12_bad, jcl_s]
      rfl
  | true =>
    obtain ⟨a, -, ha, rfl⟩ := okr_of hx (by omega)
    obtain ⟨h1, hv, hm, hc, h5⟩ := id hR
    rcases (show a = 0 ∨ a = 1 by omega) with rfl | rfl
    · refine ⟨nI (B 10), jsI S 21 3 0, jsI (jsI S 21 3 0) 42 10 0, ?_, ?_, upB B 10 0, T, tl, RR_mk hR rfl ?_ (vB_f10 hv) (mB_up hm 10 0) (cB_c (cB_f10 hc) rfl rfl rfl rfl rfl)⟩
      · unfold f_X11_forget f_X11_forget_e
        rw [X11_isBit, jcl_s, hx, ite_b, if_pos rfl, if_pos (by decide), hc.2.2.1]
        rfl
      · unfold f_X12_forget f_X12_forget_e
        rw [X12_in01, jcl_s, hx, ite_b, if_pos rfl, if_pos (by decide)]
        show some (S.1 42 10, _) = _
        rw [hm 10 (by omega)]
        rfl
      · intro k g1 g2
        rw [jsI_1, if_neg g1, jsI_1, if_neg (by omega)]
    · refine ⟨nI (B 11), jsI S 21 5 0, jsI (jsI S 21 5 0) 42 11 0, ?_, ?_, upB B 11 0, T, tl, RR_mk hR rfl ?_ (vB_f11 hv) (mB_up hm 11 0) (cB_c (cB_f11 hc) rfl rfl rfl rfl rfl)⟩
      · unfold f_X11_forget f_X11_forget_e
        rw [X11_isBit, jcl_s, hx, ite_b, if_pos rfl, if_neg (by decide), hc.2.2.2.1]
        rfl
      · unfold f_X12_forget f_X12_forget_e
        rw [X12_in01, jcl_s, hx, ite_b, if_pos rfl, if_neg (by decide)]
        show some (S.1 42 11, _) = _
        rw [hm 11 (by omega)]
        rfl
      · intro k g1 g2
        rw [jsI_1, if_neg g1, jsI_1, if_neg (by omega)]
theorem nar_b : ∀ a, a < 128 → vp_nar .byte (nI a).toInt8.toInt32 = nI a := by decide +kernel
theorem op_type (x : Int32) {S : jS} (h : GG S) : O2 (f_X11_type x S) (f_X12_type x) := by
  obtain ⟨B, T, tl, hR⟩ := id h
  cases hx : okr x 0 127 with
  | false =>
    refine O2_bad h (-2) ?_ ?_
    · unfold f_X11_type f_X11_type_e f_X11_type_10
      rw [show (127 : Int32) = nI 127 from rfl, rng0 x 127 (by omega), hx, if_neg (by decide), X11_refuseBad, jcl_s]
    · unfold f_X12_type f_X12_type_e
      rw [show f_X12_in x.toInt64 0 127 _ = some (bI (okr x 0 127), _) from X12_inN x 0 127 (by omega) (by omega) _, jcl_s, hx, ite_b, if_neg (by decide), X12_bad, jcl_s]
      rfl
  | true =>
    obtain ⟨a, -, ha, rfl⟩ := okr_of hx (by omega)
    obtain ⟨h1, h2, h3, h4, h5, h6, h7, h8, h9⟩ := id hR
    obtain ⟨t1, t2, t3, t4⟩ := id h9
    by_cases hl : tl = 150
    · refine O2_full h (-4) ?_ ?_
      · unfold f_X11_type f_X11_type_e f_X7_take f_X7_take_e
        rw [show (127 : Int32) = nI 127 from rfl, rng0 _ 127 (by omega), hx, if_pos rfl, t2, itl q150 (by omega) (by omega), if_neg (by omega), jzr_0, jcl_s, ite_b, if_neg (by decide), X11_refuseFull, jcl_s]
      · unfold f_X12_type f_X12_type_e
        rw [show f_X12_in (nI a).toInt64 0 127 _ = some (bI (okr (nI a) 0 127), _) from X12_inN (nI a) 0 127 (by omega) (by omega) _, jcl_s, hx, ite_b, if_pos rfl, show (jsI S 0 15 (S.1 0 15 + 1)).1 41 18 = nI tl from t3, itv q150 (by omega) (by omega), if_pos hl, X12_full, jcl_s]
        rfl
    · refine ⟨nI (tl + 1), jsI (jsI S 20 tl (nI a)) 18 1 (nI (tl + 1)), jsI (jsI (jsI (jsI S 20 tl (nI a)) 18 1 (nI (tl + 1))) 53 tl (nI a)) 41 18 (nI (tl + 1)), ?_, ?_, B, upB T tl a, tl + 1, tabs_c h1 rfl rfl rfl, h2, h3, cB_c h4 rfl rfl rfl rfl rfl, im_c h5 rfl rfl rfl rfl rfl rfl rfl rfl, im_c h6 rfl rfl rfl rfl rfl rfl rfl rfl, h7, h8, by omega, rfl, rfl, fun j hj => ?_⟩
      · unfold f_X11_type f_X11_type_e f_X7_take f_X7_take_e
        rw [show (127 : Int32) = nI 127 from rfl, rng0 _ 127 (by omega), hx, if_pos rfl, t2, itl q150 (by omega) (by omega), if_pos (by omega), nar_b a (by omega), jst_nI (by omega) (by omega), jpt_s, jzr_1, jcl_s, ite_b, if_pos rfl, show (jsI S 20 tl (nI a)).1 18 1 = nI tl from t2, q1, qadd]
        rfl
      · unfold f_X12_type f_X12_type_e
        have e : (jsI (jsI S 20 tl (nI a)) 18 1 (nI (tl + 1))).1 41 18 = nI tl := t3
        have e2 : (jsI (jsI (jsI S 20 tl (nI a)) 18 1 (nI (tl + 1))) 53 tl (nI a)).1 41 18 = nI tl := t3
        rw [show f_X12_in (nI a).toInt64 0 127 _ = some (bI (okr (nI a) 0 127), _) from X12_inN (nI a) 0 127 (by omega) (by omega) _, jcl_s, hx, ite_b, if_pos rfl, e, itv q150 (by omega) (by omega), if_neg hl, jst_nI (by omega) (by omega), e2, q1, qadd, jpt_s]
        rfl
      · show upd (S.1 20) tl (nI a) j = _ ∧ upd (S.1 53) tl (nI a) j = _ ∧ _
        unfold upB
        rw [upd_1, upd_1]
        by_cases g : j = tl
        · rw [if_pos g, if_pos g, if_pos g]
          exact ⟨rfl, rfl, ha⟩
        · rw [if_neg g, if_neg g, if_neg g]
          exact t4 j (by omega)
def ntB (B : Nat → Nat) (a b c : Nat) : Nat → Nat := upB (upB (upB (upB B (45 + 3 * B 11) a) (45 + 3 * B 11 + 1) b) (45 + 3 * B 11 + 2) c) 11 (B 11 + 1)
theorem ntB_n (B : Nat → Nat) (a b c : Nat) {j : Nat} (h : j ≠ 11) (h2 : j < 45 + 3 * B 11 ∨ 48 + 3 * B 11 ≤ j) : ntB B a b c j = B j := by
  unfold ntB
  rw [upB_n _ h, upB_n _ (by omega), upB_n _ (by omega), upB_n _ (by omega)]
theorem ntB_0 (B : Nat → Nat) (a b c : Nat) : ntB B a b c (45 + 3 * B 11) = a := by
  unfold ntB
  rw [upB_n _ (by omega), upB_n _ (by omega), upB_n _ (by omega), upB_s]
theorem ntB_1 (B : Nat → Nat) (a b c : Nat) : ntB B a b c (46 + 3 * B 11) = b := by
  unfold ntB
  rw [show 46 + 3 * B 11 = 45 + 3 * B 11 + 1 by omega, upB_n _ (by omega), upB_n _ (by omega), upB_s]
theorem ntB_2 (B : Nat → Nat) (a b c : Nat) : ntB B a b c (47 + 3 * B 11) = c := by
  unfold ntB
  rw [show 47 + 3 * B 11 = 45 + 3 * B 11 + 2 by omega, upB_n _ (by omega), upB_s]
theorem ntB_11 (B : Nat → Nat) (a b c : Nat) : ntB B a b c 11 = B 11 + 1 := upB_s _ _ _
theorem vB_ntB {B : Nat → Nat} (hv : vB B) (hf : B 11 < 8) {a b c : Nat} (ha0 : 1 ≤ a) (ha : a ≤ 300) (hb0 : 1 ≤ b) (hb : b ≤ 300) (hc : c ≤ 1) : vB (ntB B a b c) := by
  obtain ⟨h1, h2, h3, h4, h5, h6, h7, h8, h9⟩ := hv
  have u := fun j h h2 => ntB_n B a b c (j := j) h h2
  refine ⟨fun j hj => ?_, ?_, ?_, ?_, ?_, ?_, fun i hi => ?_, fun i hi => ?_, fun i hi => ?_⟩
  · rw [u j (by omega) (by omega)]; exact h1 j hj
  · rw [u 8 (by omega) (by omega)]; exact h2
  · rw [u 9 (by omega) (by omega)]; exact h3
  · rw [u 10 (by omega) (by omega)]; exact h4
  · rw [ntB_11]; omega
  · rw [u 12 (by omega) (by omega)]; exact h6
  · rw [u 10 (by omega) (by omega)] at hi
    rw [u _ (by omega) (by omega), u _ (by omega) (by omega), u _ (by omega) (by omega), u _ (by omega) (by omega)]
    exact h7 i hi
  · rw [ntB_11] at hi
    rcases Nat.lt_or_ge i (B 11) with hl | hl
    · rw [u _ (by omega) (by omega), u _ (by omega) (by omega), u _ (by omega) (by omega)]
      exact h8 i hl
    · have e : i = B 11 := by omega
      rw [e, ntB_0, ntB_1, ntB_2]
      exact ⟨ha0, ha, hb0, hb, hc⟩
  · rw [u 12 (by omega) (by omega)] at hi
    obtain ⟨p1, p2⟩ := h9 i hi
    rw [u (77 + 10 * i) (by omega) (by omega), u (78 + 10 * i) (by omega) (by omega)]
    refine ⟨fun q hq => ?_, p2⟩
    rw [u _ (by omega) (by omega)]
    exact p1 q hq
theorem cB_ntB {S S' : jS} {B : Nat → Nat} (hv : vB B) (hc : cB S 21 B) (hf : B 11 < 8) {a b c : Nat} (e22 : S'.1 22 = S.1 22) (e23 : S'.1 23 = S.1 23) (e25 : S'.1 25 = S.1 25) (e21 : ∀ j, j ≠ 5 → S'.1 21 j = S.1 21 j) (e5 : S'.1 21 5 = nI (B 11 + 1)) (e24 : S'.1 24 = upd (upd (upd (S.1 24) (3 * B 11) (nI a)) (3 * B 11 + 1) (nI b)) (3 * B 11 + 2) (nI c)) : cB S' 21 (ntB B a b c) := by
  obtain ⟨c1, c2, c3, c4, c5, c6, c7, c8⟩ := hc
  have h10 := hv.2.2.2.1
  have u := fun j h h2 => ntB_n B a b c (j := j) h h2
  refine ⟨fun j hj => ?_, ?_, ?_, ?_, ?_, fun i hi => ?_, fun i hi => ?_, fun i hi => ?_⟩
  · show S'.1 22 j = _
    rw [u j (by omega) (by omega), e22]; exact c1 j hj
  · rw [u 8 (by omega) (by omega), u 9 (by omega) (by omega), e21 _ (by omega)]; exact c2
  · rw [u 10 (by omega) (by omega), e21 _ (by omega)]; exact c3
  · rw [ntB_11]; exact e5
  · rw [u 12 (by omega) (by omega), e21 _ (by omega)]; exact c5
  · show S'.1 23 _ = _ ∧ S'.1 23 _ = _ ∧ S'.1 23 _ = _
    rw [u 10 (by omega) (by omega)] at hi
    rw [u _ (by omega) (by omega), u _ (by omega) (by omega), u _ (by omega) (by omega), u _ (by omega) (by omega), e23]
    exact c6 i hi
  · show S'.1 24 _ = _
    rw [ntB_11] at hi
    rw [e24, upd_1, upd_1, upd_1]
    by_cases g2 : i = 3 * B 11 + 2
    · rw [if_pos g2, show 45 + i = 47 + 3 * B 11 by omega, ntB_2]
    · rw [if_neg g2]
      by_cases g1 : i = 3 * B 11 + 1
      · rw [if_pos g1, show 45 + i = 46 + 3 * B 11 by omega, ntB_1]
      · rw [if_neg g1]
        by_cases g0 : i = 3 * B 11
        · rw [if_pos g0, show 45 + i = 45 + 3 * B 11 by omega, ntB_0]
        · rw [if_neg g0, u _ (by omega) (by omega)]
          exact c7 i (by omega)
  · show (∀ h, h < 8 → S'.1 25 _ = _) ∧ S'.1 25 _ = _
    rw [u 12 (by omega) (by omega)] at hi
    obtain ⟨p1, p2⟩ := c8 i hi
    rw [u (77 + 10 * i) (by omega) (by omega), u (78 + 10 * i) (by omega) (by omega), e25]
    refine ⟨fun q hq => ?_, p2⟩
    rw [u _ (by omega) (by omega)]
    exact p1 q hq
theorem op_note (x y z : Int32) {S : jS} (h : GG S) : O2 (f_X11_note x y z S) (f_X12_note x y z) := by
  obtain ⟨B, T, tl, hR⟩ := id h
  cases hx : okr x 1 300 with
  | false =>
    refine O2_bad h (-2) ?_ ?_
    · unfold f_X11_note f_X11_note_e f_X11_note_21
      rw [X11_isNumber, jcl_s, hx, ite_b, if_neg (by decide), X11_refuseBad, jcl_s]
    · unfold f_X12_note f_X12_note_e f_X12_note_24
      rw [X12_isNumber, jcl_s, hx, ite_b, if_neg (by decide), X12_bad, jcl_s]
      rfl
  | true =>
    cases hy : okr y 1 300 with
    | false =>
      refine O2_bad h (-2) ?_ ?_
      · unfold f_X11_note f_X11_note_e f_X11_note_21
        rw [X11_isNumber, jcl_s, hx, ite_b, if_pos rfl, X11_isNumber, jcl_s, hy, ite_b, if_neg (by decide), X11_refuseBad, jcl_s]
      · unfold f_X12_note f_X12_note_e f_X12_note_24
        rw [X12_isNumber, jcl_s, hx, ite_b, if_pos rfl, X12_isNumber, jcl_s, hy, ite_b, if_neg (by decide), X12_bad, jcl_s]
        rfl
    | true =>
      cases hz : okr z 0 1 with
      | false =>
        refine O2_bad h (-2) ?_ ?_
        · unfold f_X11_note f_X11_note_e f_X11_note_21
          rw [X11_isNumber, jcl_s, hx, ite_b, if_pos rfl, X11_isNumber, jcl_s, hy, ite_b, if_pos rfl, X11_isBit, jcl_s, hz, ite_b, if_neg (by decide), X11_refuseBad, jcl_s]
        · unfold f_X12_note f_X12_note_e f_X12_note_24
          rw [X12_isNumber, jcl_s, hx, ite_b, if_pos rfl, X12_isNumber, jcl_s, hy, ite_b, if_pos rfl, X12_in01, jcl_s, hz, ite_b, if_neg (by decide), X12_bad, jcl_s]
          rfl
      | true =>
        obtain ⟨a, ha0, ha, rfl⟩ := okr_of hx (by omega)
        obtain ⟨b, hb0, hb, rfl⟩ := okr_of hy (by omega)
        obtain ⟨c, -, hc1, rfl⟩ := okr_of hz (by omega)
        obtain ⟨h1, hv, hm, hc, h5⟩ := id hR
        have hle : B 11 ≤ 8 := hv.2.2.2.2.1
        have c11 : S.1 21 5 = nI (B 11) := hc.2.2.2.1
        by_cases hf : B 11 = 8
        · refine O2_full h (-4) ?_ ?_
          · unfold f_X11_note f_X11_note_e
            rw [X11_isNumber, jcl_s, hx, ite_b, if_pos rfl, X11_isNumber, jcl_s, hy, ite_b, if_pos rfl, X11_isBit, jcl_s, hz, ite_b, if_pos rfl, c11, itl q8 (by omega) (by omega), if_neg (by omega), X11_refuseFull, jcl_s]
          · unfold f_X12_note f_X12_note_e
            rw [X12_isNumber, jcl_s, hx, ite_b, if_pos rfl, X12_isNumber, jcl_s, hy, ite_b, if_pos rfl, X12_in01, jcl_s, hz, ite_b, if_pos rfl, show (11 : Int32) = nI 11 from rfl, jld_nI (by omega) (by omega), show (jsI S 0 15 (S.1 0 15 + 1)).1 42 11 = nI (B 11) from hm 11 (by omega), itv q8 (by omega) (by omega), if_pos hf, X12_full, jcl_s]
            rfl
        · have e1 : f_X10_addNote (nI a) (nI b) (nI c) S = some (jsI (jsR S 24 (upd (upd (upd (S.1 24) (3 * B 11) (nI a)) (3 * B 11 + 1) (nI b)) (3 * B 11 + 2) (nI c))) 21 5 (nI (B 11 + 1))) := by
            unfold f_X10_addNote f_X10_addNote_e f_X10_addThree_r24 f_X10_addThree_r24_e f_X10_addThree_r24_39
            rw [c11, q3, qmul, q2, qadd, if_neg (nI_pos (by omega)), itl (show (24 : Int32) = nI 24 from rfl) (by omega) (by omega), if_pos (by omega), jst_nI (by omega) (by omega), show nI (3 * B 11) + 1 = nI (3 * B 11 + 1) from qadd _ 1, jst_nI (by omega) (by omega), jst_nI (by omega) (by omega), jcv_s]
            simp only [jsI_d, jsR_R, jsR_s]
            rw [jsR_n _ _ (by omega), c11, q1, qadd, jpt_s]
            rfl
          have em : ∀ S1 : jS, S1.1 42 = S.1 42 → f_X12_note (nI a) (nI b) (nI c) S1 = some (nI (B 11 + 1), jsR S1 42 (upd (upd (upd (upd (S.1 42) (45 + 3 * B 11) (nI a)) (45 + 3 * B 11 + 1) (nI b)) (45 + 3 * B 11 + 2) (nI c)) 11 (nI (B 11 + 1)))) := by
            intro S1 e42
            have m11 : S1.1 42 11 = nI (B 11) := by rw [e42]; exact hm 11 (by omega)
            unfold f_X12_note f_X12_note_e
            rw [X12_isNumber, jcl_s, hx, ite_b, if_pos rfl, X12_isNumber, jcl_s, hy, ite_b, if_pos rfl, X12_in01, jcl_s, hz, ite_b, if_pos rfl, show (11 : Int32) = nI 11 from rfl, jld_nI (by omega) (by omega), m11, itv q8 (by omega) (by omega), if_neg hf, jld_nI (by omega) (by omega), m11, q3, qmul, show (45 : Int32) = nI 45 from rfl, qadd, q1, qadd, q2, qadd, jst_nI (by omega) (by omega), jst_nI (by omega) (by omega), jst_nI (by omega) (by omega), jld_nI (by omega) (by omega), jst_nI (by omega) (by omega), jld_nI (by omega) (by omega)]
            simp only [jsI_d, jsR_R, jsR_s]
            rw [upd_s, upd_n _ _ (by omega), upd_n _ _ (by omega), upd_n _ _ (by omega), m11, qadd, e42]
          refine ⟨nI (B 11 + 1), jsI (jsR S 24 (upd (upd (upd (S.1 24) (3 * B 11) (nI a)) (3 * B 11 + 1) (nI b)) (3 * B 11 + 2) (nI c))) 21 5 (nI (B 11 + 1)), _, ?_, em _ rfl, ntB B a b c, T, tl, RR_mk hR rfl ?_ (vB_ntB hv (by omega) ha0 ha hb0 hb hc1) (mB_up (mB_up (mB_up (mB_up hm _ a) _ b) _ c) 11 _) (cB_ntB hv hc (by omega) rfl rfl rfl (fun j hj => if_neg hj) rfl rfl)⟩
          · unfold f_X11_note f_X11_note_e
            rw [X11_isNumber, jcl_s, hx, ite_b, if_pos rfl, X11_isNumber, jcl_s, hy, ite_b, if_pos rfl, X11_isBit, jcl_s, hz, ite_b, if_pos rfl, c11, itl q8 (by omega) (by omega), if_pos (by omega), e1, jcv_s]
            rfl
          · intro k g1 g2
            rw [jsR_1, if_neg g1, jsI_1, if_neg (by omega), jsR_1, if_neg (by omega)]
