/-! ===== a counted loop: st tells the state at each turn ===== -/
theorem jloop_up {α β : Type} {B : (α → Option β) → α → Option β} {r : Option β} (st : Nat → α) (n : Nat) (hn : n < 1000000000) (h : ∀ i, i < n → ∀ g : α → Option β, B g (st i) = g (st (i + 1))) (he : ∀ g : α → Option β, B g (st n) = r) : jloop B jN (st 0) = r := by
  have key : ∀ (f i : Nat), i ≤ n → n < i + f → jloop B f (st i) = r := by
    intro f
    induction f with
    | zero => intro i h1 h2; omega
    | succ f ih =>
      intro i h1 h2
      show B (jloop B f) (st i) = r
      rcases Nat.lt_or_ge i n with hl | hl
      · rw [h i hl]
        exact ih (i + 1) (by omega) (by omega)
      · have e : i = n := by omega
        subst e
        exact he _
  exact key jN 0 (Nat.zero_le _) (by have := jN_big hn; omega)
/-! ===== house, rule, birthday, swap ===== -/
theorem op_house (x y : Int32) {S : jS} (h : GG S) : O2 (f_X11_house x y S) (f_X12_house x y) := by
  obtain ⟨B, T, tl, hR⟩ := id h
  cases hx : okr x 0 7 with
  | false =>
    refine O2_bad h (-2) ?_ ?_
    · unfold f_X11_house f_X11_house_e f_X11_house_18
      rw [X11_isHouse, jcl_s, hx, ite_b, if_neg (by decide), X11_refuseBad, jcl_s]
    · unfold f_X12_house f_X12_house_e f_X12_house_19
      rw [X12_isHouse, jcl_s, hx, ite_b, if_neg (by decide), X12_bad, jcl_s]
      rfl
  | true =>
    cases hy : okr y 0 300 with
    | false =>
      refine O2_bad h (-2) ?_ ?_
      · unfold f_X11_house f_X11_house_e f_X11_house_18
        rw [X11_isHouse, jcl_s, hx, ite_b, if_pos rfl, q300, rng0 y 300 (by omega), hy, if_neg (by decide), X11_refuseBad, jcl_s]
      · unfold f_X12_house f_X12_house_e f_X12_house_19
        rw [X12_isHouse, jcl_s, hx, ite_b, if_pos rfl, show f_X12_in y.toInt64 0 300 _ = some (bI (okr y 0 300), _) from X12_inN y 0 300 (by omega) (by omega) _, jcl_s, hy, ite_b, if_neg (by decide), X12_bad, jcl_s]
        rfl
    | true =>
      obtain ⟨a, -, ha, rfl⟩ := okr_of hx (by omega)
      obtain ⟨b, -, hb, rfl⟩ := okr_of hy (by omega)
      obtain ⟨h1, hv, hm, hc, h5⟩ := id hR
      obtain ⟨S1, e1, e2, eo, e21, ec⟩ := X10_remember hv hc
      have hm' : mB ((jsI S1 22 a (nI b)).1 42) B := by
        show mB (S1.1 42) B
        rw [eo 42 (by omega) (by omega)]
        exact hm
      obtain ⟨f, ef, mf⟩ := X12_keep hv hm'
      refine ⟨nI (B a), jsI S1 22 a (nI b), jsR (jsI S1 22 a (nI b)) 42 (upd f a (nI b)), ?_, ?_, upB (kB B) a b, T, tl, RR_mk hR ?_ ?_ ?_ ?_ ?_⟩
      · unfold f_X11_house f_X11_house_e
        rw [X11_isHouse, jcl_s, hx, ite_b, if_pos rfl, q300, rng0 _ 300 (by omega), hy, if_pos rfl, jld_nI (by omega) (by omega), hc.1 a (by omega), e1, jcv_s, jst_nI (by omega) (by omega)]
      · unfold f_X12_house f_X12_house_e
        rw [X12_isHouse, jcl_s, hx, ite_b, if_pos rfl, show f_X12_in (nI b).toInt64 0 300 _ = some (bI (okr (nI b) 0 300), _) from X12_inN (nI b) 0 300 (by omega) (by omega) _, jcl_s, hy, ite_b, if_pos rfl, jld_nI (by omega) (by omega), hm' a (by omega), ef, jcv_s, jst_nI (by omega) (by omega), jsI_R]
      · exact e2
      · intro k g1 g2
        rw [jsR_1, if_neg g1, jsI_1, if_neg (by omega)]
        exact eo k (by omega) (by omega)
      · exact vB_house (vB_kB hv) (by omega) hb
      · exact mB_up mf a b
      · exact cB_c (cB_house (vB_kB hv) ec (show a < 8 by omega) b) rfl rfl rfl rfl rfl
theorem op_birthday (x : Int32) {S : jS} (h : GG S) : O2 (f_X11_birthday x S) (f_X12_birthday x) := by
  obtain ⟨B, T, tl, hR⟩ := id h
  cases hx : okr x 0 7 with
  | false =>
    refine O2_bad h (-2) ?_ ?_
    · unfold f_X11_birthday f_X11_birthday_e
      rw [X11_isHouse, jcl_s, hx, ite_b, if_neg (by decide), X11_refuseBad, jcl_s]
    · unfold f_X12_birthday f_X12_birthday_e
      rw [X12_isHouse, jcl_s, hx, ite_b, if_neg (by decide), X12_bad, jcl_s]
      rfl
  | true =>
    obtain ⟨a, -, ha, rfl⟩ := okr_of hx (by omega)
    obtain ⟨h1, hv, hm, hc, h5⟩ := id hR
    have hB : B a ≤ 300 := hv.1 a (by omega)
    have m42 : (jsI S 0 14 (S.1 0 14 + 1)).1 42 a = nI (B a) := hm a (by omega)
    by_cases h0 : B a = 0
    · refine O2_no h (-3) ?_ ?_
      · unfold f_X11_birthday f_X11_birthday_e f_X11_birthday_33
        rw [X11_isHouse, jcl_s, hx, ite_b, if_pos rfl, jld_nI (by omega) (by omega), hc.1 a (by omega), if_pos (by rw [h0]; rfl), X11_refuseNo, jcl_s]
      · unfold f_X12_birthday f_X12_birthday_e f_X12_birthday_35
        rw [X12_isHouse, jcl_s, hx, ite_b, if_pos rfl, jld_nI (by omega) (by omega), m42, if_pos (by rw [h0]; rfl), X12_no, jcl_s]
        rfl
    · have n0 : ¬ nI (B a) = 0 := by rw [q0, qeq (by omega) (by omega)]; exact h0
      by_cases h3 : B a = 300
      · refine O2_no h (-3) ?_ ?_
        · unfold f_X11_birthday f_X11_birthday_e f_X11_birthday_33
          rw [X11_isHouse, jcl_s, hx, ite_b, if_pos rfl, jld_nI (by omega) (by omega), hc.1 a (by omega), if_neg n0, if_neg (by rw [h3]; decide), X11_refuseNo, jcl_s]
        · unfold f_X12_birthday f_X12_birthday_e f_X12_birthday_35
          rw [X12_isHouse, jcl_s, hx, ite_b, if_pos rfl, jld_nI (by omega) (by omega), m42, if_neg n0, jld_nI (by omega) (by omega), m42, if_pos (by rw [h3]; rfl), X12_no, jcl_s]
          rfl
      · obtain ⟨S1, e1, e2, eo, e21, ec⟩ := X10_remember hv hc
        have hm' : mB ((jsI S1 22 a (nI (B a + 1))).1 42) B := by
          show mB (S1.1 42) B
          rw [eo 42 (by omega) (by omega)]
          exact hm
        obtain ⟨f, ef, mf⟩ := X12_keep hv hm'
        have fa : f a = nI (B a) := by
          rw [mf a (by omega), kB_low B (by omega) (by omega)]
        have fa' : (jsR (jsI S1 22 a (nI (B a + 1))) 42 f).1 42 a = nI (B a) := fa
        refine ⟨nI (B a + 1), jsI S1 22 a (nI (B a + 1)), jsR (jsI S1 22 a (nI (B a + 1))) 42 (upd f a (nI (B a + 1))), ?_, ?_, upB (kB B) a (B a + 1), T, tl, RR_mk hR ?_ ?_ ?_ ?_ ?_⟩
        · unfold f_X11_birthday f_X11_birthday_e
          rw [X11_isHouse, jcl_s, hx, ite_b, if_pos rfl, jld_nI (by omega) (by omega), hc.1 a (by omega), if_neg n0, if_pos (show nI (B a) < 300 by rw [q300, qlt (by omega) (by omega)]; omega), e1, jcv_s, q1, qadd, jst_nI (by omega) (by omega)]
        · unfold f_X12_birthday f_X12_birthday_e
          rw [X12_isHouse, jcl_s, hx, ite_b, if_pos rfl, jld_nI (by omega) (by omega), hm' a (by omega), if_neg n0, jld_nI (by omega) (by omega), hm' a (by omega), if_neg (show ¬ nI (B a) = 300 by rw [q300, qeq (by omega) (by omega)]; exact h3), ef, jcv_s, jld_nI (by omega) (by omega), jst_nI (by omega) (by omega), fa', q1, qadd, jsI_R, jld_nI (by omega) (by omega)]
          show some (upd f a (nI (B a + 1)) a, _) = _
          rw [upd_1, if_pos rfl]
        · exact e2
        · intro k g1 g2
          rw [jsR_1, if_neg g1, jsI_1, if_neg (by omega)]
          exact eo k (by omega) (by omega)
        · exact vB_house (vB_kB hv) (by omega) (by omega)
        · exact mB_up mf a _
        · exact cB_c (cB_house (vB_kB hv) ec (show a < 8 by omega) _) rfl rfl rfl rfl rfl
theorem op_swap (x y : Int32) {S : jS} (h : GG S) : O2 (f_X11_swap x y S) (f_X12_swap x y) := by
  obtain ⟨B, T, tl, hR⟩ := id h
  cases hx : okr x 0 7 with
  | false =>
    refine O2_bad h (-2) ?_ ?_
    · unfold f_X11_swap f_X11_swap_e f_X11_swap_19
      rw [X11_isHouse, jcl_s, hx, ite_b, if_neg (by decide), X11_refuseBad, jcl_s]
    · unfold f_X12_swap f_X12_swap_e f_X12_swap_19
      rw [X12_isHouse, jcl_s, hx, ite_b, if_neg (by decide), X12_bad, jcl_s]
      rfl
  | true =>
    cases hy : okr y 0 7 with
    | false =>
      refine O2_bad h (-2) ?_ ?_
      · unfold f_X11_swap f_X11_swap_e f_X11_swap_19
        rw [X11_isHouse, jcl_s, hx, ite_b, if_pos rfl, X11_isHouse, jcl_s, hy, ite_b, if_neg (by decide), X11_refuseBad, jcl_s]
      · unfold f_X12_swap f_X12_swap_e f_X12_swap_19
        rw [X12_isHouse, jcl_s, hx, ite_b, if_pos rfl, X12_isHouse, jcl_s, hy, ite_b, if_neg (by decide), X12_bad, jcl_s]
        rfl
    | true =>
      obtain ⟨a, -, ha, rfl⟩ := okr_of hx (by omega)
      obtain ⟨b, -, hb, rfl⟩ := okr_of hy (by omega)
      by_cases hab : a = b
      · have e : nI a = nI b := by rw [hab]
        refine O2_bad h (-2) ?_ ?_
        · unfold f_X11_swap f_X11_swap_e f_X11_swap_19
          rw [X11_isHouse, jcl_s, hx, ite_b, if_pos rfl, X11_isHouse, jcl_s, hy, ite_b, if_pos rfl, if_pos e, X11_refuseBad, jcl_s]
        · unfold f_X12_swap f_X12_swap_e f_X12_swap_19
          rw [X12_isHouse, jcl_s, hx, ite_b, if_pos rfl, X12_isHouse, jcl_s, hy, ite_b, if_pos rfl, if_pos e, X12_bad, jcl_s]
          rfl
      · have ne : ¬ nI a = nI b := by rw [qeq (by omega) (by omega)]; exact hab
        obtain ⟨h1, hv, hm, hc, h5⟩ := id hR
        have hA : B a ≤ 300 := hv.1 a (by omega)
        have hB : B b ≤ 300 := hv.1 b (by omega)
        by_cases h0 : B a = 0 ∧ B b = 0
        · have m42 : ∀ j, j < 8 → (jsI S 0 14 (S.1 0 14 + 1)).1 42 j = nI (B j) := fun j hj => hm j (by omega)
          refine O2_no h (-3) ?_ ?_
          · unfold f_X11_swap f_X11_swap_e
            rw [X11_isHouse, jcl_s, hx, ite_b, if_pos rfl, X11_isHouse, jcl_s, hy, ite_b, if_pos rfl, if_neg ne, jld_nI (by omega) (by omega), hc.1 a (by omega), jld_nI (by omega) (by omega), hc.1 b (by omega), if_pos (by rw [h0.1]; rfl), if_pos (by rw [h0.2]; rfl), X11_refuseNo, jcl_s]
          · unfold f_X12_swap f_X12_swap_e
            rw [X12_isHouse, jcl_s, hx, ite_b, if_pos rfl, X12_isHouse, jcl_s, hy, ite_b, if_pos rfl, if_neg ne, jld_nI (by omega) (by omega), m42 a (by omega), if_pos (by rw [h0.1]; rfl), jld_nI (by omega) (by omega), m42 b (by omega), if_pos (by rw [h0.2]; rfl), X12_no, jcl_s]
            rfl
        · obtain ⟨S1, e1, e2, eo, e21, ec⟩ := X10_remember hv hc
          have hm' : mB ((jsI (jsI S1 22 a (nI (B b))) 22 b (nI (B a))).1 42) B := by
            show mB (S1.1 42) B
            rw [eo 42 (by omega) (by omega)]
            exact hm
          obtain ⟨f, ef, mf⟩ := X12_keep hv hm'
          have fa : f a = nI (B a) := by rw [mf a (by omega), kB_low B (by omega) (by omega)]
          have fb : f b = nI (B b) := by rw [mf b (by omega), kB_low B (by omega) (by omega)]
          have c1 : f_X11_swap_59 (nI a) (nI b) (nI (B a)) (nI (B b)) S = some (1, jsI (jsI S1 22 a (nI (B b))) 22 b (nI (B a))) := by
            unfold f_X11_swap_59
            rw [e1, jcv_s, jst_nI (by omega) (by omega), jst_nI (by omega) (by omega)]
          have c2 : f_X12_swap_49 (nI a) (nI b) (jsI (jsI S1 22 a (nI (B b))) 22 b (nI (B a))) = some (1, jsR (jsI (jsI S1 22 a (nI (B b))) 22 b (nI (B a))) 42 (upd (upd f a (nI (B b))) b (nI (B a)))) := by
            unfold f_X12_swap_49
            rw [ef, jcv_s, jld_nI (by omega) (by omega), jld_nI (by omega) (by omega), jst_nI (by omega) (by omega), jst_nI (by omega) (by omega), jsR_1, if_pos rfl, fa, fb, jsI_R, jsI_R]
          refine ⟨1, jsI (jsI S1 22 a (nI (B b))) 22 b (nI (B a)), jsR (jsI (jsI S1 22 a (nI (B b))) 22 b (nI (B a))) 42 (upd (upd f a (nI (B b))) b (nI (B a))), ?_, ?_, upB (upB (kB B) a (B b)) b (B a), T, tl, RR_mk hR ?_ ?_ ?_ ?_ ?_⟩
          · unfold f_X11_swap f_X11_swap_e
            rw [X11_isHouse, jcl_s, hx, ite_b, if_pos rfl, X11_isHouse, jcl_s, hy, ite_b, if_pos rfl, if_neg ne, jld_nI (by omega) (by omega), hc.1 a (by omega), jld_nI (by omega) (by omega), hc.1 b (by omega), c1]
            by_cases g : B a = 0
            · rw [if_pos (by rw [g]; rfl), if_neg (show ¬ nI (B b) = 0 by rw [q0, qeq (by omega) (by omega)]; omega)]
            · rw [if_neg (show ¬ nI (B a) = 0 by rw [q0, qeq (by omega) (by omega)]; exact g)]
          · unfold f_X12_swap f_X12_swap_e
            rw [X12_isHouse, jcl_s, hx, ite_b, if_pos rfl, X12_isHouse, jcl_s, hy, ite_b, if_pos rfl, if_neg ne, jld_nI (by omega) (by omega), hm' a (by omega), jld_nI (by omega) (by omega), hm' b (by omega), c2]
            by_cases g : B a = 0
            · rw [if_pos (by rw [g]; rfl), if_neg (show ¬ nI (B b) = 0 by rw [q0, qeq (by omega) (by omega)]; omega)]
            · rw [if_neg (show ¬ nI (B a) = 0 by rw [q0, qeq (by omega) (by omega)]; exact g)]
          · exact e2
          · intro k g1 g2
            rw [jsR_1, if_neg g1, jsI_1, if_neg (by omega), jsI_1, if_neg (by omega)]
            exact eo k (by omega) (by omega)
          · exact vB_house (vB_house (vB_kB hv) (by omega) hB) (by omega) hA
          · exact mB_up (mB_up mf a _) b _
          · exact cB_c (cB_house (vB_house (vB_kB hv) (by omega) hB) (cB_house (vB_kB hv) ec (show a < 8 by omega) _) (show b < 8 by omega) _) rfl rfl rfl rfl rfl
