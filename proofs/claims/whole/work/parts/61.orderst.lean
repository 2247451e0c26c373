/-! ===== the class's two tables: written by a program, a row for each ===== -/
/-- the table holds what is asked of the sets above s -/
def tbN (S : jS) (R G : Nat → Nat) (s : Nat) : Prop := ∀ s' l, s < s' → s' < 2 ^ lvc R → l < lvc R → s'.testBit l = true → S.1 16 (s' * 8 + l) = nI (tN (lvc R) (adR R) G (lvc R - pc s') s' l)
theorem X4_sumOver_tb {S : jS} {R G : Nat → Nat} (hS : stl S R G) {s l : Nat} (hs : s < 2 ^ lvc R) (hne : pc s < lvc R) (hT : tbN S R G s) : f_X4_sumOver (nI s) (nI (msk (bC (adR R) G s l (pc s)) (lvc R))) S = some (nI (tN (lvc R) (adR R) G (lvc R - pc s) s l), S) := by
  have lc : lvc R ≤ 8 := cnt_le (lvp R) 8
  have p8 := p2_8 lc
  have hv : msk (bC (adR R) G s l (pc s)) (lvc R) < 256 := Nat.lt_of_lt_of_le (msk_lt _ _) p8
  obtain ⟨f, hf⟩ : ∃ f, lvc R - pc s = f + 1 := ⟨lvc R - pc s - 1, by omega⟩
  rw [X4_sumOver hS (fun i => tN (lvc R) (adR R) G f (s ||| 2 ^ i) i) hs hv (fun i hi hb => ?_), hf]
  · congr 3
    show sF _ 0 (lvc R) = sF _ 0 (lvc R)
    refine sF_c (lvc R) 0 (fun i _ hi => ?_)
    rw [msk_bit, decide_eq_true (show i < lvc R by omega), Bool.true_and, show lvc R - (f + 1) = pc s by omega]
  · rw [msk_bit, decide_eq_true hi, Bool.true_and] at hb
    unfold bC at hb
    rw [Bool.and_eq_true, Bool.not_eq_true'] at hb
    obtain ⟨o1, o2, o3, o4⟩ := pc_or s (by omega) i (by omega) hb.1
    have := hT (s ||| 2 ^ i) i o2 (or_2p hs hi) hi o4
    rw [show lvc R - pc (s ||| 2 ^ i) = f by omega] at this
    exact this
theorem X4_countOrders_17 {k71 : Int32 → Int32 → jS → Option (Int32 × jS)} {S : jS} {R G : Nat → Nat} (hS : stl S R G) {s : Nat} (hs0 : 0 < s) (hs : s < 2 ^ lvc R) (hT : tbN S R G s) : lp_X4_countOrders_17 k71 (nI (2 ^ lvc R - 1)) (nI s) 0 S = k71 (nI (2 ^ lvc R - 1)) (nI s) (jsR S 16 (wr s (fun l => nI (tN (lvc R) (adR R) G (lvc R - pc s) s l)) (lvc R) (S.1 16))) := by
  have lc : lvc R ≤ 8 := cnt_le (lvp R) 8
  have p8 := p2_8 lc
  obtain ⟨c1, c2, c3⟩ := pc_all (lvc R) (by omega) s hs
  unfold lp_X4_countOrders_17
  refine jloop_u (fun j => (nI (2 ^ lvc R - 1), nI s, nI j, jsR S 16 (wr s (fun l => nI (tN (lvc R) (adR R) G (lvc R - pc s) s l)) j (S.1 16)))) (lvc R) (by show (nI (2 ^ lvc R - 1), nI s, 0, S) = (nI (2 ^ lvc R - 1), nI s, nI 0, jsR S 16 (S.1 16)); rw [jsR_self]; rfl) (by omega) (fun j hj g => ?_) (fun g => ?_)
  · have eo : ∀ a, a < s * 8 ∨ s * 8 + 8 ≤ a → (jsR S 16 (wr s (fun l => nI (tN (lvc R) (adR R) G (lvc R - pc s) s l)) j (S.1 16))).1 16 a = S.1 16 a := fun a ha => by
      rw [jsR_s]
      exact wr_o _ _ _ ha j (by omega)
    have ew : wr s (fun l => nI (tN (lvc R) (adR R) G (lvc R - pc s) s l)) (j + 1) (S.1 16) = if s.testBit j = true then upd (wr s (fun l => nI (tN (lvc R) (adR R) G (lvc R - pc s) s l)) j (S.1 16)) (s * 8 + j) (nI (tN (lvc R) (adR R) G (lvc R - pc s) s j)) else wr s (fun l => nI (tN (lvc R) (adR R) G (lvc R - pc s) s l)) j (S.1 16) := rfl
    dsimp only
    rw [ew]
    generalize wr s (fun l => nI (tN (lvc R) (adR R) G (lvc R - pc s) s l)) j (S.1 16) = W at eo
    have hS' : stl (jsR S 16 W) R G := hS
    unfold f_X4_countOrders_17 f_X4_countOrders_64 f_X4_countOrders_65
    rw [hS'.1, itlt (by omega) (by omega), if_pos hj, bit_nI s (by omega) j (by omega), iteq (by omega) (by omega), iy_nI, show nI j + 1 = nI (j + 1) from qadd _ 1]
    cases cb : s.testBit j with
    | false => rw [if_neg (show ¬ bI false = 1 by decide), if_neg (by decide)]
    | true =>
      have es : ∀ v, jsI (jsR S 16 W) 16 (s * 8 + j) v = jsR S 16 (upd W (s * 8 + j) v) := fun v => by rw [jsI_d, jsR_R, jsR_s]
      rw [if_pos (show bI true = 1 from rfl), if_pos rfl]
      by_cases ca : s = 2 ^ lvc R - 1
      · rw [if_pos ca, jst_nI (by omega) (by omega), es, show lvc R - pc s = 0 by rw [c3 ca]; omega]
        rfl
      · have hne : pc s < lvc R := by
          rcases Nat.lt_or_ge (pc s) (lvc R) with q | q
          · exact q
          · exact absurd (c2 (by omega)) ca
        rw [if_neg ca, X4_comers hS' hs (fun _ => hj), jcl_s, X4_sumOver_tb hS' hs hne (fun s' l h1 h2 h3 h4 => by rw [eo _ (by omega)]; exact hT s' l h1 h2 h3 h4), jcl_s, jst_nI (by omega) (by omega), es]
  · dsimp only
    unfold f_X4_countOrders_17
    rw [show (jsR S 16 (wr s (fun l => nI (tN (lvc R) (adR R) G (lvc R - pc s) s l)) (lvc R) (S.1 16))).1 12 6 = nI (lvc R) from hS.1, itlt (by omega) (by omega), if_neg (by omega)]
theorem X4_countOrders {S : jS} {R G : Nat → Nat} (hS : stl S R G) : ∃ S1, f_X4_countOrders S = some (nI (tN (lvc R) (adR R) G (lvc R) 0 0), S1) ∧ Ev S S1 ∧ stl S1 R G ∧ tbN S1 R G 0 := by
  have lc : lvc R ≤ 8 := cnt_le (lvp R) 8
  have p8 := p2_8 lc
  have p1 : 0 < 2 ^ lvc R := Nat.pow_pos (by omega)
  unfold f_X4_countOrders f_X4_countOrders_e
  rw [hS.1, shl_M _ (by omega), show nI (2 ^ lvc R) - 1 = nI (2 ^ lvc R - 1) from qsub (b := 1) (by omega)]
  unfold lp_X4_countOrders_11
  refine jloop_i (fun i a => ∃ S', a = (nI (2 ^ lvc R - 1), nI (2 ^ lvc R - 1 - i), S') ∧ Ev S S' ∧ stl S' R G ∧ tbN S' R G (2 ^ lvc R - 1 - i)) (fun r => ∃ S1, r = some (nI (tN (lvc R) (adR R) G (lvc R) 0 0), S1) ∧ Ev S S1 ∧ stl S1 R G ∧ tbN S1 R G 0) (2 ^ lvc R - 1) (by omega) ?_ ?_ ⟨S, rfl, Ev.rfl' S, hS, fun s' l h1 h2 => by omega⟩
  · rintro i hi _ ⟨S', rfl, ev, h1, h2⟩
    refine ⟨_, ⟨jsR S' 16 (wr (2 ^ lvc R - 1 - i) (fun l => nI (tN (lvc R) (adR R) G (lvc R - pc (2 ^ lvc R - 1 - i)) (2 ^ lvc R - 1 - i) l)) (lvc R) (S'.1 16)), rfl, ev.tr (Ev.R S' 16 _ rfl (by omega) (by omega) (by omega)), h1, fun s' l g1 g2 g3 g4 => ?_⟩, fun g => ?_⟩
    · rw [jsR_s]
      by_cases e : s' = 2 ^ lvc R - 1 - i
      · rw [e] at g4 ⊢
        exact wr_i _ _ _ g4 _ g3
      · rw [wr_o _ _ _ (by omega) _ lc]
        exact h2 s' l (by omega) g2 g3 g4
    · dsimp only
      unfold f_X4_countOrders_11
      rw [itg q0 (by omega) (by omega), if_pos (by omega), X4_countOrders_17 h1 (by omega) (by omega) h2]
      unfold f_X4_countOrders_71
      rw [dec_nI (by omega), show 2 ^ lvc R - 1 - i - 1 = 2 ^ lvc R - 1 - (i + 1) by omega]
  · rintro _ ⟨S', rfl, ev, h1, h2⟩
    rw [show 2 ^ lvc R - 1 - (2 ^ lvc R - 1) = 0 by omega] at h2 ⊢
    refine ⟨_, ⟨S', rfl, ev, h1, h2⟩, fun g => ?_⟩
    dsimp only
    unfold f_X4_countOrders_11 f_X4_countOrders_77 f_X4_countOrders_96
    rw [if_neg (by decide), itv q0 (by omega) (by omega)]
    by_cases c : 2 ^ lvc R - 1 = 0
    · have m0 : lvc R = 0 := by
        rcases Nat.eq_zero_or_pos (lvc R) with q | q
        · exact q
        · have : 2 ^ 1 ≤ 2 ^ lvc R := Nat.pow_le_pow_right (by omega) q
          omega
      rw [if_pos c, m0]
      rfl
    · have m0 : 0 < lvc R := by
        rcases Nat.eq_zero_or_pos (lvc R) with q | q
        · rw [q] at c
          exact absurd rfl c
        · exact q
      rw [if_neg c, show f_X4_comers 0 0 S' = _ from X4_comers (s := 0) (l := 0) h1 p1 (fun q => absurd q (by decide)), jcl_s, show f_X4_sumOver 0 _ S' = _ from X4_sumOver_tb (s := 0) (l := 0) h1 p1 m0 h2, jcl_s]
      rfl
/-- the table holds what is asked of the sets above s -/
def tbL (S : jS) (R G : Nat → Nat) (s : Nat) : Prop := ∀ s' l, s < s' → s' < 2 ^ lvc R → l < lvc R → s'.testBit l = true → S.1 16 (s' * 8 + l) = eI (tL (lvc R) (adR R) G (lvc R - pc s') s' l)
theorem X4_leastOver_tb {S : jS} {R G : Nat → Nat} (hS : stl S R G) {s l : Nat} (hs : s < 2 ^ lvc R) (hne : pc s < lvc R) (hT : tbL S R G s) : f_X4_leastOver (nI s) (nI (msk (bC (adR R) G s l (pc s)) (lvc R))) S = some (eI (tL (lvc R) (adR R) G (lvc R - pc s) s l), S) := by
  have lc : lvc R ≤ 8 := cnt_le (lvp R) 8
  have p8 := p2_8 lc
  have hv : msk (bC (adR R) G s l (pc s)) (lvc R) < 256 := Nat.lt_of_lt_of_le (msk_lt _ _) p8
  obtain ⟨f, hf⟩ : ∃ f, lvc R - pc s = f + 1 := ⟨lvc R - pc s - 1, by omega⟩
  rw [X4_leastOver hS (fun i => tL (lvc R) (adR R) G f (s ||| 2 ^ i) i) hs hv (fun i r e => Nat.le_trans (tL_le _ _ _ _ _ _ _ e) (by omega)) (fun i hi hb => ?_), hf]
  · congr 3
    show mF _ 0 (lvc R) = mF _ 0 (lvc R)
    refine mF_c (lvc R) 0 (fun i _ hi => ?_)
    rw [msk_bit, decide_eq_true (show i < lvc R by omega), Bool.true_and, show lvc R - (f + 1) = pc s by omega]
  · rw [msk_bit, decide_eq_true hi, Bool.true_and] at hb
    unfold bC at hb
    rw [Bool.and_eq_true, Bool.not_eq_true'] at hb
    obtain ⟨o1, o2, o3, o4⟩ := pc_or s (by omega) i (by omega) hb.1
    have := hT (s ||| 2 ^ i) i o2 (or_2p hs hi) hi o4
    rw [show lvc R - pc (s ||| 2 ^ i) = f by omega] at this
    exact this
theorem X4_leastMoved_17 {k71 : Int32 → Int32 → jS → Option (Int32 × jS)} {S : jS} {R G : Nat → Nat} (hS : stl S R G) {s : Nat} (hs0 : 0 < s) (hs : s < 2 ^ lvc R) (hT : tbL S R G s) : lp_X4_leastMoved_17 k71 (nI (2 ^ lvc R - 1)) (nI s) 0 S = k71 (nI (2 ^ lvc R - 1)) (nI s) (jsR S 16 (wr s (fun l => eI (tL (lvc R) (adR R) G (lvc R - pc s) s l)) (lvc R) (S.1 16))) := by
  have lc : lvc R ≤ 8 := cnt_le (lvp R) 8
  have p8 := p2_8 lc
  obtain ⟨c1, c2, c3⟩ := pc_all (lvc R) (by omega) s hs
  unfold lp_X4_leastMoved_17
  refine jloop_u (fun j => (nI (2 ^ lvc R - 1), nI s, nI j, jsR S 16 (wr s (fun l => eI (tL (lvc R) (adR R) G (lvc R - pc s) s l)) j (S.1 16)))) (lvc R) (by show (nI (2 ^ lvc R - 1), nI s, 0, S) = (nI (2 ^ lvc R - 1), nI s, nI 0, jsR S 16 (S.1 16)); rw [jsR_self]; rfl) (by omega) (fun j hj g => ?_) (fun g => ?_)
  · have eo : ∀ a, a < s * 8 ∨ s * 8 + 8 ≤ a → (jsR S 16 (wr s (fun l => eI (tL (lvc R) (adR R) G (lvc R - pc s) s l)) j (S.1 16))).1 16 a = S.1 16 a := fun a ha => by
      rw [jsR_s]
      exact wr_o _ _ _ ha j (by omega)
    have ew : wr s (fun l => eI (tL (lvc R) (adR R) G (lvc R - pc s) s l)) (j + 1) (S.1 16) = if s.testBit j = true then upd (wr s (fun l => eI (tL (lvc R) (adR R) G (lvc R - pc s) s l)) j (S.1 16)) (s * 8 + j) (eI (tL (lvc R) (adR R) G (lvc R - pc s) s j)) else wr s (fun l => eI (tL (lvc R) (adR R) G (lvc R - pc s) s l)) j (S.1 16) := rfl
    dsimp only
    rw [ew]
    generalize wr s (fun l => eI (tL (lvc R) (adR R) G (lvc R - pc s) s l)) j (S.1 16) = W at eo
    have hS' : stl (jsR S 16 W) R G := hS
    unfold f_X4_leastMoved_17 f_X4_leastMoved_64 f_X4_leastMoved_65
    rw [hS'.1, itlt (by omega) (by omega), if_pos hj, bit_nI s (by omega) j (by omega), iteq (by omega) (by omega), iy_nI, show nI j + 1 = nI (j + 1) from qadd _ 1]
    cases cb : s.testBit j with
    | false => rw [if_neg (show ¬ bI false = 1 by decide), if_neg (by decide)]
    | true =>
      have es : ∀ v, jsI (jsR S 16 W) 16 (s * 8 + j) v = jsR S 16 (upd W (s * 8 + j) v) := fun v => by rw [jsI_d, jsR_R, jsR_s]
      rw [if_pos (show bI true = 1 from rfl), if_pos rfl]
      by_cases ca : s = 2 ^ lvc R - 1
      · rw [if_pos ca, jst_nI (by omega) (by omega), es, show lvc R - pc s = 0 by rw [c3 ca]; omega]
        rfl
      · have hne : pc s < lvc R := by
          rcases Nat.lt_or_ge (pc s) (lvc R) with q | q
          · exact q
          · exact absurd (c2 (by omega)) ca
        rw [if_neg ca, X4_comers hS' hs (fun _ => hj), jcl_s, X4_leastOver_tb hS' hs hne (fun s' l h1 h2 h3 h4 => by rw [eo _ (by omega)]; exact hT s' l h1 h2 h3 h4), jcl_s, jst_nI (by omega) (by omega), es]
  · dsimp only
    unfold f_X4_leastMoved_17
    rw [show (jsR S 16 (wr s (fun l => eI (tL (lvc R) (adR R) G (lvc R - pc s) s l)) (lvc R) (S.1 16))).1 12 6 = nI (lvc R) from hS.1, itlt (by omega) (by omega), if_neg (by omega)]
theorem X4_leastMoved {S : jS} {R G : Nat → Nat} (hS : stl S R G) : ∃ S1, f_X4_leastMoved S = some (eI (tL (lvc R) (adR R) G (lvc R) 0 0), S1) ∧ Ev S S1 ∧ stl S1 R G ∧ tbL S1 R G 0 := by
  have lc : lvc R ≤ 8 := cnt_le (lvp R) 8
  have p8 := p2_8 lc
  have p1 : 0 < 2 ^ lvc R := Nat.pow_pos (by omega)
  unfold f_X4_leastMoved f_X4_leastMoved_e
  rw [hS.1, shl_M _ (by omega), show nI (2 ^ lvc R) - 1 = nI (2 ^ lvc R - 1) from qsub (b := 1) (by omega)]
  unfold lp_X4_leastMoved_11
  refine jloop_i (fun i a => ∃ S', a = (nI (2 ^ lvc R - 1), nI (2 ^ lvc R - 1 - i), S') ∧ Ev S S' ∧ stl S' R G ∧ tbL S' R G (2 ^ lvc R - 1 - i)) (fun r => ∃ S1, r = some (eI (tL (lvc R) (adR R) G (lvc R) 0 0), S1) ∧ Ev S S1 ∧ stl S1 R G ∧ tbL S1 R G 0) (2 ^ lvc R - 1) (by omega) ?_ ?_ ⟨S, rfl, Ev.rfl' S, hS, fun s' l h1 h2 => by omega⟩
  · rintro i hi _ ⟨S', rfl, ev, h1, h2⟩
    refine ⟨_, ⟨jsR S' 16 (wr (2 ^ lvc R - 1 - i) (fun l => eI (tL (lvc R) (adR R) G (lvc R - pc (2 ^ lvc R - 1 - i)) (2 ^ lvc R - 1 - i) l)) (lvc R) (S'.1 16)), rfl, ev.tr (Ev.R S' 16 _ rfl (by omega) (by omega) (by omega)), h1, fun s' l g1 g2 g3 g4 => ?_⟩, fun g => ?_⟩
    · rw [jsR_s]
      by_cases e : s' = 2 ^ lvc R - 1 - i
      · rw [e] at g4 ⊢
        exact wr_i _ _ _ g4 _ g3
      · rw [wr_o _ _ _ (by omega) _ lc]
        exact h2 s' l (by omega) g2 g3 g4
    · dsimp only
      unfold f_X4_leastMoved_11
      rw [itg q0 (by omega) (by omega), if_pos (by omega), X4_leastMoved_17 h1 (by omega) (by omega) h2]
      unfold f_X4_leastMoved_71
      rw [dec_nI (by omega), show 2 ^ lvc R - 1 - i - 1 = 2 ^ lvc R - 1 - (i + 1) by omega]
  · rintro _ ⟨S', rfl, ev, h1, h2⟩
    rw [show 2 ^ lvc R - 1 - (2 ^ lvc R - 1) = 0 by omega] at h2 ⊢
    refine ⟨_, ⟨S', rfl, ev, h1, h2⟩, fun g => ?_⟩
    dsimp only
    unfold f_X4_leastMoved_11 f_X4_leastMoved_77 f_X4_leastMoved_96
    rw [if_neg (by decide), itv q0 (by omega) (by omega)]
    by_cases c : 2 ^ lvc R - 1 = 0
    · have m0 : lvc R = 0 := by
        rcases Nat.eq_zero_or_pos (lvc R) with q | q
        · exact q
        · have : 2 ^ 1 ≤ 2 ^ lvc R := Nat.pow_le_pow_right (by omega) q
          omega
      rw [if_pos c, m0]
      rfl
    · have m0 : 0 < lvc R := by
        rcases Nat.eq_zero_or_pos (lvc R) with q | q
        · rw [q] at c
          exact absurd rfl c
        · exact q
      rw [if_neg c, show f_X4_comers 0 0 S' = _ from X4_comers (s := 0) (l := 0) h1 p1 (fun q => absurd q (by decide)), jcl_s, show f_X4_leastOver 0 _ S' = _ from X4_leastOver_tb (s := 0) (l := 0) h1 p1 m0 h2, jcl_s]
      rfl
