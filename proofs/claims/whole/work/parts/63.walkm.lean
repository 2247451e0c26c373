/-! ===== the model's walk through the orders ===== -/
/-- whom each one bears beside him -/
def gdM (B : Nat → Nat) (i : Nat) : Nat := msk (fun j => mayE (B 8) (B 9) (B (hH B i)) (B (hH B j))) (lvc B)
theorem gdM_bit (B : Nat → Nat) {i j : Nat} (hi : i < lvc B) (hj : j < lvc B) : (gdM B i).testBit j = may (B 8) (B 9) (B (hH B i)) (B (hH B j)) := by
  have h1 := hH_p B hi
  have h2 := hH_p B hj
  unfold gdM
  rw [msk_bit, decide_eq_true hj, Bool.true_and]
  unfold mayE
  rw [decide_eq_false (by omega), decide_eq_false (by omega), Bool.false_or, Bool.false_or]
/-- how far the walk is: the first p places are laid by L -/
def laid (S : jS) (R : Nat → Nat) (s p : Nat) (L : Nat → Nat) : Prop :=
  (∀ q, q < p → L q < lvc R ∧ S.1 48 (hH R q) = nI (hH R (L q))) ∧ (∀ q, q < p → S.1 47 (hH R q) = nI (R (hH R (L q)))) ∧ (∀ i, i < lvc R → s.testBit i = exq L i p) ∧ (∀ h, h < 8 → lvp R h = false → S.1 47 h = 0)
theorem hE_s {R : Nat → Nat} {j : Nat} (hj : j < lvc R) : hE R (cnt (lvp R) (hH R j + 1)) = hE R (j + 1) := by
  obtain ⟨a, b, c⟩ := hH_1 R hj
  rw [cnt_1, b, if_pos ptt, c]
theorem X12_nextComer {S : jS} {B T : Nat → Nat} {tl : Nat} (hR : RR S B T tl) {p s l : Nat} {L : Nat → Nat} (hp : p < lvc B) (hL : laid S B s p L) (hl : 0 < p → l = L (p - 1)) {x2 : Int32} {b j : Nat} (hx : x2 + 1 = nI b) (hb : b ≤ 8) (hj : cnt (lvp B) b = j) : f_X12_nextComer (nI (hH B p)) x2 S = some (nI (hE B (fi (bC (adR B) (gdM B) s l p) j (lvc B - j))), S) := by
  obtain ⟨h1, hv, hm, h5⟩ := id hR
  have hm8 : ∀ j, j < 8 → S.1 42 j = nI (B j) := fun j hj => hm j (by omega)
  have lc : lvc B ≤ 8 := cnt_le (lvp B) 8
  have jl : j ≤ lvc B := by
    rw [← hj]
    rcases Nat.lt_or_ge b 8 with q | q
    · exact cnt_mono (lvp B) (by omega)
    · have : b = 8 := by omega
      rw [this]
      exact Nat.le_refl _
  obtain ⟨l1, l2, l3, l4⟩ := hL
  obtain ⟨p8, pl, pcn⟩ := hH_1 B hp
  unfold f_X12_nextComer f_X12_nextComer_e
  rw [hx, X12_nextLived hv.1 hm8 hb, jcl_s, hj]
  unfold lp_X12_nextComer_8
  have key : ∀ m j n, j + m = lvc B → m < n → jloop (α := Int32 × Int32 × jS) (fun g q => f_X12_nextComer_8 (fun x1 x3 S => g (x1, x3, S)) f_X12_nextComer_70 q.1 q.2.1 q.2.2) n (nI (hH B p), nI (hE B j), S) = some (nI (hE B (fi (bC (adR B) (gdM B) s l p) j m)), S) := by
    intro m
    induction m with
    | zero =>
      intro j n hjm hn
      cases n with
      | zero => omega
      | succ n =>
        have e : hE B j = 8 := if_neg (by omega)
        rw [jloop_1]
        dsimp only
        unfold f_X12_nextComer_8 f_X12_nextComer_70
        rw [e, if_neg (by decide)]
        show some (nI 8, S) = some (nI (hE B j), S)
        rw [e]
    | succ m ih =>
      intro j n hjm hn
      cases n with
      | zero => omega
      | succ n =>
        have hj2 : j < lvc B := by omega
        obtain ⟨j8, jp, jcn⟩ := hH_1 B hj2
        have e : hE B j = hH B j := if_pos hj2
        have ih2 := ih (j + 1) n (by omega) (by omega)
        rw [jloop_1]
        generalize jloop (α := Int32 × Int32 × jS) (fun g q => f_X12_nextComer_8 (fun x1 x3 S => g (x1, x3, S)) f_X12_nextComer_70 q.1 q.2.1 q.2.2) n = gg at ih2 ⊢
        have st : ∀ k70, f_X12_nextComer_59 (fun x1 x3 S => gg (x1, x3, S)) k70 (nI (hH B p)) (nI (hH B j)) S = some (nI (hE B (fi (bC (adR B) (gdM B) s l p) (j + 1) m)), S) := by
          intro k70
          unfold f_X12_nextComer_59
          rw [show nI (hH B j) + 1 = nI (hH B j + 1) from qadd _ 1, X12_nextLived hv.1 hm8 (by omega), jcl_s, hE_s hj2]
          exact ih2
        dsimp only
        unfold f_X12_nextComer_8
        rw [e, itl q8 (by omega) (by omega), if_pos j8, X12_isTaken hv.1 hm8 hj2 hp l1, jcl_s, ite_b, st, ← l3 j hj2, fi_s]
        unfold f_X12_nextComer_70
        cases cs : s.testBit j with
        | true =>
          have eb : bC (adR B) (gdM B) s l p j = false := by unfold bC; rw [cs]; rfl
          rw [if_pos ptt, eb, if_neg nft]
        | false =>
          rw [if_neg nft, itg q0 (by omega) (by omega)]
          have fin : ∀ x : Nat, bC (adR B) (gdM B) s l p j = true → some (nI (hH B j), S) = some (nI (hE B (if bC (adR B) (gdM B) s l p j = true then j else x)), S) := fun x q => by
            rw [q, if_pos ptt, e]
          have na : adR B p = false → bC (adR B) (gdM B) s l p j = true := fun q => by
            unfold bC
            rw [cs, q]
            rfl
          by_cases c1 : 0 < hH B p
          · rw [if_pos c1, show nI (hH B p) - 1 = nI (hH B p - 1) from qsub (b := 1) (by omega), jld_nI (by omega) (by omega)]
            cases cl : lvp B (hH B p - 1) with
            | false =>
              rw [l4 _ (by omega) cl, if_neg (by decide)]
              refine fin _ (na ?_)
              unfold adR
              by_cases p0 : 0 < p
              · have hq := hH_1 B (show p - 1 < lvc B by omega)
                rw [decide_eq_false (show ¬ hH B (p - 1) + 1 = hH B p from fun q => by
                  have e2 : hH B p - 1 = hH B (p - 1) := by omega
                  rw [e2, hq.2.1] at cl
                  cases cl), Bool.and_false, Bool.and_false]
              · rw [decide_eq_false p0, Bool.false_and]
            | true =>
              have ec : cnt (lvp B) (hH B p) = cnt (lvp B) (hH B p - 1) + 1 := by
                have := cnt_1 (lvp B) (hH B p - 1)
                rw [cl, if_pos ptt, show hH B p - 1 + 1 = hH B p by omega] at this
                exact this
              have e2 : hH B (p - 1) = hH B p - 1 := by
                have := hH_2 B (show hH B p - 1 < 8 by omega) cl
                rw [show cnt (lvp B) (hH B p - 1) = p - 1 by omega] at this
                exact this
              have p0 : 0 < p := by omega
              have ll := (l1 (p - 1) (by omega)).1
              rw [← hl p0] at ll
              have v47 := l2 (p - 1) (by omega)
              rw [e2, ← hl p0] at v47
              have b1 := hH_p B ll
              have b2 := hH_300 hv.1 ll
              have b3 := hH_p B hj2
              have b4 := hH_300 hv.1 hj2
              have ead : adR B p = true := by
                unfold adR
                rw [decide_eq_true p0, decide_eq_true hp, decide_eq_true (show hH B (p - 1) + 1 = hH B p by omega)]
                rfl
              have eb : bC (adR B) (gdM B) s l p j = may (B 8) (B 9) (B (hH B l)) (B (hH B j)) := by
                unfold bC
                rw [cs, ead, gdM_bit B ll hj2]
                rfl
              rw [v47, itg q0 (by omega) (by omega), if_pos b1, jld_nI (by omega) (by omega), v47, jld_nI (by omega) (by omega), hm8 _ j8, X12_mayNow hR b1 b2 b3 b4, jcl_s, ite_b, st, eb]
              cases cm : may (B 8) (B 9) (B (hH B l)) (B (hH B j)) with
              | false => rw [if_neg nft, if_neg nft]
              | true => rw [if_pos ptt, if_pos ptt, e]
          · rw [if_neg c1]
            refine fin _ (na ?_)
            have p0 : p = 0 := by
              have : hH B p = 0 := by omega
              rw [this] at pcn
              exact pcn.symm
            unfold adR
            rw [p0]
            rfl
  exact key (lvc B - j) j jN (by omega) (jN_big (by omega))
/-! ===== an order is judged ===== -/
theorem X12_judge_35 {g : Int32 → Int32 → jS → Option jS} {k71 : Int32 → jS → Option jS} {S : jS} {c h : Nat} (a0 a1 : Int32) (hc : S.1 41 10 = nI c) (cb : c < 2147483648) (hh : h < 8) : f_X12_judgeOrder_35 g k71 a0 a1 (nI h) S = g (a1 + a0) (nI (h + 1)) (jsI S 49 h (if c = 0 then S.1 47 h else S.1 49 h)) := by
  unfold f_X12_judgeOrder_35 f_X12_judgeOrder_64
  rw [hc, itv q0 cb (by omega), jld_nI (by omega) (by omega), jld_nI (by omega) (by omega), jst_nI (by omega) (by omega), jst_nI (by omega) (by omega), show nI h + 1 = nI (h + 1) from qadd _ 1]
  by_cases q : c = 0
  · rw [if_pos q, if_pos q]
  · rw [if_neg q, if_neg q]
theorem X12_judge {S : jS} {R : Nat → Nat} (hR : rw8 R) (hm : ∀ j, j < 8 → S.1 42 j = nI (R j)) {L : Nat → Nat} {c m : Nat} (hL : ∀ q, q < lvc R → L q < lvc R ∧ S.1 48 (hH R q) = nI (hH R (L q))) (hc : S.1 41 10 = nI c) (cb : c < 2147483647) (hm11 : S.1 41 11 = nI m) (mb : m < 2147483648) : ∃ S1, f_X12_judgeOrder S = some S1 ∧ Ev S S1 ∧ S1.1 47 = S.1 47 ∧ S1.1 48 = S.1 48 ∧ S1.1 41 10 = nI (c + 1) ∧ S1.1 41 11 = nI (mn m (cnt (mvp L) (lvc R))) ∧ ∀ h, h < 8 → S1.1 49 h = if c = 0 then S.1 47 h else S.1 49 h := by
  unfold f_X12_judgeOrder f_X12_judgeOrder_e lp_X12_judgeOrder_4
  refine jloop_i (fun h a => ∃ S', a = (nI (cnt (mvp L) (cnt (lvp R) h)), nI h, S') ∧ Ev S S' ∧ S'.1 47 = S.1 47 ∧ S'.1 48 = S.1 48 ∧ S'.1 41 = S.1 41 ∧ (∀ h', h' < h → S'.1 49 h' = if c = 0 then S.1 47 h' else S.1 49 h') ∧ ∀ h', h ≤ h' → S'.1 49 h' = S.1 49 h') (fun r => ∃ S1, r = some S1 ∧ Ev S S1 ∧ S1.1 47 = S.1 47 ∧ S1.1 48 = S.1 48 ∧ S1.1 41 10 = nI (c + 1) ∧ S1.1 41 11 = nI (mn m (cnt (mvp L) (lvc R))) ∧ ∀ h, h < 8 → S1.1 49 h = if c = 0 then S.1 47 h else S.1 49 h) 8 (by omega) ?_ ?_ ⟨S, rfl, Ev.rfl' S, rfl, rfl, rfl, fun h' hh => absurd hh (Nat.not_lt_zero h'), fun h' _ => rfl⟩
  · rintro h hh _ ⟨S', rfl, ev, e47, e48, e41, g1, g2⟩
    have h3 := hR h hh
    have hc' : S'.1 41 10 = nI c := by rw [e41]; exact hc
    have h42 : S'.1 42 h = nI (R h) := by rw [ev.2.1 42 rfl]; exact hm h hh
    refine ⟨_, ⟨jsI S' 49 h (if c = 0 then S'.1 47 h else S'.1 49 h), rfl, ev.tr (Ev.I S' 49 _ _ rfl (by omega) (by omega) (by omega)), e47, e48, e41, fun h' hh' => ?_, fun h' hh' => ?_⟩, fun g => ?_⟩
    · show upd (S'.1 49) h _ h' = _
      rw [upd_1]
      by_cases e : h' = h
      · rw [if_pos e, e, e47, g2 h (Nat.le_refl h)]
      · rw [if_neg e]
        exact g1 h' (by omega)
    · show upd (S'.1 49) h _ h' = _
      rw [upd_1, if_neg (by omega)]
      exact g2 h' (by omega)
    · dsimp only
      unfold f_X12_judgeOrder_4 f_X12_judgeOrder_34
      rw [itl q8 (by omega) (by omega), if_pos hh, jld_nI (by omega) (by omega), h42, itg q0 (by omega) (by omega), jld_nI (by omega) (by omega), X12_judge_35 _ _ hc' (by omega) hh, X12_judge_35 _ _ hc' (by omega) hh, cnt_1]
      by_cases z : R h = 0
      · rw [if_neg (show ¬ 0 < R h by omega), lvp_f z, if_neg nft, Int32.add_zero]
        rfl
      · have hp := lvp_t z
        have hq : cnt (lvp R) h < lvc R := cnt_lt (lvp R) hh hp
        obtain ⟨a1, a2⟩ := hL _ hq
        rw [hH_2 R hh hp, ← e48] at a2
        have a8 := (hH_1 R a1).1
        rw [if_pos (show 0 < R h by omega), hp, if_pos ptt, cnt_1, a2, iteq (by omega) (by omega)]
        have eh : (hH R (L (cnt (lvp R) h)) = h) = (L (cnt (lvp R) h) = cnt (lvp R) h) := by
          rw [← hH_inj R a1 hq, hH_2 R hh hp]
        simp only [eh]
        unfold mvp
        by_cases w : L (cnt (lvp R) h) = cnt (lvp R) h
        · rw [if_pos w, decide_eq_true w, Bool.not_true, if_neg nft, Int32.add_zero]
          rfl
        · rw [if_neg w, decide_eq_false w, Bool.not_false, if_pos ptt, show nI (cnt (fun q => !decide (L q = q)) (cnt (lvp R) h)) + 1 = nI (cnt (fun q => !decide (L q = q)) (cnt (lvp R) h) + 1) from qadd _ 1]
  · rintro _ ⟨S', rfl, ev, e47, e48, e41, g1, g2⟩
    have mb2 := cnt_le (mvp L) (lvc R)
    have lc : lvc R ≤ 8 := cnt_le (lvp R) 8
    have hc' : S'.1 41 10 = nI c := by rw [e41]; exact hc
    have hm' : S'.1 41 11 = nI m := by rw [e41]; exact hm11
    refine ⟨_, ⟨jsI (jsI S' 41 10 (nI (c + 1))) 41 11 (nI (mn m (cnt (mvp L) (lvc R)))), rfl, ev.tr ((Ev.F S' 41 10 _ (by omega)).tr (Ev.F _ 41 11 _ (by omega))), e47, e48, rfl, rfl, g1⟩, fun g => ?_⟩
    dsimp only
    unfold f_X12_judgeOrder_4 f_X12_judgeOrder_71 f_X12_judgeOrder_98
    rw [if_neg (by decide), hc', show nI c + 1 = nI (c + 1) from qadd _ 1, jpt_s, show (jsI S' 41 10 (nI (c + 1))).1 41 11 = nI m from hm', show cnt (lvp R) 8 = lvc R from rfl, itlt (by omega) (by omega), jpt_s, jpt_s]
    unfold mn
    by_cases q : cnt (mvp L) (lvc R) < m
    · rw [if_pos q, if_pos q]
    · rw [if_neg q, if_neg q]
