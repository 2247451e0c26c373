/-! ===== a loop whose states are known only in part ===== -/
theorem jloop_i {α β : Type} {B : (α → Option β) → α → Option β} (I : Nat → α → Prop) (Q : Option β → Prop) (n : Nat) (hn : n < 1000000000) (h : ∀ i, i < n → ∀ a, I i a → ∃ a', I (i + 1) a' ∧ ∀ g : α → Option β, B g a = g a') (he : ∀ a, I n a → ∃ r, Q r ∧ ∀ g : α → Option β, B g a = r) {a : α} (h0 : I 0 a) : Q (jloop B jN a) := by
  have key : ∀ (f i : Nat) (a : α), i ≤ n → n < i + f → I i a → Q (jloop B f a) := by
    intro f
    induction f with
    | zero => intro i a h1 h2; omega
    | succ f ih =>
      intro i a h1 h2 hI
      show Q (B (jloop B f) a)
      rcases Nat.lt_or_ge i n with hl | hl
      · obtain ⟨a', hI', e⟩ := h i hl a hI
        rw [e]
        exact ih (i + 1) a' (by omega) (by omega) hI'
      · have e : i = n := by omega
        subst e
        obtain ⟨r, hr, e⟩ := he a hI
        rw [e]
        exact hr
  exact key jN 0 a (Nat.zero_le _) (by have := jN_big hn; omega) h0
/-! ===== quarrels ===== -/
/-- the two beside each other at h quarrel -/
def qr (k n : Nat) (R : Nat → Nat) (h : Nat) : Bool := !mayE k n (R h) (R (h + 1))
/-- the numbers of a row -/
def rw8 (R : Nat → Nat) : Prop := ∀ j, j < 8 → R j ≤ 300
section qrl
variable {S : jS} {R : Nat → Nat} {k n : Nat}
theorem X2_q22 (hT : tabs S) (hk : k < 6) (hn : n < 10) (hR : rw8 R) (hc : ∀ j, j < 8 → S.1 22 j = nI (R j)) : f_X2_quarrelling_r22 (nI (10 * k + n)) S = some (nI (msk (qr k n R) 7), S) := by
  unfold f_X2_quarrelling_r22 f_X2_quarrelling_r22_e lp_X2_quarrelling_r22_5
  refine jloop_u (fun i => (nI (10 * k + n), nI (msk (qr k n R) i), nI i, S)) 7 rfl (by omega) (fun i hi g => ?_) (fun g => ?_)
  · dsimp only
    unfold f_X2_quarrelling_r22_5 f_X2_quarrelling_r22_39
    rw [q1, qadd, itl q8 (by omega) (by omega), if_pos (by omega), jld_nI (by omega) (by omega), jld_nI (by omega) (by omega), hc i (by omega), hc (i + 1) (by omega), X2_allows hT hk hn (hR i (by omega)) (hR (i + 1) (by omega)), jcl_s, ite_b, show nI 1 <<< (nI i &&& 31) = nI (2 ^ i) from shl_1 i (by omega), or_nI]
    dsimp only
    show _ = g (nI (10 * k + n), nI (msk (qr k n R) i ||| (if qr k n R i = true then 2 ^ i else 0)), nI (i + 1), S)
    unfold qr
    cases mayE k n (R i) (R (i + 1))
    · rfl
    · show _ = g (_, nI (_ ||| 0), _, _)
      rw [Nat.or_zero]
      rfl
  · dsimp only
    unfold f_X2_quarrelling_r22_5 f_X2_quarrelling_r22_45
    rw [if_neg (by decide)]
theorem X2_q38 (hT : tabs S) (hk : k < 6) (hn : n < 10) (hR : rw8 R) (hc : ∀ j, j < 8 → S.1 38 j = nI (R j)) : f_X2_quarrelling_r38 (nI (10 * k + n)) S = some (nI (msk (qr k n R) 7), S) := by
  unfold f_X2_quarrelling_r38 f_X2_quarrelling_r38_e lp_X2_quarrelling_r38_5
  refine jloop_u (fun i => (nI (10 * k + n), nI (msk (qr k n R) i), nI i, S)) 7 rfl (by omega) (fun i hi g => ?_) (fun g => ?_)
  · dsimp only
    unfold f_X2_quarrelling_r38_5 f_X2_quarrelling_r38_39
    rw [q1, qadd, itl q8 (by omega) (by omega), if_pos (by omega), jld_nI (by omega) (by omega), jld_nI (by omega) (by omega), hc i (by omega), hc (i + 1) (by omega), X2_allows hT hk hn (hR i (by omega)) (hR (i + 1) (by omega)), jcl_s, ite_b, show nI 1 <<< (nI i &&& 31) = nI (2 ^ i) from shl_1 i (by omega), or_nI]
    dsimp only
    show _ = g (nI (10 * k + n), nI (msk (qr k n R) i ||| (if qr k n R i = true then 2 ^ i else 0)), nI (i + 1), S)
    unfold qr
    cases mayE k n (R i) (R (i + 1))
    · rfl
    · show _ = g (_, nI (_ ||| 0), _, _)
      rw [Nat.or_zero]
      rfl
  · dsimp only
    unfold f_X2_quarrelling_r38_5 f_X2_quarrelling_r38_45
    rw [if_neg (by decide)]
theorem X12_isPair (hR : rw8 R) (hc : ∀ j, j < 8 → S.1 47 j = nI (R j)) {h : Nat} (hh : h ≤ 7) : f_X12_isPair (nI h) S = some (bI (decide (h < 7) && (decide (0 < R h) && decide (0 < R (h + 1)))), S) := by
  unfold f_X12_isPair f_X12_isPair_e f_X12_isPair_34 f_X12_isPair_35
  rw [if_neg (nI_pos (by omega)), itl q7 (by omega) (by omega)]
  by_cases h7 : h < 7
  · have r1 := hR h (by omega)
    have r2 := hR (h + 1) (by omega)
    rw [if_pos h7, q1, qadd, jld_nI (by omega) (by omega), jld_nI (by omega) (by omega), hc h (by omega), hc (h + 1) (by omega), itg q0 (by omega) (by omega), itg q0 (by omega) (by omega), decide_eq_true h7]
    by_cases g1 : 0 < R h
    · rw [if_pos g1, decide_eq_true g1]
      by_cases g2 : 0 < R (h + 1)
      · rw [if_pos g2, decide_eq_true g2]; rfl
      · rw [if_neg g2, decide_eq_false g2]; rfl
    · rw [if_neg g1, decide_eq_false g1]; rfl
  · rw [if_neg h7, decide_eq_false h7]; rfl
theorem X12_mayNow' {B : Nat → Nat} (hT : tabs S) (hv : vB B) (hm : mB (S.1 42) B) {a b : Nat} (ha0 : 0 < a) (ha : a ≤ 300) (hb0 : 0 < b) (hb : b ≤ 300) : f_X12_mayNow (nI a) (nI b) S = some (bI (may (B 8) (B 9) a b), S) := by
  unfold f_X12_mayNow f_X12_mayNow_e
  rw [q8, q9, jld_nI (by omega) (by omega), jld_nI (by omega) (by omega), hm 8 (by omega), hm 9 (by omega), X12_mayBy hT hv.2.1 hv.2.2.1 ha0 ha hb0 hb, jcl_s, jzr_b]
theorem X12_isQuarrel {B : Nat → Nat} (hT : tabs S) (hv : vB B) (hm : mB (S.1 42) B) (hR : rw8 R) (hc : ∀ j, j < 8 → S.1 47 j = nI (R j)) {h : Nat} (hh : h ≤ 7) : f_X12_isQuarrel (nI h) S = some (bI (decide (h < 7) && qr (B 8) (B 9) R h), S) := by
  unfold f_X12_isQuarrel f_X12_isQuarrel_e f_X12_isQuarrel_33 f_X12_isQuarrel_34
  rw [X12_isPair hR hc hh, jcl_s, ite_b]
  unfold qr mayE
  by_cases h7 : h < 7
  · have r1 := hR h (by omega)
    have r2 := hR (h + 1) (by omega)
    rw [decide_eq_true h7]
    by_cases g1 : 0 < R h
    · rw [decide_eq_true g1, decide_eq_false (show ¬ R h = 0 by omega)]
      by_cases g2 : 0 < R (h + 1)
      · rw [decide_eq_true g2, decide_eq_false (show ¬ R (h + 1) = 0 by omega), if_pos (by decide), q1, qadd, jld_nI (by omega) (by omega), jld_nI (by omega) (by omega), hc h (by omega), hc (h + 1) (by omega), X12_mayNow' hT hv hm g1 r1 g2 r2, jcl_s, ite_b]
        cases may (B 8) (B 9) (R h) (R (h + 1)) <;> rfl
      · rw [decide_eq_false g2, decide_eq_true (show R (h + 1) = 0 by omega)]; rfl
    · rw [decide_eq_false g1, decide_eq_true (show R h = 0 by omega)]; rfl
  · rw [decide_eq_false h7]; rfl
theorem X12_isQuarrelM : f_X12_isQuarrel (nI 0 - 1) S = some (bI false, S) := rfl
def qin (q : Nat → Bool) (h : Nat) : Bool := (decide (h < 7) && q h) || (decide (0 < h) && q (h - 1))
theorem X12_quarrelsIn {B : Nat → Nat} (hT : tabs S) (hv : vB B) (hm : mB (S.1 42) B) (hR : rw8 R) (hc : ∀ j, j < 8 → S.1 47 j = nI (R j)) {h : Nat} (hh : h ≤ 7) : f_X12_quarrelsIn (nI h) S = some (bI (qin (qr (B 8) (B 9) R) h), S) := by
  unfold f_X12_quarrelsIn f_X12_quarrelsIn_e f_X12_quarrelsIn_18 f_X12_quarrelsIn_23
  rw [X12_isQuarrel hT hv hm hR hc hh, jcl_s, ite_b]
  unfold qin
  cases (decide (h < 7) && qr (B 8) (B 9) R h)
  · rw [if_neg (by decide)]
    by_cases h0 : h = 0
    · subst h0
      rw [X12_isQuarrelM, jcl_s]
      rfl
    · rw [q1, qsub (by omega), X12_isQuarrel hT hv hm hR hc (show h - 1 ≤ 7 by omega), jcl_s, ite_b, decide_eq_true (show h - 1 < 7 by omega), decide_eq_true (show 0 < h by omega)]
      cases qr (B 8) (B 9) R (h - 1) <;> rfl
  · rfl
theorem X12_manyQuarrels {B : Nat → Nat} (hT : tabs S) (hv : vB B) (hm : mB (S.1 42) B) (hR : rw8 R) (hc : ∀ j, j < 8 → S.1 47 j = nI (R j)) : f_X12_manyQuarrels S = some (nI (cnt (qr (B 8) (B 9) R) 7), S) := by
  unfold f_X12_manyQuarrels f_X12_manyQuarrels_e lp_X12_manyQuarrels_4
  refine jloop_u (fun i => (nI (cnt (qr (B 8) (B 9) R) i), nI i, S)) 7 rfl (by omega) (fun i hi g => ?_) (fun g => ?_)
  · dsimp only
    unfold f_X12_manyQuarrels_4 f_X12_manyQuarrels_24
    rw [itl q7 (by omega) (by omega), if_pos hi, X12_isQuarrel hT hv hm hR hc (by omega), jcl_s, ite_b, decide_eq_true hi, q1, qadd, qadd, q0, qadd]
    dsimp only
    show _ = g (nI (cnt (qr (B 8) (B 9) R) i + (if qr (B 8) (B 9) R i = true then 1 else 0)), nI (i + 1), S)
    cases qr (B 8) (B 9) R i <;> rfl
  · dsimp only
    unfold f_X12_manyQuarrels_4 f_X12_manyQuarrels_32
    rw [if_neg (by decide)]
end qrl
theorem X12_layHand (S : jS) : f_X12_layHand S = some (jsR S 47 (fun j => if j < 8 then S.1 42 j else S.1 47 j)) := by
  unfold f_X12_layHand f_X12_layHand_e lp_X12_layHand_2
  have e0 : (fun j => if j < 0 then S.1 42 j else S.1 47 j) = S.1 47 := by
    funext j
    exact if_neg (Nat.not_lt_zero j)
  refine jloop_u (fun i => (nI i, jsR S 47 (fun j => if j < i then S.1 42 j else S.1 47 j))) 8 (by show (0, S) = (nI 0, jsR S 47 (fun j => if j < 0 then S.1 42 j else S.1 47 j)); rw [e0, jsR_self]; rfl) (by omega) (fun i hi g => ?_) (fun g => ?_)
  · dsimp only
    unfold f_X12_layHand_2
    rw [itl q8 (by omega) (by omega), if_pos hi, jld_nI (by omega) (by omega), jst_nI (by omega) (by omega), jsI_R, jsR_n _ _ (by omega), q1, qadd]
    dsimp only
    congr 3
    funext j
    rw [upd_1]
    by_cases h : j = i
    · rw [if_pos h, if_pos (by omega), h]
    · rw [if_neg h]
      by_cases h2 : j < i
      · rw [if_pos h2, if_pos (by omega)]
      · rw [if_neg h2, if_neg (by omega)]
  · dsimp only
    unfold f_X12_layHand_2 f_X12_layHand_26
    rw [if_neg (by decide)]
/-- behind the laying of the hand -/
theorem hand_row {S : jS} {B : Nat → Nat} (hm : mB (S.1 42) B) : ∀ j, j < 8 → (jsR S 47 (fun j => if j < 8 then S.1 42 j else S.1 47 j)).1 47 j = nI (B j) := by
  intro j hj
  rw [jsR_s, if_pos hj]
  exact hm j (by omega)
theorem pc_msk7 (p : Nat → Bool) : pc (msk p 7) = cnt p 7 := by
  have key : ∀ a b c d e f g : Bool, pc ((((((((0 ||| (if a = true then 2 ^ 0 else 0)) ||| (if b = true then 2 ^ 1 else 0)) ||| (if c = true then 2 ^ 2 else 0)) ||| (if d = true then 2 ^ 3 else 0)) ||| (if e = true then 2 ^ 4 else 0)) ||| (if f = true then 2 ^ 5 else 0)) ||| (if g = true then 2 ^ 6 else 0)) : Nat) = (((((((0 + (if a = true then 1 else 0)) + (if b = true then 1 else 0)) + (if c = true then 1 else 0)) + (if d = true then 1 else 0)) + (if e = true then 1 else 0)) + (if f = true then 1 else 0)) + (if g = true then 1 else 0)) := by decide +kernel
  exact key (p 0) (p 1) (p 2) (p 3) (p 4) (p 5) (p 6)
theorem shl_n1 : ∀ a, a < 128 → nI a <<< ((1 : Int32) &&& 31) = nI (2 * a) := by decide +kernel
theorem both_msk (p : Nat → Bool) : msk p 7 ||| (2 * msk p 7) = msk (qin p) 8 := by
  have key : ∀ a b c d e f g : Bool, ((((((((0 ||| (if a = true then 2 ^ 0 else 0)) ||| (if b = true then 2 ^ 1 else 0)) ||| (if c = true then 2 ^ 2 else 0)) ||| (if d = true then 2 ^ 3 else 0)) ||| (if e = true then 2 ^ 4 else 0)) ||| (if f = true then 2 ^ 5 else 0)) ||| (if g = true then 2 ^ 6 else 0)) : Nat) ||| (2 * ((((((((0 ||| (if a = true then 2 ^ 0 else 0)) ||| (if b = true then 2 ^ 1 else 0)) ||| (if c = true then 2 ^ 2 else 0)) ||| (if d = true then 2 ^ 3 else 0)) ||| (if e = true then 2 ^ 4 else 0)) ||| (if f = true then 2 ^ 5 else 0)) ||| (if g = true then 2 ^ 6 else 0)) : Nat)) = ((((((((0 ||| (if ((true && a) || (false && a)) = true then 2 ^ 0 else 0)) ||| (if ((true && b) || (true && a)) = true then 2 ^ 1 else 0)) ||| (if ((true && c) || (true && b)) = true then 2 ^ 2 else 0)) ||| (if ((true && d) || (true && c)) = true then 2 ^ 3 else 0)) ||| (if ((true && e) || (true && d)) = true then 2 ^ 4 else 0)) ||| (if ((true && f) || (true && e)) = true then 2 ^ 5 else 0)) ||| (if ((true && g) || (true && f)) = true then 2 ^ 6 else 0)) ||| (if ((false && g) || (true && g)) = true then 2 ^ 7 else 0)) := by decide +kernel
  have k := key (p 0) (p 1) (p 2) (p 3) (p 4) (p 5) (p 6)
  show _ = ((((((((0 ||| (if ((true && p 0) || (false && p 0)) = true then 2 ^ 0 else 0)) ||| (if ((true && p 1) || (true && p 0)) = true then 2 ^ 1 else 0)) ||| (if ((true && p 2) || (true && p 1)) = true then 2 ^ 2 else 0)) ||| (if ((true && p 3) || (true && p 2)) = true then 2 ^ 3 else 0)) ||| (if ((true && p 4) || (true && p 3)) = true then 2 ^ 4 else 0)) ||| (if ((true && p 5) || (true && p 4)) = true then 2 ^ 5 else 0)) ||| (if ((true && p 6) || (true && p 5)) = true then 2 ^ 6 else 0)) ||| (if ((false && p 7) || (true && p 6)) = true then 2 ^ 7 else 0))
  exact k
theorem X4_bothOf (p : Nat → Bool) (S : jS) : f_X4_bothOf (nI (msk p 7)) S = some (nI (msk (qin p) 8), S) := by
  unfold f_X4_bothOf f_X4_bothOf_e
  rw [shl_n1 _ (msk_lt p 7), or_nI, both_msk]
theorem rw8_B {B : Nat → Nat} (hv : vB B) : rw8 B := hv.1
theorem Ev_47 (S : jS) (f : Nat → Int32) : Ev S (jsR S 47 f) := Ev.R S 47 f rfl (by omega) (by omega) (by omega)
theorem op_quarrels (x : Int32) {S : jS} (h : GG S) : O2 (f_X11_quarrels x S) (f_X12_quarrels x) := by
  obtain ⟨B, T, tl, hR⟩ := id h
  cases hx : okr x 0 1 with
  | false =>
    refine O2_bad h (-2) ?_ ?_
    · unfold f_X11_quarrels f_X11_quarrels_e
      rw [X11_isBit, jcl_s, hx, ite_b, if_neg (by decide), X11_refuseBad, jcl_s]
    · unfold f_X12_quarrels f_X12_quarrels_e
      rw [X12_in01, jcl_s, hx, ite_b, if_neg (by decide), X12_bad, jcl_s]
      rfl
  | true =>
    obtain ⟨a, -, ha, rfl⟩ := okr_of hx (by omega)
    obtain ⟨h1, hv, hm, hc, h5⟩ := id hR
    have h1' := tabs_ev h1 (Ev_47 S (fun j => if j < 8 then S.1 42 j else S.1 47 j))
    have hm' : mB ((jsR S 47 (fun j => if j < 8 then S.1 42 j else S.1 47 j)).1 42) B := hm
    have e12 : f_X12_quarrels (nI a) S = f_X12_quarrels_55 (nI a) (nI (msk (qin (qr (B 8) (B 9) B)) 8)) (jsR S 47 (fun j => if j < 8 then S.1 42 j else S.1 47 j)) := by
      unfold f_X12_quarrels f_X12_quarrels_e
      rw [X12_in01, jcl_s, hx, ite_b, if_pos rfl, X12_layHand, jcv_s]
      unfold lp_X12_quarrels_25
      refine jloop_u (fun i => (nI a, nI (msk (qin (qr (B 8) (B 9) B)) i), nI i, jsR S 47 (fun j => if j < 8 then S.1 42 j else S.1 47 j))) 8 rfl (by omega) (fun i hi g => ?_) (fun g => ?_)
      · dsimp only
        unfold f_X12_quarrels_25 f_X12_quarrels_47
        rw [itl q8 (by omega) (by omega), if_pos hi, X12_quarrelsIn h1' hv hm' hv.1 (hand_row hm) (by omega), jcl_s, ite_b, shl_1 i (by omega), or_nI, q0, or_nI, q1, qadd]
        dsimp only
        show _ = g (nI a, nI (msk (qin (qr (B 8) (B 9) B)) i ||| (if qin (qr (B 8) (B 9) B) i = true then 2 ^ i else 0)), nI (i + 1), _)
        cases qin (qr (B 8) (B 9) B) i <;> rfl
      · dsimp only
        unfold f_X12_quarrels_25
        rw [if_neg (by decide)]
    rcases (show a = 0 ∨ a = 1 by omega) with rfl | rfl
    · refine O2_ev h (nI (msk (qin (qr (B 8) (B 9) B)) 8)) ⟨S, ?_, Ev.rfl' S, _, ?_, Ev_47 S (fun j => if j < 8 then S.1 42 j else S.1 47 j)⟩
      · unfold f_X11_quarrels f_X11_quarrels_e f_X11_quarrels_49
        rw [X11_isBit, jcl_s, hx, ite_b, if_pos rfl, hc.2.1, X2_q22 h1 hv.2.1 hv.2.2.1 hv.1 hc.1, jcl_s, if_pos (by decide), X4_bothOf, jcl_s]
      · rw [e12]
        rfl
    · refine O2_ev h (nI (cnt (qr (B 8) (B 9) B) 7)) ⟨S, ?_, Ev.rfl' S, _, ?_, Ev_47 S (fun j => if j < 8 then S.1 42 j else S.1 47 j)⟩
      · unfold f_X11_quarrels f_X11_quarrels_e f_X11_quarrels_49
        rw [X11_isBit, jcl_s, hx, ite_b, if_pos rfl, hc.2.1, X2_q22 h1 hv.2.1 hv.2.2.1 hv.1 hc.1, jcl_s, if_neg (by decide), J6_bitCount (by have := msk_lt (qr (B 8) (B 9) B) 7; omega), jcl_s, pc_msk7]
      · rw [e12]
        unfold f_X12_quarrels_55 f_X12_quarrels_67
        rw [if_neg (by decide), X12_manyQuarrels h1' hv hm' hv.1 (hand_row hm), jcl_s]
theorem op_of (x y : Int32) {S : jS} (h : GG S) : O2 (f_X11_of x y S) (f_X12_of x y) := by
  obtain ⟨B, T, tl, hR⟩ := id h
  cases hx : okr x 0 7 with
  | false =>
    refine O2_bad h (-2) ?_ ?_
    · unfold f_X11_of f_X11_of_e f_X11_of_16
      rw [X11_isHouse, jcl_s, hx, ite_b, if_neg (by decide), X11_refuseBad, jcl_s]
    · unfold f_X12_of f_X12_of_e f_X12_of_19
      rw [X12_isHouse, jcl_s, hx, ite_b, if_neg (by decide), X12_bad, jcl_s]
      rfl
  | true =>
    cases hy : okr y 0 4 with
    | false =>
      refine O2_bad h (-2) ?_ ?_
      · unfold f_X11_of f_X11_of_e f_X11_of_16
        rw [X11_isHouse, jcl_s, hx, ite_b, if_pos rfl, show (4 : Int32) = nI 4 from rfl, rng0 y 4 (by omega), hy, if_neg (by decide), X11_refuseBad, jcl_s]
      · unfold f_X12_of f_X12_of_e f_X12_of_19
        rw [X12_isHouse, jcl_s, hx, ite_b, if_pos rfl, show f_X12_in y.toInt64 0 4 _ = some (bI (okr y 0 4), _) from X12_inN y 0 4 (by omega) (by omega) _, jcl_s, hy, ite_b, if_neg (by decide), X12_bad, jcl_s]
        rfl
    | true =>
      obtain ⟨a, -, ha, rfl⟩ := okr_of hx (by omega)
      obtain ⟨b, -, hb, rfl⟩ := okr_of hy (by omega)
      obtain ⟨h1, hv, hm, hc, h5⟩ := id hR
      have hB : B a ≤ 300 := hv.1 a (by omega)
      have ev := Ev_47 S (fun j => if j < 8 then S.1 42 j else S.1 47 j)
      have h1' := tabs_ev h1 ev
      have hm' : mB ((jsR S 47 (fun j => if j < 8 then S.1 42 j else S.1 47 j)).1 42) B := hm
      have e46 : (jsR S 47 (fun j => if j < 8 then S.1 42 j else S.1 47 j)).1 46 (B a) = nI (pt (B a)) := (h1 (B a) hB).2.2
      by_cases h0 : B a = 0
      · refine O2_ev h 0 ⟨S, ?_, Ev.rfl' S, _, ?_, ev⟩
        · unfold f_X11_of f_X11_of_e
          rw [X11_isHouse, jcl_s, hx, ite_b, if_pos rfl, show (4 : Int32) = nI 4 from rfl, rng0 _ 4 (by omega), hy, if_pos rfl, jld_nI (by omega) (by omega), hc.1 a (by omega), if_pos (by rw [h0]; rfl)]
        · unfold f_X12_of f_X12_of_e
          rw [X12_isHouse, jcl_s, hx, ite_b, if_pos rfl, show f_X12_in (nI b).toInt64 0 4 _ = some (bI (okr (nI b) 0 4), _) from X12_inN (nI b) 0 4 (by omega) (by omega) _, jcl_s, hy, ite_b, if_pos rfl, X12_layHand, jcv_s, jld_nI (by omega) (by omega), hand_row hm a (by omega), if_pos (by rw [h0]; rfl)]
      · have n0 : ¬ nI (B a) = 0 := by rw [q0, qeq (by omega) (by omega)]; exact h0
        have p0 : 0 < B a := by omega
        rcases (show b = 0 ∨ b = 1 ∨ b = 2 ∨ b = 3 ∨ b = 4 by omega) with rfl | rfl | rfl | rfl | rfl
        · refine O2_ev h (nI (B a)) ⟨S, ?_, Ev.rfl' S, _, ?_, ev⟩
          · unfold f_X11_of f_X11_of_e
            rw [X11_isHouse, jcl_s, hx, ite_b, if_pos rfl, show (4 : Int32) = nI 4 from rfl, rng0 _ 4 (by omega), hy, if_pos rfl, jld_nI (by omega) (by omega), hc.1 a (by omega), if_neg n0]
            rfl
          · unfold f_X12_of f_X12_of_e
            rw [X12_isHouse, jcl_s, hx, ite_b, if_pos rfl, show f_X12_in (nI 0).toInt64 0 4 _ = some (bI (okr (nI 0) 0 4), _) from X12_inN (nI 0) 0 4 (by omega) (by omega) _, jcl_s, hy, ite_b, if_pos rfl, X12_layHand, jcv_s, jld_nI (by omega) (by omega), hand_row hm a (by omega), if_neg n0]
            rfl
        · refine O2_ev h (nI (pt (B a))) ⟨S, ?_, Ev.rfl' S, _, ?_, ev⟩
          · unfold f_X11_of f_X11_of_e
            rw [X11_isHouse, jcl_s, hx, ite_b, if_pos rfl, show (4 : Int32) = nI 4 from rfl, rng0 _ 4 (by omega), hy, if_pos rfl, jld_nI (by omega) (by omega), hc.1 a (by omega), if_neg n0, if_neg (by decide), if_pos (by decide), X3_partsOf h1 p0 hB, jcl_s]
          · unfold f_X12_of f_X12_of_e
            rw [X12_isHouse, jcl_s, hx, ite_b, if_pos rfl, show f_X12_in (nI 1).toInt64 0 4 _ = some (bI (okr (nI 1) 0 4), _) from X12_inN (nI 1) 0 4 (by omega) (by omega) _, jcl_s, hy, ite_b, if_pos rfl, X12_layHand, jcv_s, jld_nI (by omega) (by omega), hand_row hm a (by omega), if_neg n0, if_pos (by decide), jld_nI (by omega) (by omega), e46]
        · refine O2_ev h (bI (prm (B a))) ⟨S, ?_, Ev.rfl' S, _, ?_, ev⟩
          · unfold f_X11_of f_X11_of_e
            rw [X11_isHouse, jcl_s, hx, ite_b, if_pos rfl, show (4 : Int32) = nI 4 from rfl, rng0 _ 4 (by omega), hy, if_pos rfl, jld_nI (by omega) (by omega), hc.1 a (by omega), if_neg n0, if_neg (by decide), if_neg (by decide), if_pos (by decide), X3_isPrime h1 p0 hB, jcl_s, X11_bit, jcl_s]
          · unfold f_X12_of f_X12_of_e f_X12_of_96
            rw [X12_isHouse, jcl_s, hx, ite_b, if_pos rfl, show f_X12_in (nI 2).toInt64 0 4 _ = some (bI (okr (nI 2) 0 4), _) from X12_inN (nI 2) 0 4 (by omega) (by omega) _, jcl_s, hy, ite_b, if_pos rfl, X12_layHand, jcv_s, jld_nI (by omega) (by omega), hand_row hm a (by omega), if_neg n0, if_neg (by decide), if_pos (by decide), X12_isPrime h1' hB, jcl_s, ite_b]
            cases prm (B a) <;> rfl
        · refine O2_ev h (bI (sqr (B a))) ⟨S, ?_, Ev.rfl' S, _, ?_, ev⟩
          · unfold f_X11_of f_X11_of_e
            rw [X11_isHouse, jcl_s, hx, ite_b, if_pos rfl, show (4 : Int32) = nI 4 from rfl, rng0 _ 4 (by omega), hy, if_pos rfl, jld_nI (by omega) (by omega), hc.1 a (by omega), if_neg n0, if_neg (by decide), if_neg (by decide), if_neg (by decide), if_pos (by decide), X3_isSquare h1 p0 hB, jcl_s, X11_bit, jcl_s]
          · unfold f_X12_of f_X12_of_e f_X12_of_109
            rw [X12_isHouse, jcl_s, hx, ite_b, if_pos rfl, show f_X12_in (nI 3).toInt64 0 4 _ = some (bI (okr (nI 3) 0 4), _) from X12_inN (nI 3) 0 4 (by omega) (by omega) _, jcl_s, hy, ite_b, if_pos rfl, X12_layHand, jcv_s, jld_nI (by omega) (by omega), hand_row hm a (by omega), if_neg n0, if_neg (by decide), if_neg (by decide), if_pos (by decide), X12_isSquare hB, jcl_s, ite_b]
            cases sqr (B a) <;> rfl
        · refine O2_ev h (bI (qin (qr (B 8) (B 9) B) a)) ⟨S, ?_, Ev.rfl' S, _, ?_, ev⟩
          · unfold f_X11_of f_X11_of_e
            rw [X11_isHouse, jcl_s, hx, ite_b, if_pos rfl, show (4 : Int32) = nI 4 from rfl, rng0 _ 4 (by omega), hy, if_pos rfl, jld_nI (by omega) (by omega), hc.1 a (by omega), if_neg n0, if_neg (by decide), if_neg (by decide), if_neg (by decide), if_neg (by decide), hc.2.1, X2_q22 h1 hv.2.1 hv.2.2.1 hv.1 hc.1, jcl_s, X4_bothOf, jcl_s, bit_nI _ (by have := msk_lt (qin (qr (B 8) (B 9) B)) 8; omega) a (by omega), msk_bit, decide_eq_true (show a < 8 by omega), Bool.true_and]
          · unfold f_X12_of f_X12_of_e f_X12_of_123
            rw [X12_isHouse, jcl_s, hx, ite_b, if_pos rfl, show f_X12_in (nI 4).toInt64 0 4 _ = some (bI (okr (nI 4) 0 4), _) from X12_inN (nI 4) 0 4 (by omega) (by omega) _, jcl_s, hy, ite_b, if_pos rfl, X12_layHand, jcv_s, jld_nI (by omega) (by omega), hand_row hm a (by omega), if_neg n0, if_neg (by decide), if_neg (by decide), if_neg (by decide), if_pos (by decide), X12_quarrelsIn h1' hv hm' hv.1 (hand_row hm) (by omega), jcl_s, ite_b]
            cases qin (qr (B 8) (B 9) B) a <;> rfl
