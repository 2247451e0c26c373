/-! ===== split ===== -/
def ff (R : Nat → Nat) (h : Nat) : Nat → Nat → Int32
  | 0, _ => -1
  | m + 1, i => if R ((h + i) % 8) = 0 then nI ((h + i) % 8) else ff R h m (i + 1)
theorem ff_s (R : Nat → Nat) (h m i : Nat) : ff R h (m + 1) i = if R ((h + i) % 8) = 0 then nI ((h + i) % 8) else ff R h m (i + 1) := rfl
theorem ff_or (R : Nat → Nat) (h : Nat) : ∀ m i, ff R h m i = -1 ∨ ∃ e, e < 8 ∧ ff R h m i = nI e
  | 0, _ => Or.inl rfl
  | m + 1, i => by
    rw [ff_s]
    split
    · exact Or.inr ⟨(h + i) % 8, Nat.mod_lt _ (by omega), rfl⟩
    · exact ff_or R h m (i + 1)
theorem ff_last (R : Nat → Nat) {h : Nat} (hh : h < 8) (h0 : R h ≠ 0) : ∀ m i, i + m = 8 → ff R h (m + 1) i = ff R h m i
  | 0, i, e => by
    rw [ff_s, show (h + i) % 8 = h by omega, if_neg h0]
    rfl
  | m + 1, i, e => by
    rw [ff_s R h (m + 1) i, ff_s R h m i]
    split
    · rfl
    · exact ff_last R hh h0 m (i + 1) (by omega)
theorem X11_emptyBehind {S : jS} {R : Nat → Nat} (hR : rw8 R) (hc : ∀ j, j < 8 → S.1 22 j = nI (R j)) {h : Nat} (hh : h < 8) : f_X11_emptyBehind (nI h) S = some (ff R h 7 1, S) := by
  unfold f_X11_emptyBehind f_X11_emptyBehind_e lp_X11_emptyBehind_2
  refine jloop_wf (fun a => ∃ i, 1 ≤ i ∧ i ≤ 8 ∧ a = (nI h, nI i, S)) (fun a => 8 - a.2.1.toNatClampNeg) (fun a => some (ff R h (8 - a.2.1.toNatClampNeg) a.2.1.toNatClampNeg, S)) ?_ jN (nI h, 1, S) ⟨1, by omega, by omega, rfl⟩ (jN_big (by show 8 - (nI 1).toNatClampNeg < _; omega))
  rintro _ ⟨i, hi1, hi2, rfl⟩ g hg
  dsimp only
  unfold f_X11_emptyBehind_2 f_X11_emptyBehind_28 f_X11_emptyBehind_48 f_X11_emptyBehind_50 f_X11_emptyBehind_56
  rw [qcl (by omega), itl q8 (by omega) (by omega)]
  by_cases c : i < 8
  · have key : ∀ v, v = (h + i) % 8 → jcl (f_X11_isHouse (nI v) S) (fun v2 S1 => if v2 = 0 then g (nI h, nI i + 1, S1) else jld S1 22 (nI v) 8 (fun v3 => if v3 = 0 then some (nI v, S1) else g (nI h, nI i + 1, S1))) = some (ff R h (8 - i) i, S) := by
      intro v hv
      have hv8 : v < 8 := by omega
      have r := hR v hv8
      rw [X11_isHouse, jcl_s, okr_nI (by omega), ite_b, if_pos (by rw [decide_eq_true_eq]; omega), jld_nI (by omega) (by omega), hc v hv8, itv q0 (by omega) (by omega), show 8 - i = (7 - i) + 1 by omega, ff_s, ← hv, show nI i + 1 = nI (i + 1) from qadd i 1]
      by_cases c3 : R v = 0
      · rw [if_pos c3, if_pos c3]
      · rw [if_neg c3, if_neg c3, hg _ ⟨i + 1, by omega, by omega, rfl⟩ (by dsimp only; rw [qcl (by omega), qcl (by omega)]; omega)]
        dsimp only
        rw [qcl (by omega), show 8 - (i + 1) = 7 - i by omega]
    rw [if_pos c, qadd, itl q8 (by omega) (by omega)]
    by_cases c2 : h + i < 8
    · rw [if_pos c2]
      exact key (h + i) (by omega)
    · rw [if_neg c2, q8, qsub (by omega)]
      exact key (h + i - 8) (by omega)
  · rw [if_neg c, show 8 - i = 0 by omega]
    rfl
theorem X12_split_19 {k54 : Int32 → Int32 → jS → Option (Int32 × jS)} {S : jS} {R : Nat → Nat} (hR : rw8 R) (hc : ∀ j, j < 8 → S.1 42 j = nI (R j)) {h : Nat} (hh : h < 8) : lp_X12_split_19 k54 (nI h) (-1) 8 S = k54 (nI h) (ff R h 8 1) S := by
  unfold lp_X12_split_19
  refine jloop_u (fun t => (nI h, ff R h t (9 - t), nI (8 - t), S)) 8 rfl (by omega) (fun t ht g => ?_) (fun g => ?_)
  · dsimp only
    unfold f_X12_split_19 f_X12_split_47
    have hv8 : (h + (8 - t)) % 8 < 8 := Nat.mod_lt _ (by omega)
    have r := hR _ hv8
    have e1 : nI (8 - t) + (-1) = nI (8 - (t + 1)) := by
      have : nI (8 - t) = nI (8 - (t + 1)) + 1 := by
        rw [q1, qadd]
        congr 1
        omega
      rw [this, Int32.add_assoc]
      show nI (8 - (t + 1)) + 0 = _
      rw [Int32.add_zero]
    rw [itg q0 (by omega) (by omega), if_pos (by omega), qadd, q8, jrm_nI (by omega) (by omega) (by omega), jld_nI (by omega) (by omega), hc _ hv8, itv q0 (by omega) (by omega), e1, show 9 - t = 8 - t + 1 by omega]
    dsimp only
    rw [show 9 - (t + 1) = 8 - t by omega, ff_s]
    by_cases c : R ((h + (8 - t)) % 8) = 0
    · rw [if_pos c, if_pos c]
    · rw [if_neg c, if_neg c]
  · dsimp only
    unfold f_X12_split_19
    rw [if_neg (by decide)]
theorem Ev_38 (S : jS) (f : Nat → Int32) : Ev S (jsR S 38 f) := Ev.R S 38 f rfl (by omega) (by omega) (by omega)
theorem op_split (x : Int32) {S : jS} (h : GG S) : O2 (f_X11_split x S) (f_X12_split x) := by
  obtain ⟨B, T, tl, hR⟩ := id h
  cases hx : okr x 0 7 with
  | false =>
    refine O2_bad h (-2) ?_ ?_
    · unfold f_X11_split f_X11_split_e
      rw [X11_isHouse, jcl_s, hx, ite_b, if_neg (by decide), X11_refuseBad, jcl_s]
    · unfold f_X12_split f_X12_split_e
      rw [X12_isHouse, jcl_s, hx, ite_b, if_neg (by decide), X12_bad, jcl_s]
      rfl
  | true =>
    obtain ⟨a, -, ha, rfl⟩ := okr_of hx (by omega)
    obtain ⟨h1, hv, hm, hc, h5⟩ := id hR
    have hB : B a ≤ 300 := hv.1 a (by omega)
    have e11 : f_X11_split (nI a) S = (if B a < 2 then some (-1, S) else if ff B a 7 1 = -1 then some (-1, S) else jcp S 22 8 0 38 8 0 8 (fun S6 => jdv (nI (B a)) 2 (fun v7 => jst S6 38 (nI a) 8 v7 (fun S8 => jdv (nI (B a)) 2 (fun v9 => jst S8 38 (ff B a 7 1) 8 (nI (B a) - v9) (fun S10 => jcl (f_X2_quarrelling_r38 (S10.1 21 1) S10) (fun v12 S11 => jcl (f_J6_bitCount_0f7a4 v12 S11) (fun v14 S13 => some (v14, S13))))))))) := by
      unfold f_X11_split f_X11_split_e f_X11_split_38
      rw [X11_isHouse, jcl_s, hx, ite_b, if_pos rfl, jld_nI (by omega) (by omega), hc.1 a (by omega), X11_emptyBehind hv.1 hc.1 (by omega), jcl_s, itl q2 (by omega) (by omega)]
    have e12 : ∀ S', S'.1 42 = S.1 42 → f_X12_split (nI a) S' = f_X12_split_54 (nI a) (ff B a 8 1) S' := by
      intro S' e
      unfold f_X12_split f_X12_split_e
      rw [X12_isHouse, jcl_s, hx, ite_b, if_pos rfl, X12_split_19 hv.1 (fun j hj => by rw [e]; exact hm j (by omega)) (by omega)]
    by_cases c : B a < 2
    · refine ⟨-1, S, S, ?_, ?_, h⟩
      · rw [e11, if_pos c]
      · rw [e12 S rfl]
        unfold f_X12_split_54 f_X12_split_69
        rw [jld_nI (by omega) (by omega), hm a (by omega), itl q2 (by omega) (by omega), if_pos c]
        split <;> rfl
    · rw [ff_last B (by omega) (by omega) 7 1 (by omega)] at e12
      rcases ff_or B a 7 1 with e | ⟨f, hf, e⟩
      · refine ⟨-1, S, S, ?_, ?_, h⟩
        · rw [e11, if_neg c, if_pos e]
        · rw [e12 S rfl]
          unfold f_X12_split_54 f_X12_split_69
          rw [if_pos e]
      · have ne : ¬ nI f = -1 := by
          intro q
          have h0 : ¬ nI f < 0 := nI_pos (by omega)
          rw [q] at h0
          exact h0 (by decide)
        have hR' : rw8 (upB (upB B a (B a / 2)) f (B a - B a / 2)) := by
          intro j hj
          unfold upB
          have := hv.1 j hj
          split
          · omega
          · split <;> omega
        have cp : ∀ j, j < 8 → upd (upd (va_cpy (S.1 22) (S.1 38) 0 0 8) a (nI (B a / 2))) f (nI (B a - B a / 2)) j = nI (upB (upB B a (B a / 2)) f (B a - B a / 2) j) := by
          intro j hj
          unfold upB
          rw [upd_1, upd_1, cpy_0 _ _ hj, hc.1 j hj]
          split
          · rfl
          · split <;> rfl
        have ev1 := Ev_38 S (upd (upd (va_cpy (S.1 22) (S.1 38) 0 0 8) a (nI (B a / 2))) f (nI (B a - B a / 2)))
        have hm1 : mB ((jsR S 38 (upd (upd (va_cpy (S.1 22) (S.1 38) 0 0 8) a (nI (B a / 2))) f (nI (B a - B a / 2)))).1 42) B := hm
        refine O2_ev h (nI (cnt (qr (B 8) (B 9) (upB (upB B a (B a / 2)) f (B a - B a / 2))) 7)) ⟨jsR S 38 (upd (upd (va_cpy (S.1 22) (S.1 38) 0 0 8) a (nI (B a / 2))) f (nI (B a - B a / 2))), ?_, ev1, jsR (jsR S 38 (upd (upd (va_cpy (S.1 22) (S.1 38) 0 0 8) a (nI (B a / 2))) f (nI (B a - B a / 2)))) 47 (upd (upd (fun j => if j < 8 then S.1 42 j else S.1 47 j) a (nI (B a / 2))) f (nI (B a - B a / 2))), ?_, Ev_47 _ _⟩
        · rw [e11, if_neg c, e, if_neg ne, q0, show (8 : Int32) = nI 8 from rfl, jcp_nI (by omega) (by omega) (by omega) (by omega), q2, jdv_nI (by omega) (by omega) (by omega), jst_nI (by omega) (by omega), jdv_nI (by omega) (by omega) (by omega), qsub (by omega), jst_nI (by omega) (by omega), jsI_R, jsI_R, show (jsR S 38 (upd (upd (va_cpy (S.1 22) (S.1 38) 0 0 8) a (nI (B a / 2))) f (nI (B a - B a / 2)))).1 21 1 = nI (10 * B 8 + B 9) from hc.2.1, X2_q38 (tabs_ev h1 ev1) hv.2.1 hv.2.2.1 hR' (fun j hj => by rw [jsR_s]; exact cp j hj), jcl_s, J6_bitCount (by have := msk_lt (qr (B 8) (B 9) (upB (upB B a (B a / 2)) f (B a - B a / 2))) 7; omega), jcl_s, pc_msk7]
        · rw [e12 (jsR S 38 (upd (upd (va_cpy (S.1 22) (S.1 38) 0 0 8) a (nI (B a / 2))) f (nI (B a - B a / 2)))) rfl, e]
          unfold f_X12_split_54
          have ev2 := ev1.tr (Ev_47 _ (upd (upd (fun j => if j < 8 then S.1 42 j else S.1 47 j) a (nI (B a / 2))) f (nI (B a - B a / 2))))
          rw [if_neg ne, jld_nI (by omega) (by omega), hm1 a (by omega), itl q2 (by omega) (by omega), if_neg c, X12_layHand, jcv_s, jld_nI (by omega) (by omega), jsR_n _ _ (show 42 ≠ 47 by omega), hm1 a (by omega), q2, jdv_nI (by omega) (by omega) (by omega), jst_nI (by omega) (by omega), jsI_R, jld_nI (by omega) (by omega), jld_nI (by omega) (by omega), jsR_n _ _ (show 42 ≠ 47 by omega), hm1 a (by omega), jdv_nI (by omega) (by omega) (by omega), qsub (by omega), jst_nI (by omega) (by omega), jsI_R]
          show jcl (f_X12_manyQuarrels (jsR (jsR S 38 (upd (upd (va_cpy (S.1 22) (S.1 38) 0 0 8) a (nI (B a / 2))) f (nI (B a - B a / 2)))) 47 (upd (upd (fun j => if j < 8 then S.1 42 j else S.1 47 j) a (nI (B a / 2))) f (nI (B a - B a / 2))))) (fun v11 S10 => some (v11, S10)) = _
          have rowq : ∀ j, j < 8 → (jsR (jsR S 38 (upd (upd (va_cpy (S.1 22) (S.1 38) 0 0 8) a (nI (B a / 2))) f (nI (B a - B a / 2)))) 47 (upd (upd (fun j => if j < 8 then S.1 42 j else S.1 47 j) a (nI (B a / 2))) f (nI (B a - B a / 2)))).1 47 j = nI (upB (upB B a (B a / 2)) f (B a - B a / 2) j) := by
            intro j hj
            rw [jsR_s]
            unfold upB
            rw [upd_1, upd_1, if_pos hj, hm j (by omega)]
            by_cases g1 : j = f
            · rw [if_pos g1, if_pos g1]
            · rw [if_neg g1, if_neg g1]
              by_cases g2 : j = a
              · rw [if_pos g2, if_pos g2]
              · rw [if_neg g2, if_neg g2]
          rw [X12_manyQuarrels (tabs_ev h1 ev2) hv hm hR' rowq, jcl_s]
/-! ===== streets ===== -/
section lg
variable {β : Type}
theorem jrl_N {a b : Nat} {E : Int64 → Option β} (ha : a < 2 ^ 63) (h0 : 0 < b) (hb : b < 2 ^ 63) : jrl (lN a) (lN b) E = E (lN (a % b)) := by
  unfold jrl
  rw [if_neg (by rw [show (0 : Int64) = lN 0 from rfl, pk_lEQ hb (by omega)]; omega), pk_lRem ha h0 hb]
theorem jdl_N {a b : Nat} {E : Int64 → Option β} (ha : a < 2 ^ 63) (h0 : 0 < b) (hb : b < 2 ^ 63) : jdl (lN a) (lN b) E = E (lN (a / b)) := by
  unfold jdl
  rw [if_neg (by rw [show (0 : Int64) = lN 0 from rfl, pk_lEQ hb (by omega)]; omega), pk_lDiv ha h0 hb]
end lg
def lc (s : Nat) : Nat := (s * 1103515245 + 12345) % 2147483648
def lcn : Nat → Nat → Nat
  | 0, s => s
  | n + 1, s => lc (lcn n s)
theorem lcn_lt {s : Nat} (hs : s < 2147483648) : ∀ n, lcn n s < 2147483648
  | 0 => hs
  | n + 1 => Nat.mod_lt _ (by omega)
def rv (s j : Nat) : Nat := lcn (j + 1) s / 65536 % 301
theorem rv8 (s : Nat) : rw8 (rv s) := by
  intro j _
  have := Nat.mod_lt (lcn (j + 1) s / 65536) (show 301 > 0 by omega)
  unfold rv
  omega
theorem lc_step {β : Type} {s : Nat} (hs : s < 2147483648) (E : Int64 → Int64 → Option β) : jrl ((lN s * 1103515245) + 12345) 2147483648 (fun v1 => jdl v1 65536 (fun v2 => jrl v2 301 (fun v3 => E v1 v3))) = E (lN (lc s)) (lN (lc s / 65536 % 301)) := by
  have h1 : lc s < 2147483648 := Nat.mod_lt _ (by omega)
  rw [show (1103515245 : Int64) = lN 1103515245 from rfl, show (12345 : Int64) = lN 12345 from rfl, show (2147483648 : Int64) = lN 2147483648 from rfl, show (65536 : Int64) = lN 65536 from rfl, show (301 : Int64) = lN 301 from rfl, lN_mul, lN_add, jrl_N (by omega) (by omega) (by omega)]
  show jdl (lN (lc s)) _ _ = _
  rw [jdl_N (by omega) (by omega) (by omega), jrl_N (by omega) (by omega) (by omega)]
  rfl
theorem X11_fillTrial {s : Nat} (hs : s < 2147483648) (S : jS) : f_X11_fillTrial (lN s) S = some (lN (lcn 8 s), jsR S 38 (hnd (rv s) (S.1 38) 8)) := by
  unfold f_X11_fillTrial f_X11_fillTrial_e lp_X11_fillTrial_5
  refine jloop_u (fun i => (lN (lcn i s), nI i, jsR S 38 (hnd (rv s) (S.1 38) i))) 8 (by rw [hnd_0, jsR_self]; rfl) (by omega) (fun i hi g => ?_) (fun g => ?_)
  · dsimp only
    unfold f_X11_fillTrial_5
    rw [itl q8 (by omega) (by omega), if_pos hi, lc_step (lcn_lt hs i) (fun v1 v3 => jst _ 38 (nI i) 8 (v3.toInt32) (fun S4 => (fun x3 x5 S => g (x3, x5, S)) v1 (nI i + 1) S4)), jst_nI (by omega) (by omega), lN_i, show nI i + 1 = nI (i + 1) from qadd i 1, jsI_R]
    dsimp only
    rw [← hnd_s]
    rfl
  · dsimp only
    unfold f_X11_fillTrial_5 f_X11_fillTrial_49
    rw [if_neg (by decide)]
theorem X12_streets_49 {k93 : Int32 → Int64 → Int32 → Int32 → jS → Option (Int32 × jS)} (x y z : Int32) {s : Nat} (hs : s < 2147483648) (S : jS) : lp_X12_streets_49 k93 x (lN s) y z 0 S = k93 x (lN (lcn 8 s)) y z (jsR S 47 (hnd (rv s) (S.1 47) 8)) := by
  unfold lp_X12_streets_49
  refine jloop_u (fun i => (x, lN (lcn i s), y, z, nI i, jsR S 47 (hnd (rv s) (S.1 47) i))) 8 (by rw [hnd_0, jsR_self]; rfl) (by omega) (fun i hi g => ?_) (fun g => ?_)
  · dsimp only
    unfold f_X12_streets_49
    rw [itl q8 (by omega) (by omega), if_pos hi, lc_step (lcn_lt hs i) (fun v1 v3 => jst _ 47 (nI i) 8 (v3.toInt32) (fun S4 => (fun x2 x3 x5 x6 x7 S => g (x2, x3, x5, x6, x7, S)) x v1 y z (nI i + 1) S4)), jst_nI (by omega) (by omega), lN_i, show nI i + 1 = nI (i + 1) from qadd i 1, jsI_R]
    dsimp only
    rw [← hnd_s]
    rfl
  · dsimp only
    unfold f_X12_streets_49
    rw [if_neg (by decide)]
theorem msk_0 (p : Nat → Bool) (n : Nat) : msk p n = 0 ↔ cnt p n = 0 := by
  rw [cnt_0]
  constructor
  · intro e h hh
    have b : (msk p n).testBit h = false := by rw [e]; exact Nat.zero_testBit h
    rw [msk_bit, decide_eq_true hh] at b
    exact b
  · intro e
    apply Nat.eq_of_testBit_eq
    intro i
    rw [msk_bit, Nat.zero_testBit]
    by_cases hi : i < n
    · rw [e i hi, Bool.and_false]
    · rw [decide_eq_false hi]; rfl
/-- the seed behind i streets, and how many of them were peaceful -/
def os (s : Nat) : Nat → Nat
  | 0 => s
  | i + 1 => lcn 8 (os s i)
theorem os_lt {s : Nat} (hs : s < 2147483648) : ∀ i, os s i < 2147483648
  | 0 => hs
  | i + 1 => lcn_lt (os_lt hs i) 8
def pcs (k n s : Nat) : Nat → Nat
  | 0 => 0
  | i + 1 => pcs k n s i + (if cnt (qr k n (rv (os s i))) 7 = 0 then 1 else 0)
theorem op_streets (x y : Int32) {S : jS} (h : GG S) : O2 (f_X11_streets x y S) (f_X12_streets x y) := by
  obtain ⟨B, T, tl, hR⟩ := id h
  cases hx : okr x 0 999999 with
  | false =>
    refine O2_bad h (-2) ?_ ?_
    · unfold f_X11_streets f_X11_streets_e f_X11_streets_21
      rw [show (999999 : Int32) = nI 999999 from rfl, rng0 x 999999 (by omega), hx, if_neg (by decide), X11_refuseBad, jcl_s]
    · unfold f_X12_streets f_X12_streets_e f_X12_streets_24
      rw [show f_X12_in x.toInt64 0 999999 _ = some (bI (okr x 0 999999), _) from X12_inN x 0 999999 (by omega) (by omega) _, jcl_s, hx, ite_b, if_neg (by decide), X12_bad, jcl_s]
      rfl
  | true =>
    cases hy : okr y 0 30 with
    | false =>
      refine O2_bad h (-2) ?_ ?_
      · unfold f_X11_streets f_X11_streets_e f_X11_streets_21
        rw [show (999999 : Int32) = nI 999999 from rfl, rng0 x 999999 (by omega), hx, if_pos rfl, show (30 : Int32) = nI 30 from rfl, rng0 y 30 (by omega), hy, if_neg (by decide), X11_refuseBad, jcl_s]
      · unfold f_X12_streets f_X12_streets_e f_X12_streets_24
        rw [show f_X12_in x.toInt64 0 999999 _ = some (bI (okr x 0 999999), _) from X12_inN x 0 999999 (by omega) (by omega) _, jcl_s, hx, ite_b, if_pos rfl, show f_X12_in y.toInt64 0 30 _ = some (bI (okr y 0 30), _) from X12_inN y 0 30 (by omega) (by omega) _, jcl_s, hy, ite_b, if_neg (by decide), X12_bad, jcl_s]
        rfl
    | true =>
      obtain ⟨s, -, hs, rfl⟩ := okr_of hx (by omega)
      obtain ⟨m, -, hm30, rfl⟩ := okr_of hy (by omega)
      obtain ⟨h1, hv, hm, hc, h5⟩ := id hR
      have e11 : ∃ S1, f_X11_streets (nI s) (nI m) S = some (nI (pcs (B 8) (B 9) s m), S1) ∧ Ev S S1 := by
        unfold f_X11_streets f_X11_streets_e
        rw [show (999999 : Int32) = nI 999999 from rfl, rng0 _ 999999 (by omega), hx, if_pos rfl, show (30 : Int32) = nI 30 from rfl, rng0 _ 30 (by omega), hy, if_pos rfl, nI_l (by omega)]
        unfold lp_X11_streets_35
        refine jloop_i (fun i a => ∃ S', a = (nI m, lN (os s i), nI (pcs (B 8) (B 9) s i), nI i, S') ∧ Ev S S') (fun r => ∃ S2, r = some (nI (pcs (B 8) (B 9) s m), S2) ∧ Ev S S2) m (by omega) ?_ ?_ ⟨S, rfl, Ev.rfl' S⟩
        · rintro i hi _ ⟨S', rfl, ev⟩
          have ev2 : Ev S (jsR S' 38 (hnd (rv (os s i)) (S'.1 38) 8)) := ev.tr (Ev_38 S' _)
          have e21 : (jsR S' 38 (hnd (rv (os s i)) (S'.1 38) 8)).1 21 1 = nI (10 * B 8 + B 9) := by
            rw [ev2.2.1 21 rfl]
            exact hc.2.1
          refine ⟨_, ⟨jsR S' 38 (hnd (rv (os s i)) (S'.1 38) 8), rfl, ev2⟩, fun g => ?_⟩
          dsimp only
          unfold f_X11_streets_35 f_X11_streets_71
          have hl := msk_lt (qr (B 8) (B 9) (rv (os s i))) 7
          rw [itlt (by omega) (by omega), if_pos hi, X11_fillTrial (os_lt (by omega) i), jcl_s, e21, X2_q38 (tabs_ev h1 ev2) hv.2.1 hv.2.2.1 (rv8 _) (fun j hj => by rw [jsR_s]; exact hnd_i _ _ hj), jcl_s, itv q0 (by omega) (by omega), show nI i + 1 = nI (i + 1) from qadd i 1, show nI (pcs (B 8) (B 9) s i) + 1 = nI (pcs (B 8) (B 9) s i + 1) from qadd _ 1]
          dsimp only
          show _ = g (nI m, lN (lcn 8 (os s i)), nI (pcs (B 8) (B 9) s i + (if cnt (qr (B 8) (B 9) (rv (os s i))) 7 = 0 then 1 else 0)), nI (i + 1), _)
          by_cases c : cnt (qr (B 8) (B 9) (rv (os s i))) 7 = 0
          · rw [if_pos ((msk_0 _ _).2 c), if_pos c]
          · rw [if_neg (fun q => c ((msk_0 _ _).1 q)), if_neg c]
            rfl
        · rintro _ ⟨S', rfl, ev⟩
          refine ⟨_, ⟨S', rfl, ev⟩, fun g => ?_⟩
          dsimp only
          unfold f_X11_streets_35 f_X11_streets_77
          rw [itlt (by omega) (by omega), if_neg (by omega)]
      obtain ⟨S1, e1, ev1⟩ := e11
      have hR1 := RR_ev hR ev1
      obtain ⟨h1', -, hm', -, -⟩ := hR1
      have e12 : ∃ S2, f_X12_streets (nI s) (nI m) S1 = some (nI (pcs (B 8) (B 9) s m), S2) ∧ Ev S1 S2 := by
        unfold f_X12_streets f_X12_streets_e
        rw [show f_X12_in (nI s).toInt64 0 999999 _ = some (bI (okr (nI s) 0 999999), _) from X12_inN (nI s) 0 999999 (by omega) (by omega) _, jcl_s, hx, ite_b, if_pos rfl, show f_X12_in (nI m).toInt64 0 30 _ = some (bI (okr (nI m) 0 30), _) from X12_inN (nI m) 0 30 (by omega) (by omega) _, jcl_s, hy, ite_b, if_pos rfl, nI_l (by omega)]
        unfold lp_X12_streets_40
        refine jloop_i (fun i a => ∃ S', a = (nI m, lN (os s i), nI (pcs (B 8) (B 9) s i), nI i, S') ∧ Ev S1 S') (fun r => ∃ S2, r = some (nI (pcs (B 8) (B 9) s m), S2) ∧ Ev S1 S2) m (by omega) ?_ ?_ ⟨S1, rfl, Ev.rfl' S1⟩
        · rintro i hi _ ⟨S', rfl, ev⟩
          have ev2 : Ev S1 (jsR S' 47 (hnd (rv (os s i)) (S'.1 47) 8)) := ev.tr (Ev_47 S' _)
          have hm2 : mB ((jsR S' 47 (hnd (rv (os s i)) (S'.1 47) 8)).1 42) B := by
            rw [ev2.2.1 42 rfl]
            exact hm'
          refine ⟨_, ⟨jsR S' 47 (hnd (rv (os s i)) (S'.1 47) 8), rfl, ev2⟩, fun g => ?_⟩
          dsimp only
          unfold f_X12_streets_40
          rw [itlt (by omega) (by omega), if_pos hi, X12_streets_49 _ _ _ (os_lt (by omega) i)]
          unfold f_X12_streets_93 f_X12_streets_107
          have hl := cnt_le (qr (B 8) (B 9) (rv (os s i))) 7
          rw [X12_manyQuarrels (tabs_ev h1' ev2) hv hm2 (rv8 _) (fun j hj => by rw [jsR_s]; exact hnd_i _ _ hj), jcl_s, itv q0 (by omega) (by omega), show nI i + 1 = nI (i + 1) from qadd i 1, show nI (pcs (B 8) (B 9) s i) + 1 = nI (pcs (B 8) (B 9) s i + 1) from qadd _ 1, show nI (pcs (B 8) (B 9) s i) + 0 = nI (pcs (B 8) (B 9) s i + 0) from qadd _ 0]
          dsimp only
          show _ = g (nI m, lN (lcn 8 (os s i)), nI (pcs (B 8) (B 9) s i + (if cnt (qr (B 8) (B 9) (rv (os s i))) 7 = 0 then 1 else 0)), nI (i + 1), _)
          by_cases c : cnt (qr (B 8) (B 9) (rv (os s i))) 7 = 0
          · rw [if_pos c, if_pos c]
          · rw [if_neg c, if_neg c]
        · rintro _ ⟨S', rfl, ev⟩
          refine ⟨_, ⟨S', rfl, ev⟩, fun g => ?_⟩
          dsimp only
          unfold f_X12_streets_40 f_X12_streets_116
          rw [itlt (by omega) (by omega), if_neg (by omega)]
      obtain ⟨S2, e2, ev2⟩ := e12
      exact O2_ev h _ ⟨S1, e1, ev1, S2, e2, ev2⟩
