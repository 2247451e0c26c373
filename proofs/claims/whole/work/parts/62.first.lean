/-! ===== the class's first order ===== -/
theorem jloop_1 {α β : Type} (B : (α → Option β) → α → Option β) (n : Nat) (a : α) : jloop B (n + 1) a = B (jloop B n) a := rfl
theorem sF_z {X : Nat → Nat} : ∀ m j, (∀ i, j ≤ i → i < j + m → X i = 0) → sF X j m = 0
  | 0, j, _ => rfl
  | m + 1, j, h => by
    rw [sF_s, h j (Nat.le_refl j) (by omega), sF_z m (j + 1) (fun i h1 h2 => h i (by omega) (by omega))]
theorem tN_fi {M : Nat} {ad : Nat → Bool} {G : Nat → Nat} {f s l : Nat} (h : 0 < tN M ad G (f + 1) s l) : fi (fq M ad G f s l) 0 M < M := by
  obtain ⟨h1, h2, h3, h4⟩ := fi_spec (fq M ad G f s l) M 0
  rcases Nat.lt_or_ge (fi (fq M ad G f s l) 0 M) M with q | q
  · exact q
  · exfalso
    have : tN M ad G (f + 1) s l = 0 := sF_z M 0 (fun i _ hi => by
      have := h4 i (Nat.zero_le i) (by omega)
      unfold fq at this
      cases hb : bC ad G s l (M - (f + 1)) i with
      | false => rw [if_neg nft]
      | true =>
        rw [hb, Bool.true_and, decide_eq_false_iff_not] at this
        rw [if_pos ptt]
        omega)
    omega
theorem p88 {f : Nat} (h : f ≤ 8) : 8 ^ f ≤ 16777216 := by
  have : 8 ^ f ≤ 8 ^ 8 := Nat.pow_le_pow_right (by omega) h
  exact this
theorem X4_firstComer {S : jS} {R G : Nat → Nat} (hS : stl S R G) (hT : tbN S R G 0) {s l f : Nat} (hs : s < 2 ^ lvc R) (hf : lvc R = pc s + (f + 1)) : f_X4_firstComer (nI s) (nI (msk (bC (adR R) G s l (pc s)) (lvc R))) S = some (nI (if fi (fq (lvc R) (adR R) G f s l) 0 (lvc R) < lvc R then fi (fq (lvc R) (adR R) G f s l) 0 (lvc R) else 0), S) := by
  have lc : lvc R ≤ 8 := cnt_le (lvp R) 8
  have p8 := p2_8 lc
  have hv : msk (bC (adR R) G s l (pc s)) (lvc R) < 256 := Nat.lt_of_lt_of_le (msk_lt _ _) p8
  unfold f_X4_firstComer f_X4_firstComer_e lp_X4_firstComer_2
  refine jloop_wf (fun a => ∃ j, j ≤ lvc R ∧ a = (nI s, nI (msk (bC (adR R) G s l (pc s)) (lvc R)), nI j, S)) (fun a => 8 - a.2.2.1.toNatClampNeg) (fun a => some (nI (if fi (fq (lvc R) (adR R) G f s l) a.2.2.1.toNatClampNeg (lvc R - a.2.2.1.toNatClampNeg) < lvc R then fi (fq (lvc R) (adR R) G f s l) a.2.2.1.toNatClampNeg (lvc R - a.2.2.1.toNatClampNeg) else 0), S)) ?_ jN (nI s, nI (msk (bC (adR R) G s l (pc s)) (lvc R)), 0, S) ⟨0, by omega, rfl⟩ (jN_big (by show 8 - (nI 0).toNatClampNeg < _; omega))
  rintro _ ⟨j, hj, rfl⟩ g hg
  dsimp only
  unfold f_X4_firstComer_2 f_X4_firstComer_39 f_X4_firstComer_37 f_X4_firstComer_45
  rw [qcl (by omega), hS.1, itlt (by omega) (by omega)]
  by_cases c : j < lvc R
  · have st : g (nI s, nI (msk (bC (adR R) G s l (pc s)) (lvc R)), nI (j + 1), S) = some (nI (if fi (fq (lvc R) (adR R) G f s l) (j + 1) (lvc R - (j + 1)) < lvc R then fi (fq (lvc R) (adR R) G f s l) (j + 1) (lvc R - (j + 1)) else 0), S) := by
      rw [hg _ ⟨j + 1, by omega, rfl⟩ (by dsimp only; rw [qcl (by omega), qcl (by omega)]; omega)]
      dsimp only
      rw [qcl (by omega)]
    have o := or_2p hs c
    have eq : fq (lvc R) (adR R) G f s l j = (bC (adR R) G s l (pc s) j && decide (0 < tN (lvc R) (adR R) G f (s ||| 2 ^ j) j)) := by
      unfold fq
      rw [show lvc R - (f + 1) = pc s by omega]
    rw [if_pos c, bit_nI _ (by omega) j (by omega), shl_1 j (by omega), ix_nI, jld_nI (by omega) (by omega), show nI j + 1 = nI (j + 1) from qadd _ 1, show lvc R - j = (lvc R - (j + 1)) + 1 by omega, fi_s]
    dsimp only
    rw [st, msk_bit, decide_eq_true c, Bool.true_and, eq]
    cases cb : bC (adR R) G s l (pc s) j with
    | false => rw [if_neg (show ¬ bI false = 1 by decide), Bool.false_and, if_neg nft]
    | true =>
      have hb := cb
      unfold bC at hb
      rw [Bool.and_eq_true, Bool.not_eq_true'] at hb
      obtain ⟨o1, o2, o3, o4⟩ := pc_or s (by omega) j (by omega) hb.1
      have ht := hT (s ||| 2 ^ j) j (by omega) o c o4
      rw [show lvc R - pc (s ||| 2 ^ j) = f by omega] at ht
      have tb := tN_le lc (adR R) G f (s ||| 2 ^ j) j
      have tb2 := p88 (show f ≤ 8 by omega)
      rw [if_pos (show bI true = 1 from rfl), ht, itg q0 (by omega) (by omega), Bool.true_and]
      by_cases ct : 0 < tN (lvc R) (adR R) G f (s ||| 2 ^ j) j
      · rw [if_pos ct, decide_eq_true ct, if_pos ptt, if_pos c]
      · rw [if_neg ct, decide_eq_false ct, if_neg nft]
  · rw [if_neg c, show lvc R - j = 0 by omega]
    show some ((0 : Int32), S) = some (nI (if j < lvc R then j else 0), S)
    rw [if_neg c]
    rfl
/-- who lives in house h, when F tells who comes to each place -/
def shw (R F : Nat → Nat) (h : Nat) : Nat := if lvp R h = true then R (hH R (F (cnt (lvp R) h))) else 0
theorem X4_inFirst {S : jS} {R G : Nat → Nat} (hS : stl S R G) (hT : tbN S R G 0) {h : Nat} (hh : h < 8) : ∀ f n s l L, f < n → lvc R = pc s + f → s < 2 ^ lvc R → (0 < pc s → l < lvc R) → 0 < tN (lvc R) (adR R) G f s l → (∀ q, q < pc s → hH R q ≠ h) → jloop (α := Int32 × Int32 × Int32 × Int32 × jS) (fun g q => f_X4_inFirstOrder_7 (fun x1 x2 x3 x4 S => g (x1, x2, x3, x4, S)) f_X4_inFirstOrder_45 f_X4_inFirstOrder_58 q.1 q.2.1 q.2.2.1 q.2.2.2.1 q.2.2.2.2) n (nI h, nI s, nI l, nI (pc s), S) = some (nI (shw R (fL (lvc R) (adR R) G f s l L) h), S) := by
  have lc : lvc R ≤ 8 := cnt_le (lvp R) 8
  have p8 := p2_8 lc
  intro f
  induction f with
  | zero =>
    intro n s l L hn hf hs hl ht hq
    cases n with
    | zero => omega
    | succ n =>
      rw [jloop_1]
      dsimp only
      unfold f_X4_inFirstOrder_7 f_X4_inFirstOrder_58
      rw [hS.1, itlt (by omega) (by omega), if_neg (by omega)]
      have e : lvp R h = false := by
        cases c : lvp R h with
        | false => rfl
        | true =>
          have := cnt_lt (lvp R) hh c
          have this : cnt (lvp R) h < lvc R := this
          exact absurd (hH_2 R hh c) (hq _ (by omega))
      unfold shw
      rw [e, if_neg nft]
      rfl
  | succ f ih =>
    intro n s l L hn hf hs hl ht hq
    cases n with
    | zero => omega
    | succ n =>
      have hi := tN_fi ht
      obtain ⟨-, -, f3, -⟩ := fi_spec (fq (lvc R) (adR R) G f s l) (lvc R) 0
      have hqi := f3 (by omega)
      have eL : fL (lvc R) (adR R) G (f + 1) s l L = fL (lvc R) (adR R) G f (s ||| 2 ^ fi (fq (lvc R) (adR R) G f s l) 0 (lvc R)) (fi (fq (lvc R) (adR R) G f s l) 0 (lvc R)) (upB L (lvc R - (f + 1)) (fi (fq (lvc R) (adR R) G f s l) 0 (lvc R))) := rfl
      have hc := X4_firstComer (l := l) hS hT hs hf
      rw [if_pos hi] at hc
      rw [eL]
      generalize fi (fq (lvc R) (adR R) G f s l) 0 (lvc R) = i at hi hqi hc
      unfold fq at hqi
      rw [Bool.and_eq_true, decide_eq_true_eq] at hqi
      have hb := hqi.1
      unfold bC at hb
      rw [Bool.and_eq_true, Bool.not_eq_true'] at hb
      obtain ⟨o1, o2, o3, o4⟩ := pc_or s (by omega) i (by omega) hb.1
      have hp := (hH_1 R (show pc s < lvc R by omega))
      rw [jloop_1]
      dsimp only
      unfold f_X4_inFirstOrder_7 f_X4_inFirstOrder_45
      rw [hS.1, itlt (by omega) (by omega), if_pos (by omega), X4_comers hS hs hl, jcl_s, hc, jcl_s, jld_nI (by omega) (by omega), (hS.2 (pc s) (by omega)).1, iteq (by omega) (by omega), jld_nI (by omega) (by omega), (hS.2 i hi).2.1, shl_1 i (by omega), or_nI, show nI (pc s) + 1 = nI (pc s + 1) from qadd _ 1]
      by_cases c : hH R (pc s) = h
      · rw [if_pos c]
        unfold shw
        rw [← c, hp.2.1, if_pos ptt, hp.2.2, fL_low _ _ _ _ _ _ _ _ (by omega) (by omega), show lvc R - (f + 1) = pc s by omega, upB_s]
      · rw [if_neg c, ← o1]
        refine ih n (s ||| 2 ^ i) i _ (by omega) (by omega) (or_2p hs hi) (fun _ => hi) hqi.2 (fun q hq2 => ?_)
        by_cases e : q = pc s
        · rw [e]; exact c
        · exact hq q (by omega)
theorem X4_inFirstOrder {S : jS} {R G : Nat → Nat} (hS : stl S R G) (hT : tbN S R G 0) {h : Nat} (hh : h < 8) (ht : 0 < tN (lvc R) (adR R) G (lvc R) 0 0) (L : Nat → Nat) : f_X4_inFirstOrder (nI h) S = some (nI (shw R (fL (lvc R) (adR R) G (lvc R) 0 0 L) h), S) := by
  have lc : lvc R ≤ 8 := cnt_le (lvp R) 8
  have p1 : 0 < 2 ^ lvc R := Nat.pow_pos (by omega)
  have z : pc 0 = 0 := rfl
  have := X4_inFirst hS hT hh (lvc R) jN 0 0 L (jN_big (by omega)) (by omega) p1 (fun q => absurd q (by decide)) ht (fun q hq => by omega)
  exact this
/-! ===== the model's small loops over the row ===== -/
def hE (R : Nat → Nat) (i : Nat) : Nat := if i < lvc R then hH R i else 8
def hP (R : Nat → Nat) (p : Nat) : Int32 := if p = 0 then -1 else nI (hH R (p - 1))
theorem cnt_1 (p : Nat → Bool) (n : Nat) : cnt p (n + 1) = cnt p n + (if p n = true then 1 else 0) := rfl
theorem hH_inj (R : Nat → Nat) {i j : Nat} (hi : i < lvc R) (hj : j < lvc R) : (hH R i = hH R j) = (i = j) := by
  apply propext
  constructor
  · intro e
    have a := (hH_1 R hi).2.2
    have b := (hH_1 R hj).2.2
    rw [e] at a
    omega
  · intro e
    rw [e]
theorem lvp_f {R : Nat → Nat} {h : Nat} (e : R h = 0) : lvp R h = false := by unfold lvp; rw [e]; rfl
theorem lvp_t {R : Nat → Nat} {h : Nat} (e : ¬ R h = 0) : lvp R h = true := by unfold lvp; exact decide_eq_true (by omega)
theorem X12_nextLived {S : jS} {R : Nat → Nat} (hR : rw8 R) (hm : ∀ j, j < 8 → S.1 42 j = nI (R j)) {h : Nat} (hh : h ≤ 8) : f_X12_nextLived (nI h) S = some (nI (hE R (cnt (lvp R) h)), S) := by
  unfold f_X12_nextLived f_X12_nextLived_e lp_X12_nextLived_2
  refine jloop_wf (fun a => ∃ j, j ≤ 8 ∧ a = (nI j, S)) (fun a => 8 - a.1.toNatClampNeg) (fun a => some (nI (hE R (cnt (lvp R) a.1.toNatClampNeg)), S)) ?_ jN (nI h, S) ⟨h, hh, rfl⟩ (jN_big (by show 8 - (nI h).toNatClampNeg < _; omega)) |>.trans ?_
  · rintro _ ⟨j, hj, rfl⟩ g hg
    dsimp only
    unfold f_X12_nextLived_2 f_X12_nextLived_23
    rw [qcl (by omega), itl q8 (by omega) (by omega)]
    by_cases c : j < 8
    · have hj3 := hR j c
      rw [if_pos c, jld_nI (by omega) (by omega), hm j c, itv q0 (by omega) (by omega)]
      by_cases c2 : R j = 0
      · rw [if_pos c2, show nI j + 1 = nI (j + 1) from qadd _ 1]
        dsimp only
        rw [hg _ ⟨j + 1, by omega, rfl⟩ (by dsimp only; rw [qcl (by omega), qcl (by omega)]; omega)]
        dsimp only
        rw [qcl (by omega), cnt_1, lvp_f c2, if_neg nft]
        rfl
      · have hp := lvp_t c2
        have hl := cnt_lt (lvp R) c hp
        have hl : cnt (lvp R) j < lvc R := hl
        unfold hE
        rw [if_neg c2, if_pos hl, hH_2 R c hp]
    · have : j = 8 := by omega
      subst this
      rw [if_neg c]
      unfold hE
      rw [if_neg (show ¬ cnt (lvp R) 8 < lvc R from Nat.lt_irrefl _)]
  · dsimp only
    rw [qcl (by omega)]
theorem m1_nI : ∀ h, h < 9 → nI h + (-1) = nI h - 1 := by decide
theorem X12_lastLived {S : jS} {R : Nat → Nat} (hR : rw8 R) (hm : ∀ j, j < 8 → S.1 42 j = nI (R j)) {h : Nat} (hh : h ≤ 8) : f_X12_lastLived (nI h - 1) S = some (hP R (cnt (lvp R) h), S) := by
  unfold f_X12_lastLived f_X12_lastLived_e lp_X12_lastLived_2
  have key : ∀ h n, h ≤ 8 → h < n → jloop (α := Int32 × jS) (fun g q => f_X12_lastLived_2 (fun x2 S => g (x2, S)) f_X12_lastLived_21 q.1 q.2) n (nI h - 1, S) = some (hP R (cnt (lvp R) h), S) := by
    intro h
    induction h with
    | zero =>
      intro n _ hn
      cases n with
      | zero => omega
      | succ n =>
        rw [jloop_1]
        dsimp only
        unfold f_X12_lastLived_2 f_X12_lastLived_21
        rw [if_pos (by decide)]
        rfl
    | succ h ih =>
      intro n hh hn
      cases n with
      | zero => omega
      | succ n =>
        have h3 := hR h (by omega)
        rw [jloop_1]
        dsimp only
        unfold f_X12_lastLived_2 f_X12_lastLived_21
        rw [show nI (h + 1) - 1 = nI h from qsub (a := h + 1) (b := 1) (by omega), if_neg (nI_pos (by omega)), jld_nI (by omega) (by omega), hm h (by omega), itv q0 (by omega) (by omega), m1_nI h (by omega), cnt_1]
        by_cases c : R h = 0
        · rw [if_pos c, lvp_f c, if_neg nft]
          exact ih n (by omega) (by omega)
        · rw [if_neg c, lvp_t c, if_pos ptt]
          unfold hP
          rw [if_neg (by omega), show cnt (lvp R) h + 1 - 1 = cnt (lvp R) h by omega, hH_2 R (by omega) (lvp_t c)]
  exact key h jN hh (jN_big (by omega))
/-- i comes to one of the first p places -/
def exq (L : Nat → Nat) (i : Nat) : Nat → Bool
  | 0 => false
  | q + 1 => exq L i q || decide (L q = i)
theorem exq_1 (L : Nat → Nat) (i q : Nat) : exq L i (q + 1) = (exq L i q || decide (L q = i)) := rfl
theorem exq_c {L L' : Nat → Nat} (i : Nat) : ∀ p, (∀ q, q < p → L q = L' q) → exq L i p = exq L' i p
  | 0, _ => rfl
  | p + 1, h => by rw [exq_1, exq_1, h p (by omega), exq_c i p (fun q hq => h q (by omega))]
theorem X12_isTaken {S : jS} {R : Nat → Nat} (hR : rw8 R) (hm : ∀ j, j < 8 → S.1 42 j = nI (R j)) {L : Nat → Nat} {p i : Nat} (hi : i < lvc R) (hp : p < lvc R) (hL : ∀ q, q < p → L q < lvc R ∧ S.1 48 (hH R q) = nI (hH R (L q))) : f_X12_isTaken (nI (hH R i)) (nI (hH R p)) S = some (bI (exq L i p), S) := by
  have i8 := (hH_1 R hi).1
  obtain ⟨p8, -, pc0⟩ := hH_1 R hp
  unfold f_X12_isTaken f_X12_isTaken_e lp_X12_isTaken_5
  refine jloop_u (fun h => (nI (hH R i), nI (hH R p), bI (exq L i (cnt (lvp R) h)), nI h, S)) (hH R p) rfl (by omega) (fun h hh g => ?_) (fun g => ?_)
  · have h3 := hR h (by omega)
    dsimp only
    unfold f_X12_isTaken_5 f_X12_isTaken_36 f_X12_isTaken_40 f_X12_isTaken_41
    rw [itlt (by omega) (by omega), if_pos hh, jld_nI (by omega) (by omega), hm h (by omega), itg q0 (by omega) (by omega), jld_nI (by omega) (by omega), cnt_1, show nI h + 1 = nI (h + 1) from qadd _ 1]
    by_cases c : R h = 0
    · rw [if_neg (show ¬ 0 < R h by omega), lvp_f c, if_neg nft]
      cases exq L i (cnt (lvp R) h) <;> rfl
    · have hp2 := lvp_t c
      have cl : cnt (lvp R) h < p := by
        have := cnt_lt (lvp R) hh hp2
        omega
      obtain ⟨l1, l2⟩ := hL _ cl
      rw [hH_2 R (by omega) hp2] at l2
      have l8 := (hH_1 R l1).1
      rw [if_pos (show 0 < R h by omega), hp2, if_pos ptt, l2, iteq (by omega) (by omega), exq_1]
      simp only [hH_inj R l1 hi]
      by_cases c2 : L (cnt (lvp R) h) = i
      · rw [if_pos c2, decide_eq_true c2]
        cases exq L i (cnt (lvp R) h) <;> rfl
      · rw [if_neg c2, decide_eq_false c2]
        cases exq L i (cnt (lvp R) h) <;> rfl
  · dsimp only
    unfold f_X12_isTaken_5 f_X12_isTaken_48
    rw [itlt (by omega) (by omega), if_neg (by omega), pc0, jzr_b]
