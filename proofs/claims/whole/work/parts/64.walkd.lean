/-! ===== the walk goes through all orders ===== -/
def bdL (g : Int32 × jS → Option jS) (q : Int32 × jS) : Option jS := f_X12_layOrders_45 (fun x1 S => g (x1, S)) f_X12_layOrders_163 q.1 q.2
def DI (S : jS) (R : Nat → Nat) (s p : Nat) (L : Nat → Nat) (a : oA) : Prop := laid S R s p L ∧ S.1 41 10 = nI a.1 ∧ S.1 41 11 = nI a.2.1 ∧ (0 < a.1 → ∀ h, h < 8 → S.1 49 h = nI (shw R a.2.2 h))
theorem hP_1 (R : Nat → Nat) {j : Nat} (hj : j ≤ lvc R) : ∃ b, hP R j + 1 = nI b ∧ b ≤ 8 ∧ cnt (lvp R) b = j := by
  by_cases c : j = 0
  · subst c
    exact ⟨0, by show (-1 : Int32) + 1 = nI 0; decide, by omega, rfl⟩
  · obtain ⟨a1, a2, a3⟩ := hH_1 R (show j - 1 < lvc R by omega)
    refine ⟨hH R (j - 1) + 1, ?_, by omega, ?_⟩
    · unfold hP
      rw [if_neg c]
      exact qadd _ 1
    · rw [cnt_1, a2, if_pos ptt, a3]
      omega
theorem laid_ch {S S' : jS} {R : Nat → Nat} {s p : Nat} {L : Nat → Nat} (h : laid S R s p L) (hp : p < lvc R) (e : ∀ t, t < 8 → t ≠ hH R p → S'.1 47 t = S.1 47 t ∧ S'.1 48 t = S.1 48 t) : laid S' R s p L := by
  obtain ⟨l1, l2, l3, l4⟩ := h
  have ne : ∀ q, q < p → hH R q < 8 ∧ hH R q ≠ hH R p := fun q hq => ⟨(hH_1 R (by omega)).1, fun w => by
    rw [hH_inj R (by omega) hp] at w
    omega⟩
  refine ⟨fun q hq => ⟨(l1 q hq).1, ?_⟩, fun q hq => ?_, l3, fun t ht hl => ?_⟩
  · rw [(e _ (ne q hq).1 (ne q hq).2).2]
    exact (l1 q hq).2
  · rw [(e _ (ne q hq).1 (ne q hq).2).1]
    exact l2 q hq
  · rw [(e t ht (fun w => by rw [w, (hH_1 R hp).2.1] at hl; cases hl)).1]
    exact l4 t ht hl
theorem laid_up {S S' : jS} {R : Nat → Nat} {s p i : Nat} {L : Nat → Nat} (h : laid S R s p L) (hp : p < lvc R) (hi : i < lvc R) (e1 : S'.1 48 (hH R p) = nI (hH R i)) (e2 : S'.1 47 (hH R p) = nI (R (hH R i))) (e3 : ∀ t, t ≠ hH R p → S'.1 47 t = S.1 47 t) (e4 : ∀ q, q < p → S'.1 48 (hH R q) = S.1 48 (hH R q)) : laid S' R (s ||| 2 ^ i) (p + 1) (upB L p i) := by
  obtain ⟨l1, l2, l3, l4⟩ := h
  have ne : ∀ q, q < p → hH R q ≠ hH R p := fun q hq w => by
    rw [hH_inj R (by omega) hp] at w
    omega
  refine ⟨fun q hq => ?_, fun q hq => ?_, fun t ht => ?_, fun t ht hl => ?_⟩
  · by_cases c : q = p
    · rw [c, upB_s]
      exact ⟨hi, e1⟩
    · rw [upB_n _ c, e4 q (by omega)]
      exact l1 q (by omega)
  · by_cases c : q = p
    · rw [c, upB_s]
      exact e2
    · rw [upB_n _ c, e3 _ (ne q (by omega))]
      exact l2 q (by omega)
  · rw [Nat.testBit_or, Nat.testBit_two_pow, l3 t ht, exq_1, upB_s, exq_c t p (fun q hq => (upB_n L (v := i) (show q ≠ p by omega)).symm)]
  · rw [e3 t (fun w => by rw [w, (hH_1 R hp).2.1] at hl; cases hl)]
    exact l4 t ht hl
theorem laid_dn {S : jS} {R : Nat → Nat} {s p i : Nat} {L : Nat → Nat} (h : laid S R (s ||| 2 ^ i) (p + 1) (upB L p i)) (h3 : ∀ t, t < lvc R → s.testBit t = exq L t p) : laid S R s p L ∧ S.1 48 (hH R p) = nI (hH R i) := by
  obtain ⟨l1, l2, l3, l4⟩ := h
  refine ⟨⟨fun q hq => ?_, fun q hq => ?_, h3, l4⟩, ?_⟩
  · have := l1 q (by omega)
    rw [upB_n _ (by omega)] at this
    exact this
  · have := l2 q (by omega)
    rw [upB_n _ (by omega)] at this
    exact this
  · have := (l1 p (by omega)).2
    rw [upB_s] at this
    exact this
theorem bd_leaf {S : jS} {B T : Nat → Nat} {tl : Nat} (hR : RR S B T tl) {s : Nat} {L : Nat → Nat} {a : oA} (hD : DI S B s (lvc B) L a) (cb : a.1 < 2147483647) (mb : a.2.1 ≤ 1000000) : ∃ S1, Ev S S1 ∧ DI S1 B s (lvc B) L (lf (lvc B) L a) ∧ ∀ g, bdL g (nI 8, S) = g (hP B (lvc B), S1) := by
  obtain ⟨h1, hv, hm, h5⟩ := id hR
  have hm8 : ∀ j, j < 8 → S.1 42 j = nI (B j) := fun j hj => hm j (by omega)
  obtain ⟨hl, d1, d2, d3⟩ := hD
  obtain ⟨l1, l2, l3, l4⟩ := id hl
  obtain ⟨S1, e1, ev, e47, e48, e10, e11, e49⟩ := X12_judge hv.1 hm8 l1 d1 cb d2 (by omega)
  refine ⟨S1, ev, ⟨⟨fun q hq => ?_, fun q hq => ?_, l3, fun t ht hl => ?_⟩, e10, e11, fun _ h hh => ?_⟩, fun g => ?_⟩
  · rw [e48]; exact l1 q hq
  · rw [e47]; exact l2 q hq
  · rw [e47]; exact l4 t ht hl
  · rw [e49 h hh]
    show (if a.1 = 0 then S.1 47 h else S.1 49 h) = nI (shw B (if a.1 = 0 then L else a.2.2) h)
    by_cases c : a.1 = 0
    · rw [if_pos c, if_pos c]
      unfold shw
      cases cl : lvp B h with
      | false => rw [if_neg nft, l4 h hh cl]; rfl
      | true =>
        have hq : cnt (lvp B) h < lvc B := cnt_lt (lvp B) hh cl
        have := l2 _ hq
        rw [hH_2 B hh cl] at this
        rw [if_pos ptt, this]
    · rw [if_neg c, if_neg c]
      exact d3 (by omega) h hh
  · have e7 : f_X12_lastLived 7 S1 = some (hP B (lvc B), S1) := by
      have := X12_lastLived (S := S1) hv.1 (fun j hj => by rw [ev.2.1 42 rfl]; exact hm8 j hj) (Nat.le_refl 8)
      rw [show nI 8 - 1 = 7 from by decide] at this
      exact this
    unfold bdL f_X12_layOrders_45
    dsimp only
    rw [if_neg (by decide), if_pos (by decide), e1, jcv_s, e7, jcl_s]
theorem bd_stop {S : jS} {B T : Nat → Nat} {tl : Nat} (hR : RR S B T tl) {s p l j : Nat} {L : Nat → Nat} {a : oA} (hD : DI S B s p L a) (hp : p < lvc B) (hl : 0 < p → l = L (p - 1)) (hj : j ≤ lvc B) (hc : S.1 48 (hH B p) = hP B j) (hf : fi (bC (adR B) (gdM B) s l p) j (lvc B - j) = lvc B) : ∃ S1, Ev S S1 ∧ DI S1 B s p L a ∧ ∀ g, bdL g (nI (hH B p), S) = g (hP B p, S1) := by
  obtain ⟨h1, hv, hm, h5⟩ := id hR
  obtain ⟨p8, pl, pcn⟩ := hH_1 B hp
  obtain ⟨hL, d1, d2, d3⟩ := hD
  obtain ⟨b, b1, b2, b3⟩ := hP_1 B hj
  have ev1 : Ev S (jsI S 47 (hH B p) 0) := Ev.I S 47 _ _ rfl (by omega) (by omega) (by omega)
  have hL1 : laid (jsI S 47 (hH B p) 0) B s p L := laid_ch hL hp (fun t ht hn => ⟨upd_n _ _ hn, rfl⟩)
  have nc := X12_nextComer (RR_ev hR ev1) hp hL1 hl b1 b2 b3
  rw [hf, show hE B (lvc B) = 8 from if_neg (Nat.lt_irrefl _)] at nc
  have evR : Ev S (jsI (jsI (jsI S 47 (hH B p) 0) 48 (hH B p) (nI 8)) 48 (hH B p) (-1)) := ev1.tr ((Ev.I _ 48 _ _ rfl (by omega) (by omega) (by omega)).tr (Ev.I _ 48 _ _ rfl (by omega) (by omega) (by omega)))
  refine ⟨jsI (jsI (jsI S 47 (hH B p) 0) 48 (hH B p) (nI 8)) 48 (hH B p) (-1), evR, ⟨laid_ch hL hp (fun t ht hn => ⟨upd_n _ _ hn, (upd_n _ _ hn).trans (upd_n _ _ hn)⟩), d1, d2, d3⟩, fun g => ?_⟩
  unfold bdL f_X12_layOrders_45
  dsimp only
  rw [if_neg (nI_pos (by omega)), itv q8 (by omega) (by omega), if_neg (by omega), jst_nI (by omega) (by omega), jld_nI (by omega) (by omega), show (jsI S 47 (hH B p) 0).1 48 (hH B p) = hP B j from hc, nc, jcl_s, jst_nI (by omega) (by omega), jld_nI (by omega) (by omega), show (jsI (jsI S 47 (hH B p) 0) 48 (hH B p) (nI 8)).1 48 (hH B p) = nI 8 from upd_s _ _ _, if_pos (by decide), jst_nI (by omega) (by omega), X12_lastLived (S := jsI (jsI (jsI S 47 (hH B p) 0) 48 (hH B p) (nI 8)) 48 (hH B p) (-1)) hv.1 (fun j hj => by rw [evR.2.1 42 rfl]; exact hm j (by omega)) (by omega), jcl_s, pcn]
theorem bd_go {S : jS} {B T : Nat → Nat} {tl : Nat} (hR : RR S B T tl) {s p l j i : Nat} {L : Nat → Nat} {a : oA} (hD : DI S B s p L a) (hp : p < lvc B) (hl : 0 < p → l = L (p - 1)) (hj : j ≤ lvc B) (hc : S.1 48 (hH B p) = hP B j) (hf : fi (bC (adR B) (gdM B) s l p) j (lvc B - j) = i) (hi : i < lvc B) : ∃ S1, Ev S S1 ∧ DI S1 B (s ||| 2 ^ i) (p + 1) (upB L p i) a ∧ (p + 1 < lvc B → S1.1 48 (hH B (p + 1)) = -1) ∧ ∀ g, bdL g (nI (hH B p), S) = g (nI (hE B (p + 1)), S1) := by
  obtain ⟨h1, hv, hm, h5⟩ := id hR
  obtain ⟨p8, pl, pcn⟩ := hH_1 B hp
  obtain ⟨i8, il, icn⟩ := hH_1 B hi
  obtain ⟨hL, d1, d2, d3⟩ := hD
  obtain ⟨b, b1, b2, b3⟩ := hP_1 B hj
  have ev1 : Ev S (jsI S 47 (hH B p) 0) := Ev.I S 47 _ _ rfl (by omega) (by omega) (by omega)
  have hL1 : laid (jsI S 47 (hH B p) 0) B s p L := laid_ch hL hp (fun t ht hn => ⟨upd_n _ _ hn, rfl⟩)
  have nc := X12_nextComer (RR_ev hR ev1) hp hL1 hl b1 b2 b3
  rw [hf, show hE B i = hH B i from if_pos hi] at nc
  have evR : Ev S (jsI (jsI (jsI S 47 (hH B p) 0) 48 (hH B p) (nI (hH B i))) 47 (hH B p) (nI (B (hH B i)))) := ev1.tr ((Ev.I _ 48 _ _ rfl (by omega) (by omega) (by omega)).tr (Ev.I _ 47 _ _ rfl (by omega) (by omega) (by omega)))
  have ne : ∀ q, q < p → hH B q ≠ hH B p := fun q hq w => by
    rw [hH_inj B (by omega) hp] at w
    omega
  have pre : ∀ g, bdL g (nI (hH B p), S) = if nI (hE B (p + 1)) < 8 then jst (jsI (jsI (jsI S 47 (hH B p) 0) 48 (hH B p) (nI (hH B i))) 47 (hH B p) (nI (B (hH B i)))) 48 (nI (hE B (p + 1))) 9 (-1) (fun S12 => g (nI (hE B (p + 1)), S12)) else g (nI (hE B (p + 1)), jsI (jsI (jsI S 47 (hH B p) 0) 48 (hH B p) (nI (hH B i))) 47 (hH B p) (nI (B (hH B i)))) := by
    intro g
    unfold bdL f_X12_layOrders_45
    dsimp only
    rw [if_neg (nI_pos (by omega)), itv q8 (by omega) (by omega), if_neg (by omega), jst_nI (by omega) (by omega), jld_nI (by omega) (by omega), show (jsI S 47 (hH B p) 0).1 48 (hH B p) = hP B j from hc, nc, jcl_s, jst_nI (by omega) (by omega), jld_nI (by omega) (by omega), show (jsI (jsI S 47 (hH B p) 0) 48 (hH B p) (nI (hH B i))).1 48 (hH B p) = nI (hH B i) from upd_s _ _ _, itv q8 (by omega) (by omega), if_neg (by omega), jld_nI (by omega) (by omega), show (jsI (jsI S 47 (hH B p) 0) 48 (hH B p) (nI (hH B i))).1 48 (hH B p) = nI (hH B i) from upd_s _ _ _, jld_nI (by omega) (by omega), show (jsI (jsI S 47 (hH B p) 0) 48 (hH B p) (nI (hH B i))).1 42 (hH B i) = nI (B (hH B i)) from hm _ (by omega), jst_nI (by omega) (by omega), show nI (hH B p) + 1 = nI (hH B p + 1) from qadd _ 1, X12_nextLived (S := jsI (jsI (jsI S 47 (hH B p) 0) 48 (hH B p) (nI (hH B i))) 47 (hH B p) (nI (B (hH B i)))) hv.1 (fun j hj => by rw [evR.2.1 42 rfl]; exact hm j (by omega)) (by omega), jcl_s, hE_s hp]
  by_cases c : p + 1 < lvc B
  · have eE1 : hE B (p + 1) = hH B (p + 1) := if_pos c
    have n8 := (hH_1 B c).1
    have np : hH B (p + 1) ≠ hH B p := fun w => by
      rw [hH_inj B c hp] at w
      omega
    refine ⟨jsI (jsI (jsI (jsI S 47 (hH B p) 0) 48 (hH B p) (nI (hH B i))) 47 (hH B p) (nI (B (hH B i)))) 48 (hH B (p + 1)) (-1), evR.tr (Ev.I _ 48 _ _ rfl (by omega) (by omega) (by omega)), ⟨laid_up hL hp hi ?_ (upd_s _ _ _) (fun t hn => (upd_n _ _ hn).trans (upd_n _ _ hn)) (fun q hq => ?_), d1, d2, d3⟩, fun _ => upd_s _ _ _, fun g => ?_⟩
    · exact (upd_n _ _ np.symm).trans (upd_s _ _ _)
    · have nq : hH B q ≠ hH B (p + 1) := fun w => by
        rw [hH_inj B (by omega) c] at w
        omega
      exact (upd_n _ _ nq).trans (upd_n _ _ (ne q hq))
    · rw [pre, eE1, itl q8 (by omega) (by omega), if_pos n8, jst_nI (by omega) (by omega)]
  · have eE1 : hE B (p + 1) = 8 := if_neg c
    refine ⟨_, evR, ⟨laid_up hL hp hi (upd_s _ _ _) (upd_s _ _ _) (fun t hn => (upd_n _ _ hn).trans (upd_n _ _ hn)) (fun q hq => upd_n _ _ (ne q hq)), d1, d2, d3⟩, fun q => absurd q c, fun g => ?_⟩
    rw [pre, eE1, if_neg (by decide)]
def Wk : Nat → Nat
  | 0 => 1
  | f + 1 => 8 * (1 + Wk f) + 1
theorem mm_le (m k : Nat) (o : Option Nat) : mm m k o ≤ m := by
  cases o with
  | none => exact Nat.le_refl m
  | some r =>
    show mn m (k + r) ≤ m
    rw [mn_min]
    omega
theorem walk_node {S0 : jS} {B T : Nat → Nat} {tl : Nat} (hR0 : RR S0 B T tl) : ∀ f p s l L a S, lvc B = p + f → Ev S0 S → DI S B s p L a → (0 < p → l = L (p - 1)) → (p < lvc B → S.1 48 (hH B p) = -1) → a.1 + 8 ^ f ≤ 16777216 → a.2.1 ≤ 1000000 → ∃ k S1, k ≤ Wk f ∧ Ev S0 S1 ∧ DI S1 B s p L (dfs (lvc B) (adR B) (gdM B) f s l L a) ∧ ∀ n, jloop bdL (n + k) (nI (hE B p), S) = jloop bdL n (hP B p, S1) := by
  have lc : lvc B ≤ 8 := cnt_le (lvp B) 8
  intro f
  induction f with
  | zero =>
    intro p s l L a S hf ev hD hl hc ha hm
    have e : p = lvc B := by omega
    subst e
    have ha : a.1 + 1 ≤ 16777216 := ha
    obtain ⟨S1, ev1, hD1, hg⟩ := bd_leaf (RR_ev hR0 ev) hD (by omega) hm
    refine ⟨1, S1, Nat.le_refl 1, ev.tr ev1, hD1, fun n => ?_⟩
    rw [jloop_1, show hE B (lvc B) = 8 from if_neg (Nat.lt_irrefl _), hg]
  | succ f ih =>
    intro p s l L a S hf ev hD hl hc ha hm
    have hp : p < lvc B := by omega
    have hpe : lvc B - (f + 1) = p := by omega
    have inner : ∀ m j a S, j + m = lvc B → Ev S0 S → DI S B s p L a → S.1 48 (hH B p) = hP B j → a.1 + m * 8 ^ f ≤ 16777216 → a.2.1 ≤ 1000000 → ∃ k S1, k ≤ m * (1 + Wk f) + 1 ∧ Ev S0 S1 ∧ DI S1 B s p L (itf (fun i a => if bC (adR B) (gdM B) s l p i = true then dfs (lvc B) (adR B) (gdM B) f (s ||| 2 ^ i) i (upB L p i) a else a) j m a) ∧ ∀ n, jloop bdL (n + k) (nI (hH B p), S) = jloop bdL n (hP B p, S1) := by
      intro m
      induction m using Nat.strongRecOn with
      | _ m ihm =>
        intro j a S hj ev hD hc ha hm
        have ef := itf_fi (fun i a => if bC (adR B) (gdM B) s l p i = true then dfs (lvc B) (adR B) (gdM B) f (s ||| 2 ^ i) i (upB L p i) a else a) (bC (adR B) (gdM B) s l p) (fun i a q => by
          show (if bC (adR B) (gdM B) s l p i = true then _ else a) = a
          rw [q, if_neg nft]) m j a
        obtain ⟨f1, f2, f3, -⟩ := fi_spec (bC (adR B) (gdM B) s l p) m j
        have em : m = lvc B - j := by omega
        generalize hi : fi (bC (adR B) (gdM B) s l p) j m = i at ef f1 f2 f3
        rw [em] at hi
        rw [ef]
        by_cases c : i < j + m
        · have hb := f3 c
          obtain ⟨S1, ev1, hD1, hc1, hg1⟩ := bd_go (RR_ev hR0 ev) hD hp hl (by omega) hc hi (by omega)
          have p1 : 8 ^ f ≤ m * 8 ^ f := Nat.le_mul_of_pos_left _ (by omega)
          obtain ⟨k1, S2, hk1, ev2, hD2, hg2⟩ := ih (p + 1) (s ||| 2 ^ i) i (upB L p i) a S1 (by omega) (ev.tr ev1) hD1 (fun _ => (upB_s L p i).symm) hc1 (by omega) hm
          have hd := dfs_eq (lvc B) (adR B) (gdM B) f (s ||| 2 ^ i) i (upB L p i) a.1 a.2.1 a.2.2 (by omega)
          have hd : dfs (lvc B) (adR B) (gdM B) f (s ||| 2 ^ i) i (upB L p i) a = _ := hd
          have t1 := tN_le lc (adR B) (gdM B) f (s ||| 2 ^ i) i
          have c1 : (dfs (lvc B) (adR B) (gdM B) f (s ||| 2 ^ i) i (upB L p i) a).1 ≤ a.1 + 8 ^ f := by
            rw [hd]
            show a.1 + _ ≤ _
            omega
          have c2 : (dfs (lvc B) (adR B) (gdM B) f (s ||| 2 ^ i) i (upB L p i) a).2.1 ≤ 1000000 := by
            rw [hd]
            exact Nat.le_trans (mm_le _ _ _) hm
          rw [if_pos c, hb, if_pos ptt]
          generalize dfs (lvc B) (adR B) (gdM B) f (s ||| 2 ^ i) i (upB L p i) a = a1 at hD2 c1 c2
          obtain ⟨hL2, d1, d2, d3⟩ := hD2
          obtain ⟨hL3, hc3⟩ := laid_dn hL2 hD.1.2.2.1
          have q1 : (j + m - (i + 1) + 1) * 8 ^ f ≤ m * 8 ^ f := Nat.mul_le_mul_right _ (by omega)
          have q2 : (j + m - (i + 1) + 1) * (1 + Wk f) ≤ m * (1 + Wk f) := Nat.mul_le_mul_right _ (by omega)
          rw [Nat.succ_mul] at q1 q2
          have eP : hP B (i + 1) = nI (hH B i) := if_neg (by omega)
          obtain ⟨k2, S3, hk2, ev3, hD3, hg3⟩ := ihm (j + m - (i + 1)) (by omega) (i + 1) a1 S2 (by omega) ev2 ⟨hL3, d1, d2, d3⟩ (by rw [hc3, eP]) (by omega) c2
          refine ⟨k2 + k1 + 1, S3, by omega, ev3, hD3, fun n => ?_⟩
          rw [show n + (k2 + k1 + 1) = (n + k2 + k1) + 1 by omega, jloop_1, hg1, hg2, show hP B (p + 1) = nI (hH B p) from if_neg (by omega), hg3]
        · obtain ⟨S1, ev1, hD1, hg1⟩ := bd_stop (RR_ev hR0 ev) hD hp hl (by omega) hc (by omega)
          rw [if_neg c]
          refine ⟨1, S1, by omega, ev.tr ev1, hD1, fun n => ?_⟩
          rw [jloop_1, hg1]
    have ed : dfs (lvc B) (adR B) (gdM B) (f + 1) s l L a = itf (fun i a => if bC (adR B) (gdM B) s l p i = true then dfs (lvc B) (adR B) (gdM B) f (s ||| 2 ^ i) i (upB L p i) a else a) 0 (lvc B) a := by
      show itf _ 0 (lvc B) a = _
      rw [hpe]
    have q3 : lvc B * 8 ^ f ≤ 8 * 8 ^ f := Nat.mul_le_mul_right _ lc
    have q4 : lvc B * (1 + Wk f) ≤ 8 * (1 + Wk f) := Nat.mul_le_mul_right _ lc
    have q5 : 8 ^ (f + 1) = 8 * 8 ^ f := by rw [Nat.pow_succ, Nat.mul_comm]
    obtain ⟨k, S1, hk, ev1, hD1, hg⟩ := inner (lvc B) 0 a S (by omega) ev hD (hc hp) (by omega) hm
    rw [ed]
    refine ⟨k, S1, ?_, ev1, hD1, fun n => ?_⟩
    · show k ≤ 8 * (1 + Wk f) + 1
      omega
    · rw [show hE B p = hH B p from if_pos hp, hg]
