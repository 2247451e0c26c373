/-! ===== orders and moved ===== -/
theorem Wk_8 : ∀ f, f < 9 → Wk f < 100000000 := by decide
theorem X12_layOrders {S : jS} {B T : Nat → Nat} {tl : Nat} (hR : RR S B T tl) (L : Nat → Nat) : ∃ S1, f_X12_layOrders S = some S1 ∧ Ev S S1 ∧ S1.1 41 10 = nI (tN (lvc B) (adR B) (gdM B) (lvc B) 0 0) ∧ S1.1 41 11 = nI (mm 1000000 0 (tL (lvc B) (adR B) (gdM B) (lvc B) 0 0)) ∧ (0 < tN (lvc B) (adR B) (gdM B) (lvc B) 0 0 → ∀ h, h < 8 → S1.1 49 h = nI (shw B (fL (lvc B) (adR B) (gdM B) (lvc B) 0 0 L) h)) := by
  have lc : lvc B ≤ 8 := cnt_le (lvp B) 8
  obtain ⟨h1, hv, hm, h5⟩ := id hR
  unfold f_X12_layOrders f_X12_layOrders_e
  rw [jpt_s, jpt_s]
  have ev0 : Ev S (jsI (jsI S 41 10 0) 41 11 1000000) := (Ev.F S 41 10 _ (by omega)).tr (Ev.F _ 41 11 _ (by omega))
  have pre : ∃ S', lp_X12_layOrders_13 f_X12_layOrders_39 0 (jsI (jsI S 41 10 0) 41 11 1000000) = f_X12_layOrders_39 S' ∧ Ev S S' ∧ S'.1 41 10 = 0 ∧ S'.1 41 11 = nI 1000000 ∧ ∀ h, h < 8 → S'.1 47 h = 0 ∧ S'.1 48 h = -1 := by
    unfold lp_X12_layOrders_13
    refine jloop_i (fun i a => ∃ S', a = (nI i, S') ∧ Ev S S' ∧ S'.1 41 10 = 0 ∧ S'.1 41 11 = nI 1000000 ∧ ∀ h, h < i → S'.1 47 h = 0 ∧ S'.1 48 h = -1) (fun r => ∃ S', r = f_X12_layOrders_39 S' ∧ Ev S S' ∧ S'.1 41 10 = 0 ∧ S'.1 41 11 = nI 1000000 ∧ ∀ h, h < 8 → S'.1 47 h = 0 ∧ S'.1 48 h = -1) 8 (by omega) ?_ ?_ ⟨_, rfl, ev0, rfl, rfl, fun h hh => absurd hh (Nat.not_lt_zero h)⟩
    · rintro i hi _ ⟨S', rfl, ev, e10, e11, eh⟩
      refine ⟨_, ⟨jsI (jsI S' 47 i 0) 48 i (-1), rfl, ev.tr ((Ev.I S' 47 _ _ rfl (by omega) (by omega) (by omega)).tr (Ev.I _ 48 _ _ rfl (by omega) (by omega) (by omega))), e10, e11, fun h hh => ?_⟩, fun g => ?_⟩
      · show upd (S'.1 47) i 0 h = 0 ∧ upd (S'.1 48) i (-1) h = -1
        rw [upd_1, upd_1]
        by_cases e : h = i
        · rw [if_pos e, if_pos e]
          exact ⟨rfl, rfl⟩
        · rw [if_neg e, if_neg e]
          exact eh h (by omega)
      · dsimp only
        unfold f_X12_layOrders_13
        rw [itl q8 (by omega) (by omega), if_pos hi, jst_nI (by omega) (by omega), jst_nI (by omega) (by omega), show nI i + 1 = nI (i + 1) from qadd _ 1]
    · rintro _ ⟨S', rfl, ev, e10, e11, eh⟩
      refine ⟨_, ⟨S', rfl, ev, e10, e11, eh⟩, fun g => ?_⟩
      dsimp only
      unfold f_X12_layOrders_13
      rw [if_neg (by decide)]
  obtain ⟨S', e0, ev, e10, e11, eh⟩ := pre
  rw [e0]
  have hm' : ∀ j, j < 8 → S'.1 42 j = nI (B j) := fun j hj => by rw [ev.2.1 42 rfl]; exact hm j (by omega)
  have hD : DI S' B 0 0 L (0, 1000000, L) := ⟨⟨fun q hq => absurd hq (Nat.not_lt_zero q), fun q hq => absurd hq (Nat.not_lt_zero q), fun i _ => Nat.zero_testBit i, fun h hh _ => (eh h hh).1⟩, e10, e11, fun q => absurd q (Nat.lt_irrefl 0)⟩
  have p8 := p88 lc
  obtain ⟨k, S1, hk, ev1, hD1, hg⟩ := walk_node hR (lvc B) 0 0 0 L (0, 1000000, L) S' (by omega) ev hD (fun q => absurd q (Nat.lt_irrefl 0)) (fun q => (eh _ (hH_1 B q).1).2) (by show 0 + 8 ^ lvc B ≤ 16777216; omega) (Nat.le_refl _)
  have kb := Wk_8 (lvc B) (by omega)
  have hd := dfs_eq (lvc B) (adR B) (gdM B) (lvc B) 0 0 L 0 1000000 L (Nat.le_refl _)
  rw [Nat.sub_self, if_pos (show 0 = 0 from rfl), Nat.zero_add] at hd
  rw [hd] at hD1
  obtain ⟨-, d1, d2, d3⟩ := hD1
  refine ⟨S1, ?_, ev1, d1, d2, fun q h hh => ?_⟩
  · unfold f_X12_layOrders_39
    rw [show f_X12_nextLived 0 S' = some (nI (hE B 0), S') from X12_nextLived (h := 0) hv.1 hm' (by omega), jcl_s]
    unfold lp_X12_layOrders_45
    have eN : jN = (jN - (k + 1) + 1) + k := by
      have : jN = 1000000000 := rfl
      omega
    have hg2 := hg (jN - (k + 1) + 1)
    rw [← eN, jloop_1] at hg2
    refine Eq.trans hg2 ?_
    show f_X12_layOrders_45 _ f_X12_layOrders_163 (hP B 0) S1 = some S1
    unfold f_X12_layOrders_45 f_X12_layOrders_163
    rw [if_pos (show hP B 0 < 0 by show (-1 : Int32) < 0; decide)]
  · have := d3 q h hh
    dsimp only at this
    rw [if_neg (by omega)] at this
    exact this
theorem X12_inM1 (x : Int32) (S : jS) : f_X12_in x.toInt64 (-1) 7 S = some (bI (decide (x = -1) || okr x 0 7), S) := by
  rw [X12_in, show (-1 : Int64).toInt = -1 from by decide, show (7 : Int64).toInt = 7 from by decide]
  by_cases c : x = -1
  · subst c
    rfl
  · have n : x.toInt ≠ -1 := fun q => c (Int32.toInt_inj.1 (q.trans (by decide)))
    have e : ((-1 : Int) ≤ x.toInt ∧ x.toInt ≤ 7) = (((0 : Nat) : Int) ≤ x.toInt ∧ x.toInt ≤ ((7 : Nat) : Int)) := propext (by constructor <;> intro h <;> omega)
    rw [decide_eq_false c, Bool.false_or]
    unfold okr
    simp only [e]
theorem op_orders (x : Int32) {S : jS} (h : GG S) : O2 (f_X11_orders x S) (f_X12_orders x) := by
  obtain ⟨B, T, tl, hR⟩ := id h
  by_cases hx : x = -1 ∨ okr x 0 7 = true
  · obtain ⟨h1, hv, hm, hc, h5⟩ := id hR
    have lc : lvc B ≤ 8 := cnt_le (lvp B) 8
    obtain ⟨S1, e1, ev1, hS1⟩ := X4_settle h1 hv.2.1 hv.2.2.1 hv.1 hc.1
    have hS1 : stl S1 B (gdM B) := hS1
    obtain ⟨S2, e2, ev2, hS2, hT2⟩ := X4_countOrders hS1
    obtain ⟨S3, e3, ev3, e10, e11, e49⟩ := X12_layOrders (RR_ev hR (ev1.tr ev2)) (fun _ => 0)
    have tb := tN_le lc (adR B) (gdM B) (lvc B) 0 0
    have tb2 := p88 lc
    have ein : ∀ S', f_X12_in x.toInt64 (-1) 7 S' = some (bI true, S') := fun S' => by
      rw [X12_inM1]
      rcases hx with q | q
      · rw [decide_eq_true q]; rfl
      · rw [q, Bool.or_true]
    have c17 : f_X11_orders x S = f_X11_orders_17 x S := by
      unfold f_X11_orders f_X11_orders_e
      rcases hx with q | q
      · rw [if_pos q]
      · by_cases w : x = -1
        · rw [if_pos w]
        · rw [if_neg w, X11_isHouse, jcl_s, q, ite_b, if_pos ptt]
    by_cases w : x = -1
    · refine O2_ev h (nI (tN (lvc B) (adR B) (gdM B) (lvc B) 0 0)) ⟨S2, ?_, ev1.tr ev2, S3, ?_, ev3⟩
      · rw [c17]
        unfold f_X11_orders_17
        rw [hc.2.1, e1, jcv_s, e2, jcl_s, if_pos w]
      · unfold f_X12_orders f_X12_orders_e f_X12_orders_54
        rw [ein, jcl_s, if_neg (by decide), e3, jcv_s, if_pos w, e10]
    · rcases hx with q | q
      · exact absurd q w
      · obtain ⟨a, -, ha, rfl⟩ := okr_of q (by omega)
        by_cases z : tN (lvc B) (adR B) (gdM B) (lvc B) 0 0 = 0
        · refine O2_ev h (-1) ⟨S2, ?_, ev1.tr ev2, S3, ?_, ev3⟩
          · rw [c17]
            unfold f_X11_orders_17 f_X11_orders_69
            rw [hc.2.1, e1, jcv_s, e2, jcl_s, if_neg w, z, if_pos (show nI 0 = 0 from rfl)]
          · unfold f_X12_orders f_X12_orders_e f_X12_orders_54
            rw [ein, jcl_s, if_neg (by decide), e3, jcv_s, if_neg w, e10, z, if_pos (show nI 0 = 0 from rfl)]
        · refine O2_ev h (nI (shw B (fL (lvc B) (adR B) (gdM B) (lvc B) 0 0 (fun _ => 0)) a)) ⟨S2, ?_, ev1.tr ev2, S3, ?_, ev3⟩
          · rw [c17]
            unfold f_X11_orders_17 f_X11_orders_69
            rw [hc.2.1, e1, jcv_s, e2, jcl_s, if_neg w, itv q0 (by omega) (by omega), if_neg z, X4_inFirstOrder hS2 hT2 (by omega) (by omega) (fun _ => 0), jcl_s]
          · unfold f_X12_orders f_X12_orders_e f_X12_orders_54
            rw [ein, jcl_s, if_neg (by decide), e3, jcv_s, if_neg w, e10, itv q0 (by omega) (by omega), if_neg z, jld_nI (by omega) (by omega), e49 (by omega) a (by omega)]
  · have w : ¬ x = -1 := fun q => hx (Or.inl q)
    have v : okr x 0 7 = false := by
      cases e : okr x 0 7 with
      | false => rfl
      | true => exact absurd (Or.inr e) hx
    refine O2_bad h (-10) ?_ ?_
    · unfold f_X11_orders f_X11_orders_e
      rw [if_neg w, X11_isHouse, jcl_s, v, ite_b, if_neg nft, X11_refuseBadApart, jcl_s]
    · unfold f_X12_orders f_X12_orders_e
      rw [X12_inM1, jcl_s, v, decide_eq_false w, ite_b, if_neg (by decide), X12_bad, jcl_s]
      rfl
theorem op_moved {S : jS} (h : GG S) : O2 (f_X11_moved S) f_X12_moved := by
  obtain ⟨B, T, tl, hR⟩ := id h
  obtain ⟨h1, hv, hm, hc, h5⟩ := id hR
  have lc : lvc B ≤ 8 := cnt_le (lvp B) 8
  obtain ⟨S1, e1, ev1, hS1⟩ := X4_settle h1 hv.2.1 hv.2.2.1 hv.1 hc.1
  have hS1 : stl S1 B (gdM B) := hS1
  obtain ⟨S2, e2, ev2, hS2, hT2⟩ := X4_leastMoved hS1
  obtain ⟨S3, e3, ev3, e10, e11, e49⟩ := X12_layOrders (RR_ev hR (ev1.tr ev2)) (fun _ => 0)
  have tb := tN_le lc (adR B) (gdM B) (lvc B) 0 0
  have tb2 := p88 lc
  have tn := tL_none (lvc B) (adR B) (gdM B) (lvc B) 0 0
  have tle := tL_le (lvc B) (adR B) (gdM B) (lvc B) 0 0
  refine O2_ev h (eI (tL (lvc B) (adR B) (gdM B) (lvc B) 0 0)) ⟨S2, ?_, ev1.tr ev2, S3, ?_, ev3⟩
  · unfold f_X11_moved f_X11_moved_e
    rw [hc.2.1, e1, jcv_s, e2, jcl_s]
  · unfold f_X12_moved f_X12_moved_e f_X12_moved_19
    rw [e3, jcv_s, e10, e11, itv q0 (by omega) (by omega)]
    cases e : tL (lvc B) (adR B) (gdM B) (lvc B) 0 0 with
    | none => rw [if_pos (tn.1 e)]; rfl
    | some r =>
      have hr := tle r e
      rw [if_neg (fun q => by rw [tn.2 q] at e; cases e)]
      show some (nI (mn 1000000 (0 + r)), S3) = some (nI r, S3)
      rw [mn_min, show min 1000000 (0 + r) = r by omega]
