theorem op_greatest (x : Int32) {S : jS} (h : GG S) : O2 (f_X11_greatest x S) (f_X12_greatest x) := by
  obtain ⟨B, T, tl, hR⟩ := id h
  cases hx : okr x 0 1 with
  | false =>
    refine O2_bad h (-2) ?_ ?_
    · unfold f_X11_greatest f_X11_greatest_e
      rw [X11_isBit, jcl_s, hx, ite_b, if_neg (by decide), X11_refuseBad, jcl_s]
    · unfold f_X12_greatest f_X12_greatest_e
      rw [X12_in01, jcl_s, hx, ite_b, if_neg (by decide), X12_bad, jcl_s]
      rfl
  | true =>
    obtain ⟨a, -, ha, rfl⟩ := okr_of hx (by omega)
    obtain ⟨h1, hv, hm, hc, h5⟩ := id hR
    obtain ⟨S1, e0, e1, ev⟩ := X4_greatestSet h1 hv.1 hc.1
    have ep : pc (lvm B) = lvc B := pc_msk _
    have hL := lvm_lt B
    have key := bs_xp hL (fun s => al (iap (fun i => msk (fun j => apt (B (hH B i)) (B (hH B j))) (lvc B)) s) 0 (lvc B)) (fun t => decide (dif t (lvm B) = 0) && al (mpl B t) 0 8) (fun s hs => by
      show (decide (dif (xpd 8 (lvm B) s) (lvm B) = 0) && al (mpl B (xpd 8 (lvm B) s)) 0 8) = _
      rw [decide_eq_true (xpd_1 _ hL s hs).2.2, Bool.true_and]
      rw [ep] at hs
      exact apart_xpd hs) (fun t ht hg => by
      rw [Bool.and_eq_true, decide_eq_true_eq] at hg
      exact hg.1)
    rw [ep] at key
    rw [← key] at e1
    have bl := bs_lt (fun t => decide (dif t (lvm B) = 0) && al (mpl B t) 0 8) (show 0 < 256 by omega)
    have hm1 : mB (S1.1 42) B := by rw [ev.2.1 42 rfl]; exact hm
    have e12 : f_X12_greatest (nI a) S1 = f_X12_greatest_82 (nI a) (nI (bs (fun t => decide (dif t (lvm B) = 0) && al (mpl B t) 0 8) 256)) S1 := by
      unfold f_X12_greatest f_X12_greatest_e
      rw [X12_in01, jcl_s, hx, ite_b, if_pos rfl]
      unfold lp_X12_greatest_21
      refine jloop_u (fun i => (nI a, nI (bs (fun t => decide (dif t (lvm B) = 0) && al (mpl B t) 0 8) i), nI i, S1)) 256 rfl (by omega) (fun i hi g => ?_) (fun g => ?_)
      · have hb : bs (fun t => decide (dif t (lvm B) = 0) && al (mpl B t) 0 8) i < 256 := by
          rcases (bs_spec (fun t => decide (dif t (lvm B) = 0) && al (mpl B t) 0 8) i).2.1 with q | q
          · rw [q]; omega
          · have := q.1; omega
        have p1 := pc_8 i hi
        have p2 := pc_8 _ hb
        dsimp only
        unfold f_X12_greatest_21 f_X12_greatest_54 f_X12_greatest_55 f_X12_greatest_74 f_X12_greatest_75
        rw [itl (show (256 : Int32) = nI 256 from rfl) (by omega) (by omega), if_pos hi, X12_bits (by omega), jcl_s, X12_bits (by omega), jcl_s, itlt (by omega) (by omega), X12_lived hv hm1, jcl_s, dif_nI, itv q0 (dif_lt hi) (by omega), show nI i + 1 = nI (i + 1) from qadd _ 1]
        have e : bs (fun t => decide (dif t (lvm B) = 0) && al (mpl B t) 0 8) (i + 1) = if pc (bs (fun t => decide (dif t (lvm B) = 0) && al (mpl B t) 0 8) i) < pc i ∧ (decide (dif i (lvm B) = 0) && al (mpl B i) 0 8) = true then i else bs (fun t => decide (dif t (lvm B) = 0) && al (mpl B t) 0 8) i := rfl
        rw [e]
        by_cases c : pc (bs (fun t => decide (dif t (lvm B) = 0) && al (mpl B t) 0 8) i) < pc i
        · rw [if_pos c]
          by_cases c2 : dif i (lvm B) = 0
          · have hp : ∀ j, j < 8 → i.testBit j = true → 0 < B j := fun t ht hb => by
              have := (sub_iff (lvp B) hi).1 c2 t ht hb
              unfold lvp at this
              rw [decide_eq_true_eq] at this
              exact this
            rw [if_pos c2, decide_eq_true c2, Bool.true_and, if_neg (show ¬ (1 : Int32) = 0 by decide), X12_areAllApart hv.1 (fun j hj => hm1 j (by omega)) hi hp, jcl_s, ite_b]
            by_cases c3 : al (mpl B i) 0 8 = true
            · rw [if_pos c3, if_pos ⟨c, c3⟩]
            · rw [if_neg c3, if_neg (fun q => c3 q.2)]
          · rw [if_neg c2, decide_eq_false c2, Bool.false_and, if_pos (show (0 : Int32) = 0 from rfl), if_neg (fun q => absurd q.2 (by decide))]
        · rw [if_neg c, if_pos (show (0 : Int32) = 0 from rfl), if_neg (fun q => c q.1)]
      · dsimp only
        unfold f_X12_greatest_21
        rw [if_neg (by decide)]
    rcases (show a = 0 ∨ a = 1 by omega) with rfl | rfl
    · refine O2_ev h (nI (pc (bs (fun t => decide (dif t (lvm B) = 0) && al (mpl B t) 0 8) 256))) ⟨S1, ?_, ev, S1, ?_, Ev.rfl' S1⟩
      · unfold f_X11_greatest f_X11_greatest_e f_X11_greatest_46
        rw [X11_isBit, jcl_s, hx, ite_b, if_pos rfl, e0, jcv_s, e1, jcl_s, if_pos (by decide), J6_bitCount bl, jcl_s]
      · rw [e12]
        unfold f_X12_greatest_82 f_X12_greatest_94
        rw [if_pos (by decide), X12_bits (by omega), jcl_s]
    · refine O2_ev h (nI (bs (fun t => decide (dif t (lvm B) = 0) && al (mpl B t) 0 8) 256)) ⟨S1, ?_, ev, S1, ?_, Ev.rfl' S1⟩
      · unfold f_X11_greatest f_X11_greatest_e f_X11_greatest_46
        rw [X11_isBit, jcl_s, hx, ite_b, if_pos rfl, e0, jcv_s, e1, jcl_s, if_neg (by decide)]
      · rw [e12]
        unfold f_X12_greatest_82 f_X12_greatest_94
        rw [if_neg (by decide)]
