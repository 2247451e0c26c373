/-- the class's own remembering -/
theorem X10_remember {S : jS} {B : Nat → Nat} (hv : vB B) (hc : cB S 21 B) : ∃ S1, f_X10_remember S = some S1 ∧ S1.2 = S.2 ∧ (∀ k, k ≠ 21 → k ≠ 25 → S1.1 k = S.1 k) ∧ (∀ j, j ≠ 6 → S1.1 21 j = S.1 21 j) ∧ cB S1 21 (kB B) := by
  obtain ⟨c1, c2, c3, c4, c5, c6, c7, c8⟩ := hc
  have hle : B 12 ≤ 8 := hv.2.2.2.2.2.1
  have fin : ∀ (S0 : jS) (c : Nat) (P : Nat → Int32), c ≤ 7 → S0.2 = S.2 → (∀ k, k ≠ 21 → k ≠ 25 → S0.1 k = S.1 k) → (∀ j, j ≠ 6 → S0.1 21 j = S.1 21 j) → S0.1 21 6 = nI c → S0.1 25 = P → c = pcB B → (∀ i, i < c → (∀ h, h < 8 → P (9 * i + h) = nI (kB B (69 + 10 * i + h))) ∧ P (9 * i + 8) = nI (10 * kB B (77 + 10 * i) + kB B (78 + 10 * i))) → ∃ S1, f_X10_remember_31 S0 = some S1 ∧ S1.2 = S.2 ∧ (∀ k, k ≠ 21 → k ≠ 25 → S1.1 k = S.1 k) ∧ (∀ j, j ≠ 6 → S1.1 21 j = S.1 21 j) ∧ cB S1 21 (kB B) := by
    intro S0 c P hc7 e2 eo e21 e6 eP hcp hP
    unfold f_X10_remember_31
    rw [e6, show (9 : Int32) = nI 9 from rfl, qmul, show (8 : Int32) = nI 8 from rfl, show (0 : Int32) = nI 0 from rfl, jcp_nI (by omega) (by omega) (by omega) (by omega), qadd, jst_nI (by omega) (by omega), jpt_s, jsI_R]
    refine ⟨_, rfl, e2, fun k h1 h2 => ?_, fun j hj => ?_, ?_⟩
    · rw [jsI_1, if_neg h1, jsR_1, if_neg h2]
      exact eo k h1 h2
    · rw [jsI_1, if_pos rfl, upd_1, if_neg hj]
      exact e21 j hj
    · have ke : ∀ j, j < 69 → j ≠ 12 → kB B j = B j := fun j h1 h2 => kB_low B h1 h2
      refine ⟨fun j hj => ?_, ?_, ?_, ?_, ?_, fun i hi => ?_, fun i hi => ?_, fun i hi => ?_⟩
      · show S0.1 22 j = _
        rw [eo 22 (by omega) (by omega), ke j (by omega) (by omega)]
        exact c1 j hj
      · show S0.1 21 1 = _
        rw [e21 1 (by omega), ke 8 (by omega) (by omega), ke 9 (by omega) (by omega)]
        exact c2
      · show S0.1 21 3 = _
        rw [e21 3 (by omega), ke 10 (by omega) (by omega)]
        exact c3
      · show S0.1 21 5 = _
        rw [e21 5 (by omega), ke 11 (by omega) (by omega)]
        exact c4
      · show S0.1 21 6 + 1 = _
        rw [e6, kB_12, q1, qadd, hcp]
      · show S0.1 23 _ = _ ∧ S0.1 23 _ = _ ∧ S0.1 23 _ = _
        have hr : B 10 ≤ 8 := hv.2.2.2.1
        rw [ke 10 (by omega) (by omega)] at hi
        rw [eo 23 (by omega) (by omega), ke _ (by omega) (by omega), ke _ (by omega) (by omega), ke _ (by omega) (by omega), ke _ (by omega) (by omega)]
        exact c6 i hi
      · show S0.1 24 _ = _
        have hr : B 11 ≤ 8 := hv.2.2.2.2.1
        rw [ke 11 (by omega) (by omega)] at hi
        rw [eo 24 (by omega) (by omega), ke _ (by omega) (by omega)]
        exact c7 i hi
      · show (∀ h, h < 8 → upd (va_cpy (S0.1 22) (S0.1 25) 0 (c * 9) 8) (c * 9 + 8) (S0.1 21 1) (9 * i + h) = _) ∧ upd (va_cpy (S0.1 22) (S0.1 25) 0 (c * 9) 8) (c * 9 + 8) (S0.1 21 1) (9 * i + 8) = _
        rw [kB_12] at hi
        rcases Nat.lt_or_ge i c with hl | hl
        · obtain ⟨p1, p2⟩ := hP i hl
          refine ⟨fun h hh => ?_, ?_⟩
          · rw [upd_1, if_neg (by omega)]
            unfold va_cpy
            rw [if_neg (by omega), eP]
            exact p1 h hh
          · rw [upd_1, if_neg (by omega)]
            unfold va_cpy
            rw [if_neg (by omega), eP]
            exact p2
        · have e : i = c := by omega
          subst e
          refine ⟨fun h hh => ?_, ?_⟩
          · rw [upd_1, if_neg (by omega)]
            unfold va_cpy
            rw [if_pos (by omega), eo 22 (by omega) (by omega), show 0 + (9 * i + h - i * 9) = h by omega, c1 h hh, hcp, kB_top B (by omega)]
          · rw [upd_1, if_pos (by omega), e21 1 (by omega), c2, hcp, show 77 + 10 * pcB B = 69 + 10 * pcB B + 8 by omega, show 78 + 10 * pcB B = 69 + 10 * pcB B + 9 by omega, kB_top B (by omega), kB_top B (by omega)]
  unfold f_X10_remember f_X10_remember_e
  rw [c5]
  by_cases h8 : B 12 = 8
  · have hp : pcB B = 7 := if_pos h8
    rw [if_neg (show ¬ nI (B 12) < 8 by rw [h8]; decide), show (9 : Int32) = nI 9 from rfl, show (0 : Int32) = nI 0 from rfl, show (63 : Int32) = nI 63 from rfl, jcp_nI (by omega) (by omega) (by omega) (by omega), jpt_s]
    refine fin _ 7 (va_cpy (S.1 25) (S.1 25) 9 0 63) (by omega) rfl (fun k h1 h2 => ?_) (fun j hj => ?_) rfl rfl hp.symm (fun i hi => ?_)
    · rw [jsI_1, if_neg h1, jsR_1, if_neg h2]
    · rw [jsI_1, if_pos rfl, upd_1, if_neg hj]; rfl
    · obtain ⟨p1, p2⟩ := c8 (i + 1) (by omega)
      unfold va_cpy
      refine ⟨fun h hh => ?_, ?_⟩
      · rw [if_pos (by omega), kB_old B (by omega) (by omega), if_pos h8, show 9 + (9 * i + h - 0) = 9 * (i + 1) + h by omega]
        exact p1 h hh
      · rw [if_pos (by omega), show 77 + 10 * i = 69 + 10 * i + 8 by omega, show 78 + 10 * i = 69 + 10 * i + 9 by omega, kB_old B (by omega) (by omega), kB_old B (by omega) (by omega), if_pos h8, if_pos h8, show 69 + 10 * (i + 1) + 8 = 77 + 10 * (i + 1) by omega, show 69 + 10 * (i + 1) + 9 = 78 + 10 * (i + 1) by omega, show 9 + (9 * i + 8 - 0) = 9 * (i + 1) + 8 by omega]
        exact p2
  · have hp : pcB B = B 12 := if_neg h8
    rw [if_pos (show nI (B 12) < 8 from nI_lt (b := 8) (by omega) (by decide))]
    refine fin S (B 12) (S.1 25) (by omega) rfl (fun _ _ _ => rfl) (fun _ _ => rfl) c5 rfl hp.symm (fun i hi => ?_)
    obtain ⟨p1, p2⟩ := c8 i hi
    refine ⟨fun h hh => ?_, ?_⟩
    · rw [kB_old B (by omega) (by omega), if_neg h8]
      exact p1 h hh
    · rw [show 77 + 10 * i = 69 + 10 * i + 8 by omega, show 78 + 10 * i = 69 + 10 * i + 9 by omega, kB_old B (by omega) (by omega), kB_old B (by omega) (by omega), if_neg h8, if_neg h8, show 69 + 10 * i + 8 = 77 + 10 * i by omega, show 69 + 10 * i + 9 = 78 + 10 * i by omega]
      exact p2
/-- the relation behind a change of the street alone -/
theorem RR_mk {S S' : jS} {B B' T : Nat → Nat} {tl : Nat} (h : RR S B T tl) (e2 : S'.2 = S.2) (e : ∀ k, k ≠ 42 → ¬ (21 ≤ k ∧ k ≤ 25) → S'.1 k = S.1 k) (hv : vB B') (hm : mB (S'.1 42) B') (hc : cB S' 21 B') : RR S' B' T tl := by
  obtain ⟨h1, h2, h3, h4, h5, h6, h7, h8, h9⟩ := h
  refine ⟨tabs_c h1 (e 2 (by omega) (by omega)) (e 3 (by omega) (by omega)) (e 46 (by omega) (by omega)), hv, hm, hc, im_c h5 (e 37 (by omega) (by omega)) (e 44 (by omega) (by omega)) (e 43 (by omega) (by omega)) (e 27 (by omega) (by omega)) (e 28 (by omega) (by omega)) (e 29 (by omega) (by omega)) (e 30 (by omega) (by omega)) (e 31 (by omega) (by omega)), im_c h6 (e 37 (by omega) (by omega)) (e 44 (by omega) (by omega)) (e 43 (by omega) (by omega)) (e 32 (by omega) (by omega)) (e 33 (by omega) (by omega)) (e 34 (by omega) (by omega)) (e 35 (by omega) (by omega)) (e 36 (by omega) (by omega)), ?_, ?_, txt_c h9 (by rw [e 18 (by omega) (by omega)]) (by rw [e 41 (by omega) (by omega)]) (e 20 (by omega) (by omega)) (e 53 (by omega) (by omega))⟩
  · unfold stt
    rw [e 0 (by omega) (by omega), e 45 (by omega) (by omega)]
    exact h7
  · unfold frc
    rw [e2]
    exact h8
theorem mB_up {f : Nat → Int32} {B : Nat → Nat} (h : mB f B) (k v : Nat) : mB (upd f k (nI v)) (upB B k v) := by
  intro j hj
  unfold upB
  rw [upd_1]
  split
  · rfl
  · exact h j hj
/-- a house of the street gets another number -/
theorem cB_house {S : jS} {B : Nat → Nat} (hv : vB B) (hc : cB S 21 B) {h : Nat} (hh : h < 8) (x : Nat) : cB (jsI S 22 h (nI x)) 21 (upB B h x) := by
  obtain ⟨c1, c2, c3, c4, c5, c6, c7, c8⟩ := hc
  have u : ∀ j, 8 ≤ j → upB B h x j = B j := fun j hj => upB_n B (by omega)
  refine ⟨fun j hj => ?_, ?_, ?_, ?_, ?_, fun i hi => ?_, fun i hi => ?_, fun i hi => ?_⟩
  · show upd (S.1 22) h (nI x) j = _
    rw [upd_1]
    unfold upB
    split
    · rfl
    · exact c1 j hj
  · rw [u 8 (by omega), u 9 (by omega)]; exact c2
  · rw [u 10 (by omega)]; exact c3
  · rw [u 11 (by omega)]; exact c4
  · rw [u 12 (by omega)]; exact c5
  · rw [u 10 (by omega)] at hi
    rw [u _ (by omega), u _ (by omega), u _ (by omega), u _ (by omega)]
    exact c6 i hi
  · rw [u 11 (by omega)] at hi
    rw [u _ (by omega)]
    exact c7 i hi
  · rw [u 12 (by omega)] at hi
    obtain ⟨p1, p2⟩ := c8 i hi
    rw [u _ (by omega), u (78 + 10 * i) (by omega)]
    refine ⟨fun q hq => ?_, p2⟩
    rw [u _ (by omega)]
    exact p1 q hq
theorem vB_house {B : Nat → Nat} (hv : vB B) {h x : Nat} (hh : h < 8) (hx : x ≤ 300) : vB (upB B h x) := by
  obtain ⟨h1, h2, h3, h4, h5, h6, h7, h8, h9⟩ := hv
  have u : ∀ j, 8 ≤ j → upB B h x j = B j := fun j hj => upB_n B (by omega)
  refine ⟨fun j hj => ?_, ?_, ?_, ?_, ?_, ?_, fun i hi => ?_, fun i hi => ?_, fun i hi => ?_⟩
  · unfold upB
    split
    · exact hx
    · exact h1 j hj
  · rw [u 8 (by omega)]; exact h2
  · rw [u 9 (by omega)]; exact h3
  · rw [u 10 (by omega)]; exact h4
  · rw [u 11 (by omega)]; exact h5
  · rw [u 12 (by omega)]; exact h6
  · rw [u 10 (by omega)] at hi
    rw [u _ (by omega), u _ (by omega), u _ (by omega), u _ (by omega)]
    exact h7 i hi
  · rw [u 11 (by omega)] at hi
    rw [u _ (by omega), u _ (by omega), u _ (by omega)]
    exact h8 i hi
  · rw [u 12 (by omega)] at hi
    obtain ⟨p1, p2⟩ := h9 i hi
    rw [u (77 + 10 * i) (by omega), u (78 + 10 * i) (by omega)]
    refine ⟨fun q hq => ?_, p2⟩
    rw [u _ (by omega)]
    exact p1 q hq
