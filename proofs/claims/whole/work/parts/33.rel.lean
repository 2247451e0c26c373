/-! ===== how the two objects stand to each other: B is what the model's row tells, as natural numbers ===== -/
def mB (f : Nat → Int32) (B : Nat → Nat) : Prop := ∀ j, j < 149 → f j = nI (B j)
def cB (S : jS) (b : Nat) (B : Nat → Nat) : Prop :=
  (∀ j, j < 8 → S.1 (b + 1) j = nI (B j)) ∧ S.1 b 1 = nI (10 * B 8 + B 9) ∧ S.1 b 3 = nI (B 10) ∧ S.1 b 5 = nI (B 11) ∧ S.1 b 6 = nI (B 12) ∧
  (∀ i, i < B 10 → S.1 (b + 2) (3 * i) = nI (B (13 + 4 * i)) ∧ S.1 (b + 2) (3 * i + 1) = nI (B (14 + 4 * i)) ∧ S.1 (b + 2) (3 * i + 2) = nI (10 * B (15 + 4 * i) + B (16 + 4 * i))) ∧
  (∀ i, i < 3 * B 11 → S.1 (b + 3) i = nI (B (45 + i))) ∧
  (∀ i, i < B 12 → (∀ h, h < 8 → S.1 (b + 4) (9 * i + h) = nI (B (69 + 10 * i + h))) ∧ S.1 (b + 4) (9 * i + 8) = nI (10 * B (77 + 10 * i) + B (78 + 10 * i)))
def vB (B : Nat → Nat) : Prop :=
  (∀ j, j < 8 → B j ≤ 300) ∧ B 8 < 6 ∧ B 9 < 10 ∧ B 10 ≤ 8 ∧ B 11 ≤ 8 ∧ B 12 ≤ 8 ∧
  (∀ i, i < B 10 → 1 ≤ B (13 + 4 * i) ∧ B (13 + 4 * i) ≤ 300 ∧ B (14 + 4 * i) ≤ 1 ∧ B (15 + 4 * i) < 6 ∧ B (16 + 4 * i) < 10) ∧
  (∀ i, i < B 11 → 1 ≤ B (45 + 3 * i) ∧ B (45 + 3 * i) ≤ 300 ∧ 1 ≤ B (46 + 3 * i) ∧ B (46 + 3 * i) ≤ 300 ∧ B (47 + 3 * i) ≤ 1) ∧
  (∀ i, i < B 12 → (∀ h, h < 8 → B (69 + 10 * i + h) ≤ 300) ∧ B (77 + 10 * i) < 6 ∧ B (78 + 10 * i) < 10)
def im (S : jS) (i b : Nat) : Prop := (S.1 37 i = 0 ∧ S.1 44 i = 0) ∨ (S.1 37 i = 1 ∧ S.1 44 i = 1 ∧ ∃ K, vB K ∧ mB (fun j => S.1 43 (149 * i + j)) K ∧ cB S b K)
def stt (S : jS) : Prop := S.1 0 13 = S.1 45 0 ∧ S.1 0 14 = S.1 45 1 ∧ S.1 0 15 = S.1 45 2
def frc (S : jS) : Prop := S.2 0 11 = S.2 41 5 ∧ S.2 0 12 = S.2 41 6
def txt (S : jS) (T : Nat → Nat) (tl : Nat) : Prop := tl ≤ 150 ∧ S.1 18 1 = nI tl ∧ S.1 41 18 = nI tl ∧ ∀ j, j < tl → S.1 20 j = nI (T j) ∧ S.1 53 j = nI (T j) ∧ T j ≤ 127
def RR (S : jS) (B T : Nat → Nat) (tl : Nat) : Prop := tabs S ∧ vB B ∧ mB (S.1 42) B ∧ cB S 21 B ∧ im S 0 27 ∧ im S 1 32 ∧ stt S ∧ frc S ∧ txt S T tl
def GG (S : jS) : Prop := ∃ B T tl, RR S B T tl
def O2 {α : Type} (F1 : Option (α × jS)) (F2 : jS → Option (α × jS)) : Prop := ∃ r S1 S2, F1 = some (r, S1) ∧ F2 S1 = some (r, S2) ∧ GG S2
section relc
variable {S S' : jS}
theorem tabs_c (h : tabs S) (e2 : S'.1 2 = S.1 2) (e3 : S'.1 3 = S.1 3) (e46 : S'.1 46 = S.1 46) : tabs S' := by
  intro x hx
  rw [e2, e3, e46]
  exact h x hx
theorem cB_c {b : Nat} {B : Nat → Nat} (h : cB S b B) (e0 : S'.1 b = S.1 b) (e1 : S'.1 (b + 1) = S.1 (b + 1)) (e2 : S'.1 (b + 2) = S.1 (b + 2)) (e3 : S'.1 (b + 3) = S.1 (b + 3)) (e4 : S'.1 (b + 4) = S.1 (b + 4)) : cB S' b B := by
  unfold cB
  rw [e0, e1, e2, e3, e4]
  exact h
theorem im_c {i b : Nat} (h : im S i b) (e37 : S'.1 37 = S.1 37) (e44 : S'.1 44 = S.1 44) (e43 : S'.1 43 = S.1 43) (e0 : S'.1 b = S.1 b) (e1 : S'.1 (b + 1) = S.1 (b + 1)) (e2 : S'.1 (b + 2) = S.1 (b + 2)) (e3 : S'.1 (b + 3) = S.1 (b + 3)) (e4 : S'.1 (b + 4) = S.1 (b + 4)) : im S' i b := by
  unfold im
  rw [e37, e44, e43]
  rcases h with h | ⟨h1, h2, K, h3, h4, h5⟩
  · exact Or.inl h
  · exact Or.inr ⟨h1, h2, K, h3, h4, cB_c h5 e0 e1 e2 e3 e4⟩
theorem txt_c {T : Nat → Nat} {tl : Nat} (h : txt S T tl) (e1 : S'.1 18 1 = S.1 18 1) (e2 : S'.1 41 18 = S.1 41 18) (e3 : S'.1 20 = S.1 20) (e4 : S'.1 53 = S.1 53) : txt S' T tl := by
  unfold txt
  rw [e1, e2, e3, e4]
  exact h
end relc
/-- nothing that counts has changed -/
def kp (k : Nat) : Bool := k == 2 || k == 3 || (decide (20 ≤ k) && decide (k ≤ 25)) || (decide (27 ≤ k) && decide (k ≤ 37)) || (decide (42 ≤ k) && decide (k ≤ 46)) || k == 53
def Ev (S S' : jS) : Prop := S'.2 = S.2 ∧ (∀ k, kp k = true → S'.1 k = S.1 k) ∧ S'.1 0 13 = S.1 0 13 ∧ S'.1 0 14 = S.1 0 14 ∧ S'.1 0 15 = S.1 0 15 ∧ S'.1 18 1 = S.1 18 1 ∧ S'.1 41 18 = S.1 41 18
theorem Ev.rfl' (S : jS) : Ev S S := ⟨rfl, fun _ _ => rfl, rfl, rfl, rfl, rfl, rfl⟩
theorem Ev.tr {S S1 S2 : jS} (h : Ev S S1) (g : Ev S1 S2) : Ev S S2 := ⟨g.1.trans h.1, fun k hk => (g.2.1 k hk).trans (h.2.1 k hk), g.2.2.1.trans h.2.2.1, g.2.2.2.1.trans h.2.2.2.1, g.2.2.2.2.1.trans h.2.2.2.2.1, g.2.2.2.2.2.1.trans h.2.2.2.2.2.1, g.2.2.2.2.2.2.trans h.2.2.2.2.2.2⟩
theorem Ev.R (S : jS) (k : Nat) (f : Nat → Int32) (hk : kp k = false) (h0 : k ≠ 0) (h1 : k ≠ 18) (h2 : k ≠ 41) : Ev S (jsR S k f) := by
  refine ⟨rfl, fun a ha => ?_, ?_, ?_, ?_, ?_, ?_⟩
  · rw [jsR_1, if_neg]
    intro e
    rw [e, hk] at ha
    cases ha
  · rw [jsR_1, if_neg (Ne.symm h0)]
  · rw [jsR_1, if_neg (Ne.symm h0)]
  · rw [jsR_1, if_neg (Ne.symm h0)]
  · rw [jsR_1, if_neg (Ne.symm h1)]
  · rw [jsR_1, if_neg (Ne.symm h2)]
theorem Ev.I (S : jS) (k j : Nat) (v : Int32) (hk : kp k = false) (h0 : k ≠ 0) (h1 : k ≠ 18) (h2 : k ≠ 41) : Ev S (jsI S k j v) := Ev.R S k _ hk h0 h1 h2
/-- a field of an object that holds others that count -/
theorem Ev.F (S : jS) (k j : Nat) (v : Int32) (h : (k = 0 ∧ j ≠ 13 ∧ j ≠ 14 ∧ j ≠ 15) ∨ (k = 18 ∧ j ≠ 1) ∨ (k = 41 ∧ j ≠ 18)) : Ev S (jsI S k j v) := by
  rcases h with ⟨rfl, a, b, c⟩ | ⟨rfl, a⟩ | ⟨rfl, a⟩
  · refine ⟨rfl, fun q hq => ?_, ?_, ?_, ?_, rfl, rfl⟩
    · rw [jsI_1, if_neg]; intro e; subst e; exact absurd hq (by decide)
    · rw [jsI_1, if_pos rfl, upd_1, if_neg (Ne.symm a)]
    · rw [jsI_1, if_pos rfl, upd_1, if_neg (Ne.symm b)]
    · rw [jsI_1, if_pos rfl, upd_1, if_neg (Ne.symm c)]
  · refine ⟨rfl, fun q hq => ?_, rfl, rfl, rfl, ?_, rfl⟩
    · rw [jsI_1, if_neg]; intro e; subst e; exact absurd hq (by decide)
    · rw [jsI_1, if_pos rfl, upd_1, if_neg (Ne.symm a)]
  · refine ⟨rfl, fun q hq => ?_, rfl, rfl, rfl, rfl, ?_⟩
    · rw [jsI_1, if_neg]; intro e; subst e; exact absurd hq (by decide)
    · rw [jsI_1, if_pos rfl, upd_1, if_neg (Ne.symm a)]
theorem tabs_ev {S S' : jS} (h : tabs S) (e : Ev S S') : tabs S' := tabs_c h (e.2.1 2 rfl) (e.2.1 3 rfl) (e.2.1 46 rfl)
theorem RR_ev {S S' : jS} {B T : Nat → Nat} {tl : Nat} (h : RR S B T tl) (e : Ev S S') : RR S' B T tl := by
  obtain ⟨h1, h2, h3, h4, h5, h6, h7, h8, h9⟩ := h
  have k := e.2.1
  refine ⟨tabs_ev h1 e, h2, by rw [k 42 rfl]; exact h3, cB_c h4 (k 21 rfl) (k 22 rfl) (k 23 rfl) (k 24 rfl) (k 25 rfl), im_c h5 (k 37 rfl) (k 44 rfl) (k 43 rfl) (k 27 rfl) (k 28 rfl) (k 29 rfl) (k 30 rfl) (k 31 rfl), im_c h6 (k 37 rfl) (k 44 rfl) (k 43 rfl) (k 32 rfl) (k 33 rfl) (k 34 rfl) (k 35 rfl) (k 36 rfl), ?_, ?_, txt_c h9 e.2.2.2.2.2.1 e.2.2.2.2.2.2 (k 20 rfl) (k 53 rfl)⟩
  · unfold stt
    rw [e.2.2.1, e.2.2.2.1, e.2.2.2.2.1, k 45 rfl]
    exact h7
  · unfold frc
    rw [e.1]
    exact h8
theorem O2_ev {α : Type} {S : jS} {F1 : Option (α × jS)} {F2 : jS → Option (α × jS)} (h : GG S) (r : α) (h1 : ∃ S1, F1 = some (r, S1) ∧ Ev S S1 ∧ ∃ S2, F2 S1 = some (r, S2) ∧ Ev S1 S2) : O2 F1 F2 := by
  obtain ⟨S1, e1, v1, S2, e2, v2⟩ := h1
  obtain ⟨B, T, tl, hR⟩ := h
  exact ⟨r, S1, S2, e1, e2, B, T, tl, RR_ev hR (v1.tr v2)⟩
/-! ===== refusals ===== -/
theorem X11_refuseBad (S : jS) : f_X11_refuseBad S = some (-2, jsI S 0 13 (S.1 0 13 + 1)) := rfl
theorem X11_refuseBadApart (S : jS) : f_X11_refuseBadApart S = some (-10, jsI S 0 13 (S.1 0 13 + 1)) := rfl
theorem X11_refuseNo (S : jS) : f_X11_refuseNo S = some (-3, jsI S 0 14 (S.1 0 14 + 1)) := rfl
theorem X11_refuseFull (S : jS) : f_X11_refuseFull S = some (-4, jsI S 0 15 (S.1 0 15 + 1)) := rfl
theorem X12_bad (x : Int32) (S : jS) : f_X12_bad x S = some (x, jsI S 45 0 (S.1 45 0 + 1)) := rfl
theorem X12_no (S : jS) : f_X12_no S = some (-3, jsI S 45 1 (S.1 45 1 + 1)) := rfl
theorem X12_full (S : jS) : f_X12_full S = some (-4, jsI S 45 2 (S.1 45 2 + 1)) := rfl
theorem GG_bad {S : jS} (h : GG S) : GG (jsI (jsI S 0 13 (S.1 0 13 + 1)) 45 0 (S.1 45 0 + 1)) := by
  obtain ⟨B, T, tl, h1, h2, h3, h4, h5, h6, h7, h8, h9⟩ := h
  exact ⟨B, T, tl, tabs_c h1 rfl rfl rfl, h2, h3, cB_c h4 rfl rfl rfl rfl rfl, im_c h5 rfl rfl rfl rfl rfl rfl rfl rfl, im_c h6 rfl rfl rfl rfl rfl rfl rfl rfl, ⟨congrArg (fun w => w + 1) h7.1, h7.2.1, h7.2.2⟩, h8, txt_c h9 rfl rfl rfl rfl⟩
theorem GG_no {S : jS} (h : GG S) : GG (jsI (jsI S 0 14 (S.1 0 14 + 1)) 45 1 (S.1 45 1 + 1)) := by
  obtain ⟨B, T, tl, h1, h2, h3, h4, h5, h6, h7, h8, h9⟩ := h
  exact ⟨B, T, tl, tabs_c h1 rfl rfl rfl, h2, h3, cB_c h4 rfl rfl rfl rfl rfl, im_c h5 rfl rfl rfl rfl rfl rfl rfl rfl, im_c h6 rfl rfl rfl rfl rfl rfl rfl rfl, ⟨h7.1, congrArg (fun w => w + 1) h7.2.1, h7.2.2⟩, h8, txt_c h9 rfl rfl rfl rfl⟩
theorem GG_full {S : jS} (h : GG S) : GG (jsI (jsI S 0 15 (S.1 0 15 + 1)) 45 2 (S.1 45 2 + 1)) := by
  obtain ⟨B, T, tl, h1, h2, h3, h4, h5, h6, h7, h8, h9⟩ := h
  exact ⟨B, T, tl, tabs_c h1 rfl rfl rfl, h2, h3, cB_c h4 rfl rfl rfl rfl rfl, im_c h5 rfl rfl rfl rfl rfl rfl rfl rfl, im_c h6 rfl rfl rfl rfl rfl rfl rfl rfl, ⟨h7.1, h7.2.1, congrArg (fun w => w + 1) h7.2.2⟩, h8, txt_c h9 rfl rfl rfl rfl⟩
theorem O2_bad {α : Type} {S : jS} {F1 : Option (α × jS)} {F2 : jS → Option (α × jS)} (h : GG S) (r : α) (h1 : F1 = some (r, jsI S 0 13 (S.1 0 13 + 1))) (h2 : F2 (jsI S 0 13 (S.1 0 13 + 1)) = some (r, jsI (jsI S 0 13 (S.1 0 13 + 1)) 45 0 (S.1 45 0 + 1))) : O2 F1 F2 := ⟨r, _, _, h1, h2, GG_bad h⟩
theorem O2_no {α : Type} {S : jS} {F1 : Option (α × jS)} {F2 : jS → Option (α × jS)} (h : GG S) (r : α) (h1 : F1 = some (r, jsI S 0 14 (S.1 0 14 + 1))) (h2 : F2 (jsI S 0 14 (S.1 0 14 + 1)) = some (r, jsI (jsI S 0 14 (S.1 0 14 + 1)) 45 1 (S.1 45 1 + 1))) : O2 F1 F2 := ⟨r, _, _, h1, h2, GG_no h⟩
theorem O2_full {α : Type} {S : jS} {F1 : Option (α × jS)} {F2 : jS → Option (α × jS)} (h : GG S) (r : α) (h1 : F1 = some (r, jsI S 0 15 (S.1 0 15 + 1))) (h2 : F2 (jsI S 0 15 (S.1 0 15 + 1)) = some (r, jsI (jsI S 0 15 (S.1 0 15 + 1)) 45 2 (S.1 45 2 + 1))) : O2 F1 F2 := ⟨r, _, _, h1, h2, GG_full h⟩
theorem X12_inN (x : Int32) (lo hi : Nat) (h1 : lo < 2147483648) (h2 : hi < 2147483648) (S : jS) : f_X12_in x.toInt64 (lN lo) (lN hi) S = some (bI (okr x lo hi), S) := by
  rw [X12_in, lN_toInt h1, lN_toInt h2]
  rfl
theorem rng0 {α : Type} (x : Int32) (n : Nat) (hn : n < 2147483648) (a b : α) : (if x < 0 then a else if nI n < x then a else b) = if okr x 0 n = true then b else a := by
  unfold okr
  simp only [decide_eq_true_eq]
  by_cases h1 : x < 0
  · rw [if_pos h1]
    rw [Int32.lt_iff_toInt_lt] at h1
    have h1 : x.toInt < 0 := h1
    rw [if_neg (by omega)]
  · rw [if_neg h1]
    rw [Int32.lt_iff_toInt_lt] at h1
    have h1 : ¬ x.toInt < 0 := h1
    by_cases h2 : nI n < x
    · rw [if_pos h2]
      rw [Int32.lt_iff_toInt_lt, nI_toInt hn] at h2
      rw [if_neg (by omega)]
    · rw [if_neg h2]
      rw [Int32.lt_iff_toInt_lt, nI_toInt hn] at h2
      rw [if_pos (by omega)]
theorem okr_f {x : Int32} {lo hi a : Nat} (h : okr x lo hi = false) (h1 : lo ≤ a) (h2 : a ≤ hi) (ha : a < 2147483648) : ¬ x = nI a := by
  intro e
  rw [e, okr_nI ha, decide_eq_true ⟨h1, h2⟩] at h
  cases h
/-! ===== the small calls ===== -/
theorem op_clear {S : jS} (h : GG S) : O2 (f_X11_clear S) f_X12_clear := by
  obtain ⟨B, T, tl, h1, h2, h3, h4, h5, h6, h7, h8, h9⟩ := h
  refine ⟨S.1 18 1, jsI S 18 1 0, jsI (jsI S 18 1 0) 41 18 0, rfl, ?_, B, T, 0, tabs_c h1 rfl rfl rfl, h2, h3, cB_c h4 rfl rfl rfl rfl rfl, im_c h5 rfl rfl rfl rfl rfl rfl rfl rfl, im_c h6 rfl rfl rfl rfl rfl rfl rfl rfl, h7, h8, Nat.zero_le _, rfl, rfl, fun j hj => absurd hj (Nat.not_lt_zero _)⟩
  show some (S.1 41 18, _) = _
  rw [h9.2.1, h9.2.2.1]
theorem op_part (x : Int32) {S : jS} (h : GG S) : O2 (f_X11_part x S) (f_X12_part x) := by
  cases hx : okr x 0 1 with
  | false =>
    have e0 : ¬ x = 0 := okr_f (a := 0) hx (by omega) (by omega) (by omega)
    have e1 : ¬ x = 1 := okr_f (a := 1) hx (by omega) (by omega) (by omega)
    refine O2_bad h ((-2 : Int32).toInt64) ?_ ?_
    · unfold f_X11_part f_X11_part_e
      rw [X11_isBit, jcl_s, hx, ite_b, if_neg (by decide), X11_refuseBad, jcl_s]
    · unfold f_X12_part f_X12_part_e f_X12_part_30
      rw [if_neg e0, if_neg e1, X12_bad, jcl_s]
      rfl
  | true =>
    obtain ⟨a, -, ha, rfl⟩ := okr_of hx (by omega)
    obtain ⟨B, T, tl, hR⟩ := id h
    obtain ⟨-, -, -, -, -, -, -, h8, -⟩ := hR
    rcases (show a = 0 ∨ a = 1 by omega) with rfl | rfl
    · refine ⟨S.2 0 11, S, S, ?_, ?_, h⟩
      · unfold f_X11_part f_X11_part_e
        rw [X11_isBit, jcl_s, hx]; rfl
      · rw [h8.1]; rfl
    · refine ⟨S.2 0 12, S, S, ?_, ?_, h⟩
      · unfold f_X11_part f_X11_part_e
        rw [X11_isBit, jcl_s, hx]; rfl
      · rw [h8.2]; rfl
theorem op_status (x : Int32) {S : jS} (h : GG S) : O2 (f_X11_status x S) (f_X12_status x) := by
  cases hx : okr x 0 2 with
  | false =>
    have e0 : ¬ x = 0 := okr_f (a := 0) hx (by omega) (by omega) (by omega)
    have e1 : ¬ x = 1 := okr_f (a := 1) hx (by omega) (by omega) (by omega)
    have e2 : ¬ x = 2 := okr_f (a := 2) hx (by omega) (by omega) (by omega)
    refine O2_bad h (-1) ?_ ?_
    · unfold f_X11_status f_X11_status_e
      rw [if_neg e0, if_neg e1, if_neg e2, jpt_s]
    · unfold f_X12_status f_X12_status_e f_X12_status_26
      rw [show f_X12_in x.toInt64 0 2 _ = some (bI (okr x 0 2), _) from X12_inN x 0 2 (by omega) (by omega) _, jcl_s, hx, ite_b, if_neg (by decide), X12_bad, jcl_s]
      rfl
  | true =>
    obtain ⟨a, -, ha, rfl⟩ := okr_of hx (by omega)
    obtain ⟨B, T, tl, hR⟩ := id h
    obtain ⟨-, -, -, -, -, -, h7, -, -⟩ := hR
    have key : f_X12_status (nI a) S = some (S.1 45 a, S) := by
      unfold f_X12_status f_X12_status_e f_X12_status_26
      rw [show f_X12_in (nI a).toInt64 0 2 _ = some (bI (okr (nI a) 0 2), _) from X12_inN (nI a) 0 2 (by omega) (by omega) _, jcl_s, hx, ite_b, if_pos rfl, jld_nI (by omega) (by omega)]
    rcases (show a = 0 ∨ a = 1 ∨ a = 2 by omega) with rfl | rfl | rfl
    · exact ⟨S.1 0 13, S, S, rfl, by rw [key, h7.1], h⟩
    · exact ⟨S.1 0 14, S, S, rfl, by rw [key, h7.2.1], h⟩
    · exact ⟨S.1 0 15, S, S, rfl, by rw [key, h7.2.2], h⟩
theorem X12_mayNow {S : jS} {B T : Nat → Nat} {tl : Nat} (hR : RR S B T tl) {a b : Nat} (ha0 : 0 < a) (ha : a ≤ 300) (hb0 : 0 < b) (hb : b ≤ 300) : f_X12_mayNow (nI a) (nI b) S = some (bI (may (B 8) (B 9) a b), S) := by
  obtain ⟨h1, h2, h3, -⟩ := hR
  unfold f_X12_mayNow f_X12_mayNow_e
  rw [q8, q9, jld_nI (by omega) (by omega), jld_nI (by omega) (by omega), h3 8 (by omega), h3 9 (by omega), X12_mayBy h1 h2.2.1 h2.2.2.1 ha0 ha hb0 hb, jcl_s, jzr_b]
theorem op_may (x y : Int32) {S : jS} (h : GG S) : O2 (f_X11_may x y S) (f_X12_may x y) := by
  obtain ⟨B, T, tl, hR⟩ := id h
  cases hx : okr x 1 300 with
  | false =>
    refine O2_bad h (-2) ?_ ?_
    · unfold f_X11_may f_X11_may_e f_X11_may_14
      rw [X11_isNumber, jcl_s, hx, ite_b, if_neg (by decide), X11_refuseBad, jcl_s]
    · unfold f_X12_may f_X12_may_e f_X12_may_31 f_X12_may_37
      rw [X12_isNumber, jcl_s, hx, ite_b, if_neg (by decide), X12_bad, jcl_s]
      rfl
  | true =>
    cases hy : okr y 1 300 with
    | false =>
      refine O2_bad h (-2) ?_ ?_
      · unfold f_X11_may f_X11_may_e f_X11_may_14
        rw [X11_isNumber, jcl_s, hx, ite_b, if_pos rfl, X11_isNumber, jcl_s, hy, ite_b, if_neg (by decide), X11_refuseBad, jcl_s]
      · unfold f_X12_may f_X12_may_e f_X12_may_31 f_X12_may_37
        rw [X12_isNumber, jcl_s, hx, ite_b, if_pos rfl, X12_isNumber, jcl_s, hy, ite_b, if_neg (by decide), X12_bad, jcl_s]
        rfl
    | true =>
      obtain ⟨a, ha0, ha, rfl⟩ := okr_of hx (by omega)
      obtain ⟨b, hb0, hb, rfl⟩ := okr_of hy (by omega)
      refine ⟨bI (may (B 8) (B 9) a b), S, S, ?_, ?_, h⟩
      · unfold f_X11_may f_X11_may_e
        rw [X11_isNumber, jcl_s, hx, ite_b, if_pos rfl, X11_isNumber, jcl_s, hy, ite_b, if_pos rfl]
        obtain ⟨h1, h2, h3, h4, -⟩ := hR
        rw [h4.2.1, X2_allows h1 h2.2.1 h2.2.2.1 ha hb, jcl_s, X11_bit, jcl_s]
        unfold mayE
        rw [decide_eq_false (by omega), decide_eq_false (by omega)]
        rfl
      · unfold f_X12_may f_X12_may_e f_X12_may_37
        rw [X12_isNumber, jcl_s, hx, ite_b, if_pos rfl, X12_isNumber, jcl_s, hy, ite_b, if_pos rfl, X12_mayNow hR ha0 ha hb0 hb, jcl_s, ite_b]
        cases may (B 8) (B 9) a b <;> rfl
