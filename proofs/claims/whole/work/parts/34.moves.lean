/-! ===== what is kept for undo ===== -/
def upB (B : Nat → Nat) (k v : Nat) : Nat → Nat := fun j => if j = k then v else B j
theorem upB_s (B : Nat → Nat) (k v : Nat) : upB B k v k = v := if_pos rfl
theorem upB_n (B : Nat → Nat) {k v j : Nat} (h : j ≠ k) : upB B k v j = B j := if_neg h
/-- the count of what may be undone, once the oldest has gone -/
def pcB (B : Nat → Nat) : Nat := if B 12 = 8 then 7 else B 12
def kB (B : Nat → Nat) : Nat → Nat := fun j => if j = 12 then pcB B + 1 else if 69 + 10 * pcB B ≤ j ∧ j < 79 + 10 * pcB B then B (j - (69 + 10 * pcB B)) else if B 12 = 8 ∧ 69 ≤ j ∧ j < 139 then B (j + 10) else B j
theorem kB_low (B : Nat → Nat) {j : Nat} (h : j < 69) (h2 : j ≠ 12) : kB B j = B j := by
  unfold kB
  rw [if_neg h2, if_neg (by omega), if_neg (by omega)]
theorem kB_12 (B : Nat → Nat) : kB B 12 = pcB B + 1 := if_pos rfl
theorem kB_top (B : Nat → Nat) {j : Nat} (h : j < 10) : kB B (69 + 10 * pcB B + j) = B j := by
  unfold kB
  rw [if_neg (by omega), if_pos ⟨by omega, by omega⟩]
  congr 1
  omega
theorem kB_old (B : Nat → Nat) {i j : Nat} (hi : i < pcB B) (h : j < 10) : kB B (69 + 10 * i + j) = if B 12 = 8 then B (69 + 10 * (i + 1) + j) else B (69 + 10 * i + j) := by
  have hp : B 12 = 8 → pcB B = 7 := fun h => if_pos h
  unfold kB
  rw [if_neg (by omega), if_neg (by omega)]
  by_cases h8 : B 12 = 8
  · have := hp h8
    rw [if_pos ⟨h8, by omega, by omega⟩, if_pos h8]
    congr 1
    omega
  · rw [if_neg (fun q => h8 q.1), if_neg h8]
theorem pcB_le {B : Nat → Nat} (h : B 12 ≤ 8) : pcB B ≤ 7 := by
  unfold pcB
  split <;> omega
theorem vB_kB {B : Nat → Nat} (h : vB B) : vB (kB B) := by
  obtain ⟨h1, h2, h3, h4, h5, h6, h7, h8, h9⟩ := h
  have hp := pcB_le h6
  have e10 : kB B 10 = B 10 := kB_low B (by omega) (by omega)
  have e11 : kB B 11 = B 11 := kB_low B (by omega) (by omega)
  refine ⟨fun j hj => ?_, ?_, ?_, ?_, ?_, ?_, fun i hi => ?_, fun i hi => ?_, fun i hi => ?_⟩
  · rw [kB_low B (by omega) (by omega)]; exact h1 j hj
  · rw [kB_low B (by omega) (by omega)]; exact h2
  · rw [kB_low B (by omega) (by omega)]; exact h3
  · rw [e10]; exact h4
  · rw [e11]; exact h5
  · rw [kB_12]; omega
  · rw [e10] at hi
    rw [kB_low B (by omega) (by omega), kB_low B (by omega) (by omega), kB_low B (by omega) (by omega), kB_low B (by omega) (by omega)]
    exact h7 i hi
  · rw [e11] at hi
    rw [kB_low B (by omega) (by omega), kB_low B (by omega) (by omega), kB_low B (by omega) (by omega)]
    exact h8 i hi
  · rw [kB_12] at hi
    have key : (∀ h, h < 10 → kB B (69 + 10 * i + h) = B h) ∨ ∃ q, q < B 12 ∧ ∀ h, h < 10 → kB B (69 + 10 * i + h) = B (69 + 10 * q + h) := by
      rcases Nat.lt_or_ge i (pcB B) with hl | hl
      · refine Or.inr ⟨if B 12 = 8 then i + 1 else i, ?_, fun h hh => ?_⟩
        · unfold pcB at hl
          split <;> split at hl <;> omega
        · rw [kB_old B hl hh]
          split <;> rfl
      · have : i = pcB B := by omega
        subst this
        exact Or.inl (fun h hh => kB_top B hh)
    rcases key with k | ⟨q, hq, k⟩
    · refine ⟨fun h hh => ?_, ?_, ?_⟩
      · rw [k h (by omega)]; exact h1 h hh
      · have := k 8 (by omega)
        rw [show 77 + 10 * i = 69 + 10 * i + 8 by omega, this]; exact h2
      · have := k 9 (by omega)
        rw [show 78 + 10 * i = 69 + 10 * i + 9 by omega, this]; exact h3
    · obtain ⟨g1, g2, g3⟩ := h9 q hq
      refine ⟨fun h hh => ?_, ?_, ?_⟩
      · rw [k h (by omega)]; exact g1 h hh
      · have := k 8 (by omega)
        rw [show 77 + 10 * i = 69 + 10 * i + 8 by omega, this, show 69 + 10 * q + 8 = 77 + 10 * q by omega]; exact g2
      · have := k 9 (by omega)
        rw [show 78 + 10 * i = 69 + 10 * i + 9 by omega, this, show 69 + 10 * q + 9 = 78 + 10 * q by omega]; exact g3
theorem jsI_R (S : jS) (k j : Nat) (v : Int32) (f : Nat → Int32) : jsI (jsR S k f) k j v = jsR S k (upd f j v) := by
  unfold jsI
  rw [jsR_R, jsR_1, if_pos rfl]
theorem jcb_nI {n0 n1 a b c : Nat} (ha : a + c ≤ n0) (hb : b + c ≤ n1) (h0 : n0 < 2147483648) (h1 : n1 < 2147483648) : jcb n0 n1 (nI a) (nI b) (nI c) = true := by
  unfold jcb
  rw [decide_eq_true_eq, qcl (by omega), qcl (by omega), qcl (by omega)]
  exact ⟨nI_pos (by omega), nI_pos (by omega), nI_pos (by omega), ha, hb⟩
theorem jcp_nI {β : Type} {S : jS} {k0 n0 k1 n1 a b c : Nat} {E : jS → Option β} (ha : a + c ≤ n0) (hb : b + c ≤ n1) (h0 : n0 < 2147483648) (h1 : n1 < 2147483648) : jcp S k0 n0 (nI a) k1 n1 (nI b) (nI c) E = E (jsR S k1 (va_cpy (S.1 k0) (S.1 k1) a b c)) := by
  unfold jcp
  rw [if_pos (jcb_nI ha hb h0 h1), qcl (by omega), qcl (by omega), qcl (by omega)]
theorem X12_keep_14 {k44 : jS → Option jS} (S : jS) : lp_X12_keep_14 k44 0 S = k44 (jsR S 42 (fun j => if 69 ≤ j ∧ j < 139 then S.1 42 (j + 10) else S.1 42 j)) := by
  have key : ∀ (x : Nat) (f : Nat → Int32), x ≤ 70 → lp_X12_keep_14 k44 (nI x) (jsR S 42 f) = k44 (jsR S 42 (fun j => if 69 + x ≤ j ∧ j < 139 then f (j + 10) else f j)) := by
    intro x f hx
    unfold lp_X12_keep_14
    refine jloop_wf (fun a => ∃ x f, x ≤ 70 ∧ a = (nI x, jsR S 42 f)) (fun a => 70 - a.1.toNatClampNeg) (fun a => k44 (jsR S 42 (fun j => if 69 + a.1.toNatClampNeg ≤ j ∧ j < 139 then a.2.1 42 (j + 10) else a.2.1 42 j))) ?_ jN (nI x, jsR S 42 f) ⟨x, f, hx, rfl⟩ (jN_big (by show 70 - (nI x).toNatClampNeg < _; omega)) |>.trans ?_
    · rintro _ ⟨x, f, hx, rfl⟩ g hg
      dsimp only
      unfold f_X12_keep_14
      simp (disch := omega) only [show (70 : Int32) = nI 70 from rfl, show (79 : Int32) = nI 79 from rfl, show (69 : Int32) = nI 69 from rfl, q1, qlt, qadd, qcl]
      by_cases h : x < 70
      · rw [if_pos h, jld_nI (by omega) (by omega), jst_nI (by omega) (by omega), jsI_R, hg _ ⟨x + 1, _, by omega, rfl⟩ (by simp (disch := omega) only [qcl]; omega)]
        simp (disch := omega) only [qcl, jsR_1, if_true]
        congr 2
        funext j
        simp only [upd_1]
        by_cases h1 : j = 69 + x
        · subst h1
          rw [if_neg (by omega), if_pos rfl, if_pos (by omega)]
          congr 1
          omega
        · by_cases h2 : 69 + (x + 1) ≤ j ∧ j < 139
          · rw [if_pos h2, if_neg (by omega), if_pos (by omega)]
          · rw [if_neg h2, if_neg h1, if_neg (by omega)]
      · have e : x = 70 := by omega
        subst e
        rw [if_neg (by omega)]
        congr 2
        funext j
        rw [if_neg (by omega)]
        rfl
    · simp (disch := omega) only [qcl, jsR_1, if_true]
  have := key 0 (S.1 42) (by omega)
  rw [jsR_self] at this
  exact this
theorem X12_keep_55 {k93 : jS → Option jS} {S : jS} {c : Nat} (hc : c ≤ 7) (h12 : S.1 42 12 = nI c) : lp_X12_keep_55 k93 0 S = k93 (jsR S 42 (fun j => if 69 + 10 * c ≤ j ∧ j < 79 + 10 * c then S.1 42 (j - (69 + 10 * c)) else S.1 42 j)) := by
  have key : ∀ (x : Nat) (f : Nat → Int32), x ≤ 10 → f 12 = nI c → lp_X12_keep_55 k93 (nI x) (jsR S 42 f) = k93 (jsR S 42 (fun j => if 69 + 10 * c + x ≤ j ∧ j < 79 + 10 * c then f (j - (69 + 10 * c)) else f j)) := by
    intro x f hx hf
    unfold lp_X12_keep_55
    refine jloop_wf (fun a => ∃ x f, x ≤ 10 ∧ f 12 = nI c ∧ a = (nI x, jsR S 42 f)) (fun a => 10 - a.1.toNatClampNeg) (fun a => k93 (jsR S 42 (fun j => if 69 + 10 * c + a.1.toNatClampNeg ≤ j ∧ j < 79 + 10 * c then a.2.1 42 (j - (69 + 10 * c)) else a.2.1 42 j))) ?_ jN (nI x, jsR S 42 f) ⟨x, f, hx, hf, rfl⟩ (jN_big (by show 10 - (nI x).toNatClampNeg < _; omega)) |>.trans ?_
    · rintro _ ⟨x, f, hx, hf, rfl⟩ g hg
      dsimp only
      unfold f_X12_keep_55
      have e12 : (jsR S 42 f).1 42 12 = nI c := hf
      simp (disch := omega) only [show (12 : Int32) = nI 12 from rfl, show (69 : Int32) = nI 69 from rfl, q10, q1, qlt, jld_nI, e12, qmul, qadd, qcl]
      by_cases h : x < 10
      · rw [if_pos h, jst_nI (by omega) (by omega), jsI_R, hg _ ⟨x + 1, _, by omega, by rw [upd_1, if_neg (by omega)]; exact hf, rfl⟩ (by simp (disch := omega) only [qcl]; omega)]
        simp (disch := omega) only [qcl, jsR_1, if_true]
        congr 2
        funext j
        simp only [upd_1]
        by_cases h1 : j = 69 + 10 * c + x
        · subst h1
          rw [if_neg (by omega), if_pos rfl, if_pos (by omega)]
          congr 1
          omega
        · by_cases h2 : 69 + 10 * c + (x + 1) ≤ j ∧ j < 79 + 10 * c
          · rw [if_pos h2, if_neg (by omega), if_pos (by omega)]
          · rw [if_neg h2, if_neg h1, if_neg (by omega)]
      · have e : x = 10 := by omega
        subst e
        rw [if_neg (by omega)]
        congr 2
        funext j
        rw [if_neg (by omega)]
        rfl
    · simp (disch := omega) only [qcl, jsR_1, if_true]
  have := key 0 (S.1 42) (by omega) h12
  rw [jsR_self] at this
  exact this
theorem X12_keep {S : jS} {B : Nat → Nat} (hv : vB B) (hm : mB (S.1 42) B) : ∃ f, f_X12_keep S = some (jsR S 42 f) ∧ mB f (kB B) := by
  have h12 := hm 12 (by omega)
  have hle : B 12 ≤ 8 := hv.2.2.2.2.2.1
  unfold f_X12_keep f_X12_keep_e
  rw [show (12 : Int32) = nI 12 from rfl, jld_nI (by omega) (by omega), h12]
  have fin : ∀ (f : Nat → Int32) (B1 : Nat → Nat) (c : Nat), c ≤ 7 → mB f B1 → B1 12 = c → (∀ j, kB B j = if j = 12 then c + 1 else if 69 + 10 * c ≤ j ∧ j < 79 + 10 * c then B1 (j - (69 + 10 * c)) else B1 j) → ∃ f', f_X12_keep_53 (jsR S 42 f) = some (jsR S 42 f') ∧ mB f' (kB B) := by
    intro f B1 c hc hf h1 hk
    have e12 : (jsR S 42 f).1 42 12 = nI c := by
      show f 12 = _
      rw [hf 12 (by omega), h1]
    unfold f_X12_keep_53
    rw [X12_keep_55 hc e12]
    unfold f_X12_keep_93
    rw [jsR_R, show (12 : Int32) = nI 12 from rfl, jld_nI (by omega) (by omega), jst_nI (by omega) (by omega), jsI_R]
    refine ⟨_, rfl, fun j hj => ?_⟩
    rw [hk j]
    simp only [upd_1, jsR_1, if_true]
    by_cases h2 : j = 12
    · rw [if_pos h2, if_pos h2, if_neg (by omega), hf 12 (by omega), h1, q1, qadd]
    · rw [if_neg h2, if_neg h2]
      by_cases h3 : 69 + 10 * c ≤ j ∧ j < 79 + 10 * c
      · rw [if_pos h3, if_pos h3, hf _ (by omega)]
      · rw [if_neg h3, if_neg h3, hf j hj]
  by_cases h8 : B 12 = 8
  · rw [if_pos (show nI (B 12) = 8 by rw [h8]; rfl), X12_keep_14]
    unfold f_X12_keep_44
    rw [show (12 : Int32) = nI 12 from rfl, jst_nI (by omega) (by omega), jsI_R]
    refine fin _ (fun j => if j = 12 then 7 else if 69 ≤ j ∧ j < 139 then B (j + 10) else B j) 7 (by omega) (fun j hj => ?_) rfl (fun j => ?_)
    · simp only [upd_1]
      by_cases h2 : j = 12
      · rw [if_pos h2, if_pos h2]; rfl
      · rw [if_neg h2, if_neg h2]
        by_cases h3 : 69 ≤ j ∧ j < 139
        · rw [if_pos h3, if_pos h3, hm _ (by omega)]
        · rw [if_neg h3, if_neg h3, hm j hj]
    · have hp : pcB B = 7 := if_pos h8
      unfold kB
      rw [hp]
      by_cases h2 : j = 12
      · rw [if_pos h2, if_pos h2]
      · rw [if_neg h2, if_neg h2]
        by_cases h3 : 69 + 10 * 7 ≤ j ∧ j < 79 + 10 * 7
        · rw [if_pos h3, if_pos h3]
          by_cases h4 : j - (69 + 10 * 7) = 12
          · omega
          · rw [if_neg h4, if_neg (by omega)]
        · rw [if_neg h3, if_neg h3, if_neg h2]
          by_cases h4 : 69 ≤ j ∧ j < 139
          · rw [if_pos ⟨h8, h4⟩, if_pos h4]
          · rw [if_neg (fun q => h4 q.2), if_neg h4]
  · rw [if_neg (show ¬ nI (B 12) = 8 from fun e => h8 (by rw [q8, qeq (by omega) (by omega)] at e; exact e))]
    have hp : pcB B = B 12 := if_neg h8
    have := fin (S.1 42) B (B 12) (by omega) hm rfl (fun j => ?_)
    · rw [jsR_self] at this
      exact this
    · unfold kB
      rw [hp]
      by_cases h2 : j = 12
      · rw [if_pos h2, if_pos h2]
      · rw [if_neg h2, if_neg h2]
        by_cases h3 : 69 + 10 * B 12 ≤ j ∧ j < 79 + 10 * B 12
        · rw [if_pos h3, if_pos h3]
        · rw [if_neg h3, if_neg h3, if_neg (fun q => h8 q.1)]
